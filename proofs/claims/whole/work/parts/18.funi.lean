-- KernelGymModel.section (I)I
def f191 (kad : Nat → Nat) (N : Nat) (Z : AZ) (a0 : Nat) (i1 : Int32) (I : AI) : Option (Int32 × AI) :=
  (f186 kad N Z i1 (0 : Int32) (1 : Int32) I).bind fun r4_1 =>
  (isK Z a0 11).bind fun u13_2 =>
  (f190 kad N Z a0 r4_1.1 (0 : Int32) i1 (0 : Int32) (0 : Int32) (0 : Int32) (0 : Int32) r4_1.2).bind fun r13_3 =>
  some (r13_3.1, r13_3.2)
set_option maxRecDepth 20000 in
theorem Tf191 {kad : Nat → Nat} {N : Nat} {Z : AZ} {d : Nat} {t : Option Nat × (Nat × Nat)} (hd : 2 ≤ d) : ∀ (a0 : Nat) (i1 : Int32) (I : AI) (r : Int32 × AI), f191 kad N Z a0 i1 I = some r → aGo kad d 191 (0, ([(0, .ref a0), (1, .int i1)], [])) (aMem Z I, t) (qI Z t r) := by
  intro a0 i1 I r h
  unfold f191 at h
  refine go_ops aMi191 4 _ (f1 := (4, ([(0, .ref a0), (1, .int i1)], [.int (1 : Int32), .int (0 : Int32), .int i1, .ref a0]))) rfl ?_
  obtain ⟨r4_1, hxr4_1, h⟩ := Option.bind_eq_some_iff.mp h
  refine gg_cs (as := [.int i1, .int (0 : Int32), .int (1 : Int32)]) (r := [.ref a0]) aMi191 rfl rfl rfl aMi186 rfl (Nat.le_of_ble_eq_true rfl) (Nat.le_of_ble_eq_true rfl) (by omega) (Tf186 (by omega) i1 (0 : Int32) (1 : Int32) I _ hxr4_1) ?_
  show aGo kad d 191 (7, ([(0, .ref a0), (1, .int i1)], [.int r4_1.1, .ref a0])) (aMem Z r4_1.2, t) _
  refine go_ops aMi191 6 _ (f1 := (13, ([(0, .ref a0), (1, .int i1)], [.int (0 : Int32), .int (0 : Int32), .int (0 : Int32), .int (0 : Int32), .int i1, .int (0 : Int32), .int r4_1.1, .ref a0]))) rfl ?_
  obtain ⟨u13_2, hxu13_2, h⟩ := Option.bind_eq_some_iff.mp h
  obtain ⟨r13_3, hxr13_3, h⟩ := Option.bind_eq_some_iff.mp h
  refine gg_cv (as := [.int r4_1.1, .int (0 : Int32), .int i1, .int (0 : Int32), .int (0 : Int32), .int (0 : Int32), .int (0 : Int32)]) (r := []) aMi191 rfl rfl rfl aMi190 (Nat.le_of_ble_eq_true rfl) rfl (Nat.le_of_ble_eq_true rfl) (Nat.le_of_ble_eq_true rfl) (by omega) hxu13_2 (Tf190 (by omega) a0 r4_1.1 (0 : Int32) i1 (0 : Int32) (0 : Int32) (0 : Int32) (0 : Int32) r4_1.2 _ hxr13_3) ?_
  show aGo kad d 191 (16, ([(0, .ref a0), (1, .int i1)], [.int r13_3.1])) (aMem Z r13_3.2, t) _
  cases h
  exact go_ret aMi191 rfl aRetI ⟨rfl, rfl⟩
-- KernelGymModel.label (I)I
def f192 (kad : Nat → Nat) (N : Nat) (Z : AZ) (a0 : Nat) (i1 : Int32) (I : AI) : Option (Int32 × AI) :=
  (f186 kad N Z i1 (0 : Int32) (19 : Int32) I).bind fun r5_1 =>
  (isK Z a0 11).bind fun u14_2 =>
  (f190 kad N Z a0 r5_1.1 (1 : Int32) i1 (0 : Int32) (0 : Int32) (0 : Int32) (0 : Int32) r5_1.2).bind fun r14_3 =>
  some (r14_3.1, r14_3.2)
set_option maxRecDepth 20000 in
theorem Tf192 {kad : Nat → Nat} {N : Nat} {Z : AZ} {d : Nat} {t : Option Nat × (Nat × Nat)} (hd : 2 ≤ d) : ∀ (a0 : Nat) (i1 : Int32) (I : AI) (r : Int32 × AI), f192 kad N Z a0 i1 I = some r → aGo kad d 192 (0, ([(0, .ref a0), (1, .int i1)], [])) (aMem Z I, t) (qI Z t r) := by
  intro a0 i1 I r h
  unfold f192 at h
  refine go_ops aMi192 4 _ (f1 := (5, ([(0, .ref a0), (1, .int i1)], [.int (19 : Int32), .int (0 : Int32), .int i1, .ref a0]))) rfl ?_
  obtain ⟨r5_1, hxr5_1, h⟩ := Option.bind_eq_some_iff.mp h
  refine gg_cs (as := [.int i1, .int (0 : Int32), .int (19 : Int32)]) (r := [.ref a0]) aMi192 rfl rfl rfl aMi186 rfl (Nat.le_of_ble_eq_true rfl) (Nat.le_of_ble_eq_true rfl) (by omega) (Tf186 (by omega) i1 (0 : Int32) (19 : Int32) I _ hxr5_1) ?_
  show aGo kad d 192 (8, ([(0, .ref a0), (1, .int i1)], [.int r5_1.1, .ref a0])) (aMem Z r5_1.2, t) _
  refine go_ops aMi192 6 _ (f1 := (14, ([(0, .ref a0), (1, .int i1)], [.int (0 : Int32), .int (0 : Int32), .int (0 : Int32), .int (0 : Int32), .int i1, .int (1 : Int32), .int r5_1.1, .ref a0]))) rfl ?_
  obtain ⟨u14_2, hxu14_2, h⟩ := Option.bind_eq_some_iff.mp h
  obtain ⟨r14_3, hxr14_3, h⟩ := Option.bind_eq_some_iff.mp h
  refine gg_cv (as := [.int r5_1.1, .int (1 : Int32), .int i1, .int (0 : Int32), .int (0 : Int32), .int (0 : Int32), .int (0 : Int32)]) (r := []) aMi192 rfl rfl rfl aMi190 (Nat.le_of_ble_eq_true rfl) rfl (Nat.le_of_ble_eq_true rfl) (Nat.le_of_ble_eq_true rfl) (by omega) hxu14_2 (Tf190 (by omega) a0 r5_1.1 (1 : Int32) i1 (0 : Int32) (0 : Int32) (0 : Int32) (0 : Int32) r5_1.2 _ hxr14_3) ?_
  show aGo kad d 192 (17, ([(0, .ref a0), (1, .int i1)], [.int r14_3.1])) (aMem Z r14_3.2, t) _
  cases h
  exact go_ret aMi192 rfl aRetI ⟨rfl, rfl⟩
-- KernelGymModel.code (IIIII)I
def f193_b43 (kad : Nat → Nat) (N : Nat) (Z : AZ) (a0 : Nat) (i1 : Int32) (i2 : Int32) (i3 : Int32) (i4 : Int32) (i5 : Int32) (s0 : Int32) (I : AI) : Option (Int32 × AI) :=
  (isK Z a0 11).bind fun u65_1 =>
  (f190 kad N Z a0 s0 (2 : Int32) i4 i5 ((((16 : Int32) * i1) + ((4 : Int32) * i2)) + i3) (0 : Int32) (0 : Int32) I).bind fun r65_2 =>
  some (r65_2.1, r65_2.2)
set_option maxRecDepth 20000 in
theorem Tf193_b43 {kad : Nat → Nat} {N : Nat} {Z : AZ} {d : Nat} {t : Option Nat × (Nat × Nat)} (hd : 2 ≤ d) : ∀ (a0 : Nat) (i1 : Int32) (i2 : Int32) (i3 : Int32) (i4 : Int32) (i5 : Int32) (s0 : Int32) (I : AI) (r : Int32 × AI), f193_b43 kad N Z a0 i1 i2 i3 i4 i5 s0 I = some r → aGo kad d 193 (43, ([(0, .ref a0), (1, .int i1), (2, .int i2), (3, .int i3), (4, .int i4), (5, .int i5)], [.int s0])) (aMem Z I, t) (qI Z t r) := by
  intro a0 i1 i2 i3 i4 i5 s0 I r h
  unfold f193_b43 at h
  refine go_ops aMi193 17 _ (f1 := (65, ([(6, .int s0), (0, .ref a0), (1, .int i1), (2, .int i2), (3, .int i3), (4, .int i4), (5, .int i5)], [.int (0 : Int32), .int (0 : Int32), .int ((((16 : Int32) * i1) + ((4 : Int32) * i2)) + i3), .int i5, .int i4, .int (2 : Int32), .int s0, .ref a0]))) rfl ?_
  obtain ⟨u65_1, hxu65_1, h⟩ := Option.bind_eq_some_iff.mp h
  obtain ⟨r65_2, hxr65_2, h⟩ := Option.bind_eq_some_iff.mp h
  refine gg_cv (as := [.int s0, .int (2 : Int32), .int i4, .int i5, .int ((((16 : Int32) * i1) + ((4 : Int32) * i2)) + i3), .int (0 : Int32), .int (0 : Int32)]) (r := []) aMi193 rfl rfl rfl aMi190 (Nat.le_of_ble_eq_true rfl) rfl (Nat.le_of_ble_eq_true rfl) (Nat.le_of_ble_eq_true rfl) (by omega) hxu65_1 (Tf190 (by omega) a0 s0 (2 : Int32) i4 i5 ((((16 : Int32) * i1) + ((4 : Int32) * i2)) + i3) (0 : Int32) (0 : Int32) I _ hxr65_2) ?_
  show aGo kad d 193 (68, ([(6, .int s0), (0, .ref a0), (1, .int i1), (2, .int i2), (3, .int i3), (4, .int i4), (5, .int i5)], [.int r65_2.1])) (aMem Z r65_2.2, t) _
  cases h
  exact go_ret aMi193 rfl aRetI ⟨rfl, rfl⟩
def f193_b42 (kad : Nat → Nat) (N : Nat) (Z : AZ) (a0 : Nat) (i1 : Int32) (i2 : Int32) (i3 : Int32) (i4 : Int32) (i5 : Int32) (I : AI) : Option (Int32 × AI) :=
  f193_b43 kad N Z a0 i1 i2 i3 i4 i5 (0 : Int32) I
set_option maxRecDepth 20000 in
theorem Tf193_b42 {kad : Nat → Nat} {N : Nat} {Z : AZ} {d : Nat} {t : Option Nat × (Nat × Nat)} (hd : 2 ≤ d) : ∀ (a0 : Nat) (i1 : Int32) (i2 : Int32) (i3 : Int32) (i4 : Int32) (i5 : Int32) (I : AI) (r : Int32 × AI), f193_b42 kad N Z a0 i1 i2 i3 i4 i5 I = some r → aGo kad d 193 (42, ([(0, .ref a0), (1, .int i1), (2, .int i2), (3, .int i3), (4, .int i4), (5, .int i5)], [])) (aMem Z I, t) (qI Z t r) := by
  intro a0 i1 i2 i3 i4 i5 I r h
  unfold f193_b42 at h
  refine go_ops aMi193 1 _ (f1 := (43, ([(0, .ref a0), (1, .int i1), (2, .int i2), (3, .int i3), (4, .int i4), (5, .int i5)], [.int (0 : Int32)]))) rfl ?_
  exact Tf193_b43 hd a0 i1 i2 i3 i4 i5 (0 : Int32) I _ h
def f193 (kad : Nat → Nat) (N : Nat) (Z : AZ) (a0 : Nat) (i1 : Int32) (i2 : Int32) (i3 : Int32) (i4 : Int32) (i5 : Int32) (I : AI) : Option (Int32 × AI) :=
  (f186 kad N Z i1 (0 : Int32) (26 : Int32) I).bind fun r4_1 =>
  if r4_1.1 = 0 then
    f193_b42 kad N Z a0 i1 i2 i3 i4 i5 r4_1.2
  else
    (f186 kad N Z i2 (0 : Int32) (3 : Int32) r4_1.2).bind fun r13_2 =>
    if r13_2.1 = 0 then
      f193_b42 kad N Z a0 i1 i2 i3 i4 i5 r13_2.2
    else
      (f186 kad N Z i3 (0 : Int32) (3 : Int32) r13_2.2).bind fun r22_3 =>
      if r22_3.1 = 0 then
        f193_b42 kad N Z a0 i1 i2 i3 i4 i5 r22_3.2
      else
        (f189 kad N Z i4 i5 r22_3.2).bind fun r32_4 =>
        if r32_4.1 = 0 then
          f193_b42 kad N Z a0 i1 i2 i3 i4 i5 r32_4.2
        else
          f193_b43 kad N Z a0 i1 i2 i3 i4 i5 (1 : Int32) r32_4.2
set_option maxRecDepth 20000 in
theorem Tf193 {kad : Nat → Nat} {N : Nat} {Z : AZ} {d : Nat} {t : Option Nat × (Nat × Nat)} (hd : 2 ≤ d) : ∀ (a0 : Nat) (i1 : Int32) (i2 : Int32) (i3 : Int32) (i4 : Int32) (i5 : Int32) (I : AI) (r : Int32 × AI), f193 kad N Z a0 i1 i2 i3 i4 i5 I = some r → aGo kad d 193 (0, ([(0, .ref a0), (1, .int i1), (2, .int i2), (3, .int i3), (4, .int i4), (5, .int i5)], [])) (aMem Z I, t) (qI Z t r) := by
  intro a0 i1 i2 i3 i4 i5 I r h
  unfold f193 at h
  refine go_ops aMi193 3 _ (f1 := (4, ([(0, .ref a0), (1, .int i1), (2, .int i2), (3, .int i3), (4, .int i4), (5, .int i5)], [.int (26 : Int32), .int (0 : Int32), .int i1]))) rfl ?_
  obtain ⟨r4_1, hxr4_1, h⟩ := Option.bind_eq_some_iff.mp h
  refine gg_cs (as := [.int i1, .int (0 : Int32), .int (26 : Int32)]) (r := []) aMi193 rfl rfl rfl aMi186 rfl (Nat.le_of_ble_eq_true rfl) (Nat.le_of_ble_eq_true rfl) (by omega) (Tf186 (by omega) i1 (0 : Int32) (26 : Int32) I _ hxr4_1) ?_
  show aGo kad d 193 (7, ([(0, .ref a0), (1, .int i1), (2, .int i2), (3, .int i3), (4, .int i4), (5, .int i5)], [.int r4_1.1])) (aMem Z r4_1.2, t) _
  refine gg_br (b := decide (r4_1.1 = 0)) (tg := 42) (off := 35) aMi193 rfl rfl rfl rfl (fun hb => ?_) (fun hb => ?_)
  · rw [if_pos (of_decide_eq_true hb)] at h
    exact Tf193_b42 hd a0 i1 i2 i3 i4 i5 r4_1.2 _ h
  · rw [if_neg (of_decide_eq_false hb)] at h
    refine go_ops aMi193 3 _ (f1 := (13, ([(0, .ref a0), (1, .int i1), (2, .int i2), (3, .int i3), (4, .int i4), (5, .int i5)], [.int (3 : Int32), .int (0 : Int32), .int i2]))) rfl ?_
    obtain ⟨r13_2, hxr13_2, h⟩ := Option.bind_eq_some_iff.mp h
    refine gg_cs (as := [.int i2, .int (0 : Int32), .int (3 : Int32)]) (r := []) aMi193 rfl rfl rfl aMi186 rfl (Nat.le_of_ble_eq_true rfl) (Nat.le_of_ble_eq_true rfl) (by omega) (Tf186 (by omega) i2 (0 : Int32) (3 : Int32) r4_1.2 _ hxr13_2) ?_
    show aGo kad d 193 (16, ([(0, .ref a0), (1, .int i1), (2, .int i2), (3, .int i3), (4, .int i4), (5, .int i5)], [.int r13_2.1])) (aMem Z r13_2.2, t) _
    refine gg_br (b := decide (r13_2.1 = 0)) (tg := 42) (off := 26) aMi193 rfl rfl rfl rfl (fun hb => ?_) (fun hb => ?_)
    · rw [if_pos (of_decide_eq_true hb)] at h
      exact Tf193_b42 hd a0 i1 i2 i3 i4 i5 r13_2.2 _ h
    · rw [if_neg (of_decide_eq_false hb)] at h
      refine go_ops aMi193 3 _ (f1 := (22, ([(0, .ref a0), (1, .int i1), (2, .int i2), (3, .int i3), (4, .int i4), (5, .int i5)], [.int (3 : Int32), .int (0 : Int32), .int i3]))) rfl ?_
      obtain ⟨r22_3, hxr22_3, h⟩ := Option.bind_eq_some_iff.mp h
      refine gg_cs (as := [.int i3, .int (0 : Int32), .int (3 : Int32)]) (r := []) aMi193 rfl rfl rfl aMi186 rfl (Nat.le_of_ble_eq_true rfl) (Nat.le_of_ble_eq_true rfl) (by omega) (Tf186 (by omega) i3 (0 : Int32) (3 : Int32) r13_2.2 _ hxr22_3) ?_
      show aGo kad d 193 (25, ([(0, .ref a0), (1, .int i1), (2, .int i2), (3, .int i3), (4, .int i4), (5, .int i5)], [.int r22_3.1])) (aMem Z r22_3.2, t) _
      refine gg_br (b := decide (r22_3.1 = 0)) (tg := 42) (off := 17) aMi193 rfl rfl rfl rfl (fun hb => ?_) (fun hb => ?_)
      · rw [if_pos (of_decide_eq_true hb)] at h
        exact Tf193_b42 hd a0 i1 i2 i3 i4 i5 r22_3.2 _ h
      · rw [if_neg (of_decide_eq_false hb)] at h
        refine go_ops aMi193 2 _ (f1 := (32, ([(0, .ref a0), (1, .int i1), (2, .int i2), (3, .int i3), (4, .int i4), (5, .int i5)], [.int i5, .int i4]))) rfl ?_
        obtain ⟨r32_4, hxr32_4, h⟩ := Option.bind_eq_some_iff.mp h
        refine gg_cs (as := [.int i4, .int i5]) (r := []) aMi193 rfl rfl rfl aMi189 rfl (Nat.le_of_ble_eq_true rfl) (Nat.le_of_ble_eq_true rfl) (by omega) (Tf189 (by omega) i4 i5 r22_3.2 _ hxr32_4) ?_
        show aGo kad d 193 (35, ([(0, .ref a0), (1, .int i1), (2, .int i2), (3, .int i3), (4, .int i4), (5, .int i5)], [.int r32_4.1])) (aMem Z r32_4.2, t) _
        refine gg_br (b := decide (r32_4.1 = 0)) (tg := 42) (off := 7) aMi193 rfl rfl rfl rfl (fun hb => ?_) (fun hb => ?_)
        · rw [if_pos (of_decide_eq_true hb)] at h
          exact Tf193_b42 hd a0 i1 i2 i3 i4 i5 r32_4.2 _ h
        · rw [if_neg (of_decide_eq_false hb)] at h
          refine go_ops aMi193 2 _ (f1 := (43, ([(0, .ref a0), (1, .int i1), (2, .int i2), (3, .int i3), (4, .int i4), (5, .int i5)], [.int (1 : Int32)]))) rfl ?_
          exact Tf193_b43 hd a0 i1 i2 i3 i4 i5 (1 : Int32) r32_4.2 _ h
-- KernelGymModel.word (II)I
def f194 (kad : Nat → Nat) (N : Nat) (Z : AZ) (a0 : Nat) (i1 : Int32) (i2 : Int32) (I : AI) : Option (Int32 × AI) :=
  (f189 kad N Z i1 i2 I).bind fun r3_1 =>
  (isK Z a0 11).bind fun u12_2 =>
  (f190 kad N Z a0 r3_1.1 (3 : Int32) i1 i2 (0 : Int32) (0 : Int32) (0 : Int32) r3_1.2).bind fun r12_3 =>
  some (r12_3.1, r12_3.2)
set_option maxRecDepth 20000 in
theorem Tf194 {kad : Nat → Nat} {N : Nat} {Z : AZ} {d : Nat} {t : Option Nat × (Nat × Nat)} (hd : 2 ≤ d) : ∀ (a0 : Nat) (i1 : Int32) (i2 : Int32) (I : AI) (r : Int32 × AI), f194 kad N Z a0 i1 i2 I = some r → aGo kad d 194 (0, ([(0, .ref a0), (1, .int i1), (2, .int i2)], [])) (aMem Z I, t) (qI Z t r) := by
  intro a0 i1 i2 I r h
  unfold f194 at h
  refine go_ops aMi194 3 _ (f1 := (3, ([(0, .ref a0), (1, .int i1), (2, .int i2)], [.int i2, .int i1, .ref a0]))) rfl ?_
  obtain ⟨r3_1, hxr3_1, h⟩ := Option.bind_eq_some_iff.mp h
  refine gg_cs (as := [.int i1, .int i2]) (r := [.ref a0]) aMi194 rfl rfl rfl aMi189 rfl (Nat.le_of_ble_eq_true rfl) (Nat.le_of_ble_eq_true rfl) (by omega) (Tf189 (by omega) i1 i2 I _ hxr3_1) ?_
  show aGo kad d 194 (6, ([(0, .ref a0), (1, .int i1), (2, .int i2)], [.int r3_1.1, .ref a0])) (aMem Z r3_1.2, t) _
  refine go_ops aMi194 6 _ (f1 := (12, ([(0, .ref a0), (1, .int i1), (2, .int i2)], [.int (0 : Int32), .int (0 : Int32), .int (0 : Int32), .int i2, .int i1, .int (3 : Int32), .int r3_1.1, .ref a0]))) rfl ?_
  obtain ⟨u12_2, hxu12_2, h⟩ := Option.bind_eq_some_iff.mp h
  obtain ⟨r12_3, hxr12_3, h⟩ := Option.bind_eq_some_iff.mp h
  refine gg_cv (as := [.int r3_1.1, .int (3 : Int32), .int i1, .int i2, .int (0 : Int32), .int (0 : Int32), .int (0 : Int32)]) (r := []) aMi194 rfl rfl rfl aMi190 (Nat.le_of_ble_eq_true rfl) rfl (Nat.le_of_ble_eq_true rfl) (Nat.le_of_ble_eq_true rfl) (by omega) hxu12_2 (Tf190 (by omega) a0 r3_1.1 (3 : Int32) i1 i2 (0 : Int32) (0 : Int32) (0 : Int32) r3_1.2 _ hxr12_3) ?_
  show aGo kad d 194 (15, ([(0, .ref a0), (1, .int i1), (2, .int i2)], [.int r12_3.1])) (aMem Z r12_3.2, t) _
  cases h
  exact go_ret aMi194 rfl aRetI ⟨rfl, rfl⟩
-- KernelGymModel.space (I)I
def f195 (kad : Nat → Nat) (N : Nat) (Z : AZ) (a0 : Nat) (i1 : Int32) (I : AI) : Option (Int32 × AI) :=
  (f186 kad N Z i1 (1 : Int32) (32 : Int32) I).bind fun r5_1 =>
  (isK Z a0 11).bind fun u14_2 =>
  (f190 kad N Z a0 r5_1.1 (4 : Int32) i1 (0 : Int32) (0 : Int32) (0 : Int32) (0 : Int32) r5_1.2).bind fun r14_3 =>
  some (r14_3.1, r14_3.2)
set_option maxRecDepth 20000 in
theorem Tf195 {kad : Nat → Nat} {N : Nat} {Z : AZ} {d : Nat} {t : Option Nat × (Nat × Nat)} (hd : 2 ≤ d) : ∀ (a0 : Nat) (i1 : Int32) (I : AI) (r : Int32 × AI), f195 kad N Z a0 i1 I = some r → aGo kad d 195 (0, ([(0, .ref a0), (1, .int i1)], [])) (aMem Z I, t) (qI Z t r) := by
  intro a0 i1 I r h
  unfold f195 at h
  refine go_ops aMi195 4 _ (f1 := (5, ([(0, .ref a0), (1, .int i1)], [.int (32 : Int32), .int (1 : Int32), .int i1, .ref a0]))) rfl ?_
  obtain ⟨r5_1, hxr5_1, h⟩ := Option.bind_eq_some_iff.mp h
  refine gg_cs (as := [.int i1, .int (1 : Int32), .int (32 : Int32)]) (r := [.ref a0]) aMi195 rfl rfl rfl aMi186 rfl (Nat.le_of_ble_eq_true rfl) (Nat.le_of_ble_eq_true rfl) (by omega) (Tf186 (by omega) i1 (1 : Int32) (32 : Int32) I _ hxr5_1) ?_
  show aGo kad d 195 (8, ([(0, .ref a0), (1, .int i1)], [.int r5_1.1, .ref a0])) (aMem Z r5_1.2, t) _
  refine go_ops aMi195 6 _ (f1 := (14, ([(0, .ref a0), (1, .int i1)], [.int (0 : Int32), .int (0 : Int32), .int (0 : Int32), .int (0 : Int32), .int i1, .int (4 : Int32), .int r5_1.1, .ref a0]))) rfl ?_
  obtain ⟨u14_2, hxu14_2, h⟩ := Option.bind_eq_some_iff.mp h
  obtain ⟨r14_3, hxr14_3, h⟩ := Option.bind_eq_some_iff.mp h
  refine gg_cv (as := [.int r5_1.1, .int (4 : Int32), .int i1, .int (0 : Int32), .int (0 : Int32), .int (0 : Int32), .int (0 : Int32)]) (r := []) aMi195 rfl rfl rfl aMi190 (Nat.le_of_ble_eq_true rfl) rfl (Nat.le_of_ble_eq_true rfl) (Nat.le_of_ble_eq_true rfl) (by omega) hxu14_2 (Tf190 (by omega) a0 r5_1.1 (4 : Int32) i1 (0 : Int32) (0 : Int32) (0 : Int32) (0 : Int32) r5_1.2 _ hxr14_3) ?_
  show aGo kad d 195 (17, ([(0, .ref a0), (1, .int i1)], [.int r14_3.1])) (aMem Z r14_3.2, t) _
  cases h
  exact go_ret aMi195 rfl aRetI ⟨rfl, rfl⟩
-- KernelGymModel.vector (III)I
def f196_b23 (kad : Nat → Nat) (N : Nat) (Z : AZ) (i1 : Int32) (i2 : Int32) (i3 : Int32) (s0 : Int32) (s1 : Nat) (I : AI) : Option (Int32 × AI) :=
  (isK Z s1 11).bind fun u29_1 =>
  (f190 kad N Z s1 s0 (5 : Int32) i2 i3 i1 (0 : Int32) (0 : Int32) I).bind fun r29_2 =>
  some (r29_2.1, r29_2.2)
set_option maxRecDepth 20000 in
theorem Tf196_b23 {kad : Nat → Nat} {N : Nat} {Z : AZ} {d : Nat} {t : Option Nat × (Nat × Nat)} (hd : 2 ≤ d) : ∀ (i1 : Int32) (i2 : Int32) (i3 : Int32) (s0 : Int32) (s1 : Nat) (I : AI) (r : Int32 × AI), f196_b23 kad N Z i1 i2 i3 s0 s1 I = some r → aGo kad d 196 (23, ([(1, .int i1), (2, .int i2), (3, .int i3)], [.int s0, .ref s1])) (aMem Z I, t) (qI Z t r) := by
  intro i1 i2 i3 s0 s1 I r h
  unfold f196_b23 at h
  refine go_ops aMi196 6 _ (f1 := (29, ([(1, .int i1), (2, .int i2), (3, .int i3)], [.int (0 : Int32), .int (0 : Int32), .int i1, .int i3, .int i2, .int (5 : Int32), .int s0, .ref s1]))) rfl ?_
  obtain ⟨u29_1, hxu29_1, h⟩ := Option.bind_eq_some_iff.mp h
  obtain ⟨r29_2, hxr29_2, h⟩ := Option.bind_eq_some_iff.mp h
  refine gg_cv (as := [.int s0, .int (5 : Int32), .int i2, .int i3, .int i1, .int (0 : Int32), .int (0 : Int32)]) (r := []) aMi196 rfl rfl rfl aMi190 (Nat.le_of_ble_eq_true rfl) rfl (Nat.le_of_ble_eq_true rfl) (Nat.le_of_ble_eq_true rfl) (by omega) hxu29_1 (Tf190 (by omega) s1 s0 (5 : Int32) i2 i3 i1 (0 : Int32) (0 : Int32) I _ hxr29_2) ?_
  show aGo kad d 196 (32, ([(1, .int i1), (2, .int i2), (3, .int i3)], [.int r29_2.1])) (aMem Z r29_2.2, t) _
  cases h
  exact go_ret aMi196 rfl aRetI ⟨rfl, rfl⟩
def f196_b22 (kad : Nat → Nat) (N : Nat) (Z : AZ) (i1 : Int32) (i2 : Int32) (i3 : Int32) (s0 : Nat) (I : AI) : Option (Int32 × AI) :=
  f196_b23 kad N Z i1 i2 i3 (0 : Int32) s0 I
set_option maxRecDepth 20000 in
theorem Tf196_b22 {kad : Nat → Nat} {N : Nat} {Z : AZ} {d : Nat} {t : Option Nat × (Nat × Nat)} (hd : 2 ≤ d) : ∀ (i1 : Int32) (i2 : Int32) (i3 : Int32) (s0 : Nat) (I : AI) (r : Int32 × AI), f196_b22 kad N Z i1 i2 i3 s0 I = some r → aGo kad d 196 (22, ([(1, .int i1), (2, .int i2), (3, .int i3)], [.ref s0])) (aMem Z I, t) (qI Z t r) := by
  intro i1 i2 i3 s0 I r h
  unfold f196_b22 at h
  refine go_ops aMi196 1 _ (f1 := (23, ([(1, .int i1), (2, .int i2), (3, .int i3)], [.int (0 : Int32), .ref s0]))) rfl ?_
  exact Tf196_b23 hd i1 i2 i3 (0 : Int32) s0 I _ h
def f196 (kad : Nat → Nat) (N : Nat) (Z : AZ) (a0 : Nat) (i1 : Int32) (i2 : Int32) (i3 : Int32) (I : AI) : Option (Int32 × AI) :=
  (f186 kad N Z i1 (0 : Int32) (1 : Int32) I).bind fun r4_1 =>
  if r4_1.1 = 0 then
    f196_b22 kad N Z i1 i2 i3 a0 r4_1.2
  else
    (f189 kad N Z i2 i3 r4_1.2).bind fun r12_2 =>
    if r12_2.1 = 0 then
      f196_b22 kad N Z i1 i2 i3 a0 r12_2.2
    else
      f196_b23 kad N Z i1 i2 i3 (1 : Int32) a0 r12_2.2
set_option maxRecDepth 20000 in
theorem Tf196 {kad : Nat → Nat} {N : Nat} {Z : AZ} {d : Nat} {t : Option Nat × (Nat × Nat)} (hd : 2 ≤ d) : ∀ (a0 : Nat) (i1 : Int32) (i2 : Int32) (i3 : Int32) (I : AI) (r : Int32 × AI), f196 kad N Z a0 i1 i2 i3 I = some r → aGo kad d 196 (0, ([(0, .ref a0), (1, .int i1), (2, .int i2), (3, .int i3)], [])) (aMem Z I, t) (qI Z t r) := by
  intro a0 i1 i2 i3 I r h
  unfold f196 at h
  refine go_ops aMi196 4 _ (f1 := (4, ([(0, .ref a0), (1, .int i1), (2, .int i2), (3, .int i3)], [.int (1 : Int32), .int (0 : Int32), .int i1, .ref a0]))) rfl ?_
  obtain ⟨r4_1, hxr4_1, h⟩ := Option.bind_eq_some_iff.mp h
  refine gg_cs (as := [.int i1, .int (0 : Int32), .int (1 : Int32)]) (r := [.ref a0]) aMi196 rfl rfl rfl aMi186 rfl (Nat.le_of_ble_eq_true rfl) (Nat.le_of_ble_eq_true rfl) (by omega) (Tf186 (by omega) i1 (0 : Int32) (1 : Int32) I _ hxr4_1) ?_
  show aGo kad d 196 (7, ([(0, .ref a0), (1, .int i1), (2, .int i2), (3, .int i3)], [.int r4_1.1, .ref a0])) (aMem Z r4_1.2, t) _
  refine gg_br (b := decide (r4_1.1 = 0)) (tg := 22) (off := 15) aMi196 rfl rfl rfl rfl (fun hb => ?_) (fun hb => ?_)
  · rw [if_pos (of_decide_eq_true hb)] at h
    refine go_le (lv1 := [(1, .int i1), (2, .int i2), (3, .int i3)]) (aLe_of (show (List.map (fun q => q.1) ([(1, .int i1), (2, .int i2), (3, .int i3)] : ALv)).Nodup from (by show ([1, 2, 3] : List Nat).Nodup; decide)) (aSubL_cons rfl (aSubL_cons rfl (aSubL_cons rfl aSubL_nil)))) ?_
    exact Tf196_b22 hd i1 i2 i3 a0 r4_1.2 _ h
  · rw [if_neg (of_decide_eq_false hb)] at h
    refine go_ops aMi196 2 _ (f1 := (12, ([(0, .ref a0), (1, .int i1), (2, .int i2), (3, .int i3)], [.int i3, .int i2, .ref a0]))) rfl ?_
    obtain ⟨r12_2, hxr12_2, h⟩ := Option.bind_eq_some_iff.mp h
    refine gg_cs (as := [.int i2, .int i3]) (r := [.ref a0]) aMi196 rfl rfl rfl aMi189 rfl (Nat.le_of_ble_eq_true rfl) (Nat.le_of_ble_eq_true rfl) (by omega) (Tf189 (by omega) i2 i3 r4_1.2 _ hxr12_2) ?_
    show aGo kad d 196 (15, ([(0, .ref a0), (1, .int i1), (2, .int i2), (3, .int i3)], [.int r12_2.1, .ref a0])) (aMem Z r12_2.2, t) _
    refine gg_br (b := decide (r12_2.1 = 0)) (tg := 22) (off := 7) aMi196 rfl rfl rfl rfl (fun hb => ?_) (fun hb => ?_)
    · rw [if_pos (of_decide_eq_true hb)] at h
      refine go_le (lv1 := [(1, .int i1), (2, .int i2), (3, .int i3)]) (aLe_of (show (List.map (fun q => q.1) ([(1, .int i1), (2, .int i2), (3, .int i3)] : ALv)).Nodup from (by show ([1, 2, 3] : List Nat).Nodup; decide)) (aSubL_cons rfl (aSubL_cons rfl (aSubL_cons rfl aSubL_nil)))) ?_
      exact Tf196_b22 hd i1 i2 i3 a0 r12_2.2 _ h
    · rw [if_neg (of_decide_eq_false hb)] at h
      refine go_ops aMi196 2 _ (f1 := (23, ([(0, .ref a0), (1, .int i1), (2, .int i2), (3, .int i3)], [.int (1 : Int32), .ref a0]))) rfl ?_
      refine go_le (lv1 := [(1, .int i1), (2, .int i2), (3, .int i3)]) (aLe_of (show (List.map (fun q => q.1) ([(1, .int i1), (2, .int i2), (3, .int i3)] : ALv)).Nodup from (by show ([1, 2, 3] : List Nat).Nodup; decide)) (aSubL_cons rfl (aSubL_cons rfl (aSubL_cons rfl aSubL_nil)))) ?_
      exact Tf196_b23 hd i1 i2 i3 (1 : Int32) a0 r12_2.2 _ h
-- KernelGymModel.macro (I)I
def f197 (kad : Nat → Nat) (N : Nat) (Z : AZ) (a0 : Nat) (i1 : Int32) (I : AI) : Option (Int32 × AI) :=
  (f186 kad N Z i1 (0 : Int32) (4 : Int32) I).bind fun r4_1 =>
  (isK Z a0 11).bind fun u14_2 =>
  (f190 kad N Z a0 r4_1.1 (6 : Int32) i1 (0 : Int32) (0 : Int32) (0 : Int32) (0 : Int32) r4_1.2).bind fun r14_3 =>
  some (r14_3.1, r14_3.2)
set_option maxRecDepth 20000 in
theorem Tf197 {kad : Nat → Nat} {N : Nat} {Z : AZ} {d : Nat} {t : Option Nat × (Nat × Nat)} (hd : 2 ≤ d) : ∀ (a0 : Nat) (i1 : Int32) (I : AI) (r : Int32 × AI), f197 kad N Z a0 i1 I = some r → aGo kad d 197 (0, ([(0, .ref a0), (1, .int i1)], [])) (aMem Z I, t) (qI Z t r) := by
  intro a0 i1 I r h
  unfold f197 at h
  refine go_ops aMi197 4 _ (f1 := (4, ([(0, .ref a0), (1, .int i1)], [.int (4 : Int32), .int (0 : Int32), .int i1, .ref a0]))) rfl ?_
  obtain ⟨r4_1, hxr4_1, h⟩ := Option.bind_eq_some_iff.mp h
  refine gg_cs (as := [.int i1, .int (0 : Int32), .int (4 : Int32)]) (r := [.ref a0]) aMi197 rfl rfl rfl aMi186 rfl (Nat.le_of_ble_eq_true rfl) (Nat.le_of_ble_eq_true rfl) (by omega) (Tf186 (by omega) i1 (0 : Int32) (4 : Int32) I _ hxr4_1) ?_
  show aGo kad d 197 (7, ([(0, .ref a0), (1, .int i1)], [.int r4_1.1, .ref a0])) (aMem Z r4_1.2, t) _
  refine go_ops aMi197 6 _ (f1 := (14, ([(0, .ref a0), (1, .int i1)], [.int (0 : Int32), .int (0 : Int32), .int (0 : Int32), .int (0 : Int32), .int i1, .int (6 : Int32), .int r4_1.1, .ref a0]))) rfl ?_
  obtain ⟨u14_2, hxu14_2, h⟩ := Option.bind_eq_some_iff.mp h
  obtain ⟨r14_3, hxr14_3, h⟩ := Option.bind_eq_some_iff.mp h
  refine gg_cv (as := [.int r4_1.1, .int (6 : Int32), .int i1, .int (0 : Int32), .int (0 : Int32), .int (0 : Int32), .int (0 : Int32)]) (r := []) aMi197 rfl rfl rfl aMi190 (Nat.le_of_ble_eq_true rfl) rfl (Nat.le_of_ble_eq_true rfl) (Nat.le_of_ble_eq_true rfl) (by omega) hxu14_2 (Tf190 (by omega) a0 r4_1.1 (6 : Int32) i1 (0 : Int32) (0 : Int32) (0 : Int32) (0 : Int32) r4_1.2 _ hxr14_3) ?_
  show aGo kad d 197 (17, ([(0, .ref a0), (1, .int i1)], [.int r14_3.1])) (aMem Z r14_3.2, t) _
  cases h
  exact go_ret aMi197 rfl aRetI ⟨rfl, rfl⟩
-- KernelGymModel.endMacro ()I
def f198_b15 (kad : Nat → Nat) (N : Nat) (Z : AZ) (a0 : Nat) (s0 : Int32) (s1 : Nat) (I : AI) : Option (Int32 × AI) :=
  (isK Z s1 11).bind fun u15_1 =>
  (f185 kad N Z s1 s0 I).bind fun r15_2 =>
  if ¬ r15_2.1 = 0 then
    (isK Z a0 11).bind fun u32_3 =>
    (f190 kad N Z a0 (1 : Int32) (7 : Int32) (0 : Int32) (0 : Int32) (0 : Int32) (0 : Int32) (0 : Int32) r15_2.2).bind fun r32_4 =>
    some (r32_4.1, r32_4.2)
  else
    some ((0 : Int32), r15_2.2)
set_option maxRecDepth 20000 in
theorem Tf198_b15 {kad : Nat → Nat} {N : Nat} {Z : AZ} {d : Nat} {t : Option Nat × (Nat × Nat)} (hd : 2 ≤ d) : ∀ (a0 : Nat) (s0 : Int32) (s1 : Nat) (I : AI) (r : Int32 × AI), f198_b15 kad N Z a0 s0 s1 I = some r → aGo kad d 198 (15, ([(0, .ref a0)], [.int s0, .ref s1])) (aMem Z I, t) (qI Z t r) := by
  intro a0 s0 s1 I r h
  unfold f198_b15 at h
  obtain ⟨u15_1, hxu15_1, h⟩ := Option.bind_eq_some_iff.mp h
  obtain ⟨r15_2, hxr15_2, h⟩ := Option.bind_eq_some_iff.mp h
  refine gg_cv (as := [.int s0]) (r := []) aMi198 rfl rfl rfl aMi185 (Nat.le_of_ble_eq_true rfl) rfl (Nat.le_of_ble_eq_true rfl) (Nat.le_of_ble_eq_true rfl) (by omega) hxu15_1 (Tf185 (by omega) s1 s0 I _ hxr15_2) ?_
  show aGo kad d 198 (18, ([(0, .ref a0)], [.int r15_2.1])) (aMem Z r15_2.2, t) _
  refine gg_br (b := decide (¬ r15_2.1 = 0)) (tg := 23) (off := 5) aMi198 rfl rfl rfl rfl (fun hb => ?_) (fun hb => ?_)
  · rw [if_pos (of_decide_eq_true hb)] at h
    refine go_ops aMi198 8 _ (f1 := (32, ([(0, .ref a0)], [.int (0 : Int32), .int (0 : Int32), .int (0 : Int32), .int (0 : Int32), .int (0 : Int32), .int (7 : Int32), .int (1 : Int32), .ref a0]))) rfl ?_
    obtain ⟨u32_3, hxu32_3, h⟩ := Option.bind_eq_some_iff.mp h
    obtain ⟨r32_4, hxr32_4, h⟩ := Option.bind_eq_some_iff.mp h
    refine gg_cv (as := [.int (1 : Int32), .int (7 : Int32), .int (0 : Int32), .int (0 : Int32), .int (0 : Int32), .int (0 : Int32), .int (0 : Int32)]) (r := []) aMi198 rfl rfl rfl aMi190 (Nat.le_of_ble_eq_true rfl) rfl (Nat.le_of_ble_eq_true rfl) (Nat.le_of_ble_eq_true rfl) (by omega) hxu32_3 (Tf190 (by omega) a0 (1 : Int32) (7 : Int32) (0 : Int32) (0 : Int32) (0 : Int32) (0 : Int32) (0 : Int32) r15_2.2 _ hxr32_4) ?_
    show aGo kad d 198 (35, ([(0, .ref a0)], [.int r32_4.1])) (aMem Z r32_4.2, t) _
    cases h
    exact go_ret aMi198 rfl aRetI ⟨rfl, rfl⟩
  · rw [if_neg (of_decide_eq_false hb)] at h
    refine go_ops aMi198 1 _ (f1 := (22, ([(0, .ref a0)], [.int (0 : Int32)]))) rfl ?_
    cases h
    exact go_ret aMi198 rfl aRetI ⟨rfl, rfl⟩
def f198 (kad : Nat → Nat) (N : Nat) (Z : AZ) (a0 : Nat) (I : AI) : Option (Int32 × AI) :=
  (gI Z I 11 1 a0).bind fun x2_1 =>
  if ¬ x2_1 = (100 : Int32) then
    f198_b15 kad N Z a0 (0 : Int32) a0 I
  else
    f198_b15 kad N Z a0 (1 : Int32) a0 I
set_option maxRecDepth 20000 in
theorem Tf198 {kad : Nat → Nat} {N : Nat} {Z : AZ} {d : Nat} {t : Option Nat × (Nat × Nat)} (hd : 2 ≤ d) : ∀ (a0 : Nat) (I : AI) (r : Int32 × AI), f198 kad N Z a0 I = some r → aGo kad d 198 (0, ([(0, .ref a0)], [])) (aMem Z I, t) (qI Z t r) := by
  intro a0 I r h
  unfold f198 at h
  refine go_ops aMi198 2 _ (f1 := (2, ([(0, .ref a0)], [.ref a0, .ref a0]))) rfl ?_
  obtain ⟨x2_1, hxx2_1, h⟩ := Option.bind_eq_some_iff.mp h
  refine gg_gI aMi198 rfl rfl rfl hxx2_1 ?_
  refine go_ops aMi198 1 _ (f1 := (7, ([(0, .ref a0)], [.int (100 : Int32), .int x2_1, .ref a0]))) rfl ?_
  refine gg_br (b := decide (¬ x2_1 = (100 : Int32))) (tg := 14) (off := 7) aMi198 rfl rfl rfl rfl (fun hb => ?_) (fun hb => ?_)
  · rw [if_pos (of_decide_eq_true hb)] at h
    refine go_ops aMi198 1 _ (f1 := (15, ([(0, .ref a0)], [.int (0 : Int32), .ref a0]))) rfl ?_
    exact Tf198_b15 hd a0 (0 : Int32) a0 I _ h
  · rw [if_neg (of_decide_eq_false hb)] at h
    refine go_ops aMi198 2 _ (f1 := (15, ([(0, .ref a0)], [.int (1 : Int32), .ref a0]))) rfl ?_
    exact Tf198_b15 hd a0 (1 : Int32) a0 I _ h
-- KernelGymModel.use (IIIII)I
def f199_b32 (kad : Nat → Nat) (N : Nat) (Z : AZ) (a0 : Nat) (i1 : Int32) (i2 : Int32) (i3 : Int32) (i4 : Int32) (i5 : Int32) (s0 : Int32) (I : AI) : Option (Int32 × AI) :=
  (isK Z a0 11).bind fun u46_1 =>
  (f190 kad N Z a0 s0 (8 : Int32) i2 i3 i4 i5 i1 I).bind fun r46_2 =>
  some (r46_2.1, r46_2.2)
set_option maxRecDepth 20000 in
theorem Tf199_b32 {kad : Nat → Nat} {N : Nat} {Z : AZ} {d : Nat} {t : Option Nat × (Nat × Nat)} (hd : 2 ≤ d) : ∀ (a0 : Nat) (i1 : Int32) (i2 : Int32) (i3 : Int32) (i4 : Int32) (i5 : Int32) (s0 : Int32) (I : AI) (r : Int32 × AI), f199_b32 kad N Z a0 i1 i2 i3 i4 i5 s0 I = some r → aGo kad d 199 (32, ([(0, .ref a0), (1, .int i1), (2, .int i2), (3, .int i3), (4, .int i4), (5, .int i5)], [.int s0])) (aMem Z I, t) (qI Z t r) := by
  intro a0 i1 i2 i3 i4 i5 s0 I r h
  unfold f199_b32 at h
  refine go_ops aMi199 9 _ (f1 := (46, ([(6, .int s0), (0, .ref a0), (1, .int i1), (2, .int i2), (3, .int i3), (4, .int i4), (5, .int i5)], [.int i1, .int i5, .int i4, .int i3, .int i2, .int (8 : Int32), .int s0, .ref a0]))) rfl ?_
  obtain ⟨u46_1, hxu46_1, h⟩ := Option.bind_eq_some_iff.mp h
  obtain ⟨r46_2, hxr46_2, h⟩ := Option.bind_eq_some_iff.mp h
  refine gg_cv (as := [.int s0, .int (8 : Int32), .int i2, .int i3, .int i4, .int i5, .int i1]) (r := []) aMi199 rfl rfl rfl aMi190 (Nat.le_of_ble_eq_true rfl) rfl (Nat.le_of_ble_eq_true rfl) (Nat.le_of_ble_eq_true rfl) (by omega) hxu46_1 (Tf190 (by omega) a0 s0 (8 : Int32) i2 i3 i4 i5 i1 I _ hxr46_2) ?_
  show aGo kad d 199 (49, ([(6, .int s0), (0, .ref a0), (1, .int i1), (2, .int i2), (3, .int i3), (4, .int i4), (5, .int i5)], [.int r46_2.1])) (aMem Z r46_2.2, t) _
  cases h
  exact go_ret aMi199 rfl aRetI ⟨rfl, rfl⟩
def f199_b31 (kad : Nat → Nat) (N : Nat) (Z : AZ) (a0 : Nat) (i1 : Int32) (i2 : Int32) (i3 : Int32) (i4 : Int32) (i5 : Int32) (I : AI) : Option (Int32 × AI) :=
  f199_b32 kad N Z a0 i1 i2 i3 i4 i5 (0 : Int32) I
set_option maxRecDepth 20000 in
theorem Tf199_b31 {kad : Nat → Nat} {N : Nat} {Z : AZ} {d : Nat} {t : Option Nat × (Nat × Nat)} (hd : 2 ≤ d) : ∀ (a0 : Nat) (i1 : Int32) (i2 : Int32) (i3 : Int32) (i4 : Int32) (i5 : Int32) (I : AI) (r : Int32 × AI), f199_b31 kad N Z a0 i1 i2 i3 i4 i5 I = some r → aGo kad d 199 (31, ([(0, .ref a0), (1, .int i1), (2, .int i2), (3, .int i3), (4, .int i4), (5, .int i5)], [])) (aMem Z I, t) (qI Z t r) := by
  intro a0 i1 i2 i3 i4 i5 I r h
  unfold f199_b31 at h
  refine go_ops aMi199 1 _ (f1 := (32, ([(0, .ref a0), (1, .int i1), (2, .int i2), (3, .int i3), (4, .int i4), (5, .int i5)], [.int (0 : Int32)]))) rfl ?_
  exact Tf199_b32 hd a0 i1 i2 i3 i4 i5 (0 : Int32) I _ h
def f199 (kad : Nat → Nat) (N : Nat) (Z : AZ) (a0 : Nat) (i1 : Int32) (i2 : Int32) (i3 : Int32) (i4 : Int32) (i5 : Int32) (I : AI) : Option (Int32 × AI) :=
  (f186 kad N Z i1 (0 : Int32) (4 : Int32) I).bind fun r3_1 =>
  if r3_1.1 = 0 then
    f199_b31 kad N Z a0 i1 i2 i3 i4 i5 r3_1.2
  else
    (f189 kad N Z i2 i3 r3_1.2).bind fun r11_2 =>
    if r11_2.1 = 0 then
      f199_b31 kad N Z a0 i1 i2 i3 i4 i5 r11_2.2
    else
      (f189 kad N Z i4 i5 r11_2.2).bind fun r21_3 =>
      if r21_3.1 = 0 then
        f199_b31 kad N Z a0 i1 i2 i3 i4 i5 r21_3.2
      else
        f199_b32 kad N Z a0 i1 i2 i3 i4 i5 (1 : Int32) r21_3.2
set_option maxRecDepth 20000 in
theorem Tf199 {kad : Nat → Nat} {N : Nat} {Z : AZ} {d : Nat} {t : Option Nat × (Nat × Nat)} (hd : 2 ≤ d) : ∀ (a0 : Nat) (i1 : Int32) (i2 : Int32) (i3 : Int32) (i4 : Int32) (i5 : Int32) (I : AI) (r : Int32 × AI), f199 kad N Z a0 i1 i2 i3 i4 i5 I = some r → aGo kad d 199 (0, ([(0, .ref a0), (1, .int i1), (2, .int i2), (3, .int i3), (4, .int i4), (5, .int i5)], [])) (aMem Z I, t) (qI Z t r) := by
  intro a0 i1 i2 i3 i4 i5 I r h
  unfold f199 at h
  refine go_ops aMi199 3 _ (f1 := (3, ([(0, .ref a0), (1, .int i1), (2, .int i2), (3, .int i3), (4, .int i4), (5, .int i5)], [.int (4 : Int32), .int (0 : Int32), .int i1]))) rfl ?_
  obtain ⟨r3_1, hxr3_1, h⟩ := Option.bind_eq_some_iff.mp h
  refine gg_cs (as := [.int i1, .int (0 : Int32), .int (4 : Int32)]) (r := []) aMi199 rfl rfl rfl aMi186 rfl (Nat.le_of_ble_eq_true rfl) (Nat.le_of_ble_eq_true rfl) (by omega) (Tf186 (by omega) i1 (0 : Int32) (4 : Int32) I _ hxr3_1) ?_
  show aGo kad d 199 (6, ([(0, .ref a0), (1, .int i1), (2, .int i2), (3, .int i3), (4, .int i4), (5, .int i5)], [.int r3_1.1])) (aMem Z r3_1.2, t) _
  refine gg_br (b := decide (r3_1.1 = 0)) (tg := 31) (off := 25) aMi199 rfl rfl rfl rfl (fun hb => ?_) (fun hb => ?_)
  · rw [if_pos (of_decide_eq_true hb)] at h
    exact Tf199_b31 hd a0 i1 i2 i3 i4 i5 r3_1.2 _ h
  · rw [if_neg (of_decide_eq_false hb)] at h
    refine go_ops aMi199 2 _ (f1 := (11, ([(0, .ref a0), (1, .int i1), (2, .int i2), (3, .int i3), (4, .int i4), (5, .int i5)], [.int i3, .int i2]))) rfl ?_
    obtain ⟨r11_2, hxr11_2, h⟩ := Option.bind_eq_some_iff.mp h
    refine gg_cs (as := [.int i2, .int i3]) (r := []) aMi199 rfl rfl rfl aMi189 rfl (Nat.le_of_ble_eq_true rfl) (Nat.le_of_ble_eq_true rfl) (by omega) (Tf189 (by omega) i2 i3 r3_1.2 _ hxr11_2) ?_
    show aGo kad d 199 (14, ([(0, .ref a0), (1, .int i1), (2, .int i2), (3, .int i3), (4, .int i4), (5, .int i5)], [.int r11_2.1])) (aMem Z r11_2.2, t) _
    refine gg_br (b := decide (r11_2.1 = 0)) (tg := 31) (off := 17) aMi199 rfl rfl rfl rfl (fun hb => ?_) (fun hb => ?_)
    · rw [if_pos (of_decide_eq_true hb)] at h
      exact Tf199_b31 hd a0 i1 i2 i3 i4 i5 r11_2.2 _ h
    · rw [if_neg (of_decide_eq_false hb)] at h
      refine go_ops aMi199 2 _ (f1 := (21, ([(0, .ref a0), (1, .int i1), (2, .int i2), (3, .int i3), (4, .int i4), (5, .int i5)], [.int i5, .int i4]))) rfl ?_
      obtain ⟨r21_3, hxr21_3, h⟩ := Option.bind_eq_some_iff.mp h
      refine gg_cs (as := [.int i4, .int i5]) (r := []) aMi199 rfl rfl rfl aMi189 rfl (Nat.le_of_ble_eq_true rfl) (Nat.le_of_ble_eq_true rfl) (by omega) (Tf189 (by omega) i4 i5 r11_2.2 _ hxr21_3) ?_
      show aGo kad d 199 (24, ([(0, .ref a0), (1, .int i1), (2, .int i2), (3, .int i3), (4, .int i4), (5, .int i5)], [.int r21_3.1])) (aMem Z r21_3.2, t) _
      refine gg_br (b := decide (r21_3.1 = 0)) (tg := 31) (off := 7) aMi199 rfl rfl rfl rfl (fun hb => ?_) (fun hb => ?_)
      · rw [if_pos (of_decide_eq_true hb)] at h
        exact Tf199_b31 hd a0 i1 i2 i3 i4 i5 r21_3.2 _ h
      · rw [if_neg (of_decide_eq_false hb)] at h
        refine go_ops aMi199 2 _ (f1 := (32, ([(0, .ref a0), (1, .int i1), (2, .int i2), (3, .int i3), (4, .int i4), (5, .int i5)], [.int (1 : Int32)]))) rfl ?_
        exact Tf199_b32 hd a0 i1 i2 i3 i4 i5 (1 : Int32) r21_3.2 _ h
-- KernelGymModel.placeOf (I)I
def f200_b36 (kad : Nat → Nat) (N : Nat) (Z : AZ) (s0 : Int32) (I : AI) : Option (Int32 × AI) :=
  some (s0, I)
set_option maxRecDepth 20000 in
theorem Tf200_b36 {kad : Nat → Nat} {N : Nat} {Z : AZ} {d : Nat} {t : Option Nat × (Nat × Nat)} (hd : 0 ≤ d) : ∀ (s0 : Int32) (I : AI) (r : Int32 × AI), f200_b36 kad N Z s0 I = some r → aGo kad d 200 (36, ([], [.int s0])) (aMem Z I, t) (qI Z t r) := by
  intro s0 I r h
  unfold f200_b36 at h
  cases h
  exact go_ret aMi200 rfl aRetI ⟨rfl, rfl⟩
def f200_b13 (kad : Nat → Nat) (N : Nat) (Z : AZ) (i1 : Int32) (I : AI) : Option (Int32 × AI) :=
  f200_b36 kad N Z i1 I
set_option maxRecDepth 20000 in
theorem Tf200_b13 {kad : Nat → Nat} {N : Nat} {Z : AZ} {d : Nat} {t : Option Nat × (Nat × Nat)} (hd : 0 ≤ d) : ∀ (i1 : Int32) (I : AI) (r : Int32 × AI), f200_b13 kad N Z i1 I = some r → aGo kad d 200 (13, ([(1, .int i1)], [])) (aMem Z I, t) (qI Z t r) := by
  intro i1 I r h
  unfold f200_b13 at h
  refine go_ops aMi200 2 _ (f1 := (36, ([(1, .int i1)], [.int i1]))) rfl ?_
  refine go_le (lv1 := []) (aLe_of (show (List.map (fun q => q.1) ([] : ALv)).Nodup from (by show ([] : List Nat).Nodup; decide)) aSubL_nil) ?_
  exact Tf200_b36 hd i1 I _ h
def f200 (kad : Nat → Nat) (N : Nat) (Z : AZ) (a0 : Nat) (i1 : Int32) (I : AI) : Option (Int32 × AI) :=
  if i1 < (16 : Int32) then
    f200_b13 kad N Z i1 I
  else
    (gI Z I 11 14 a0).bind fun x7_1 =>
    if ¬ x7_1 = 0 then
      (gR Z I 11 10 a0).bind fun b21_2 =>
      (gI Z I 11 14 a0).bind fun x25_3 =>
      (lI Z I 100 b21_2 x25_3).bind fun x28_4 =>
      f200_b36 kad N Z ((((20 : Int32) + ((4 : Int32) * x28_4)) + i1) - (16 : Int32)) I
    else
      f200_b13 kad N Z i1 I
set_option maxRecDepth 20000 in
theorem Tf200 {kad : Nat → Nat} {N : Nat} {Z : AZ} {d : Nat} {t : Option Nat × (Nat × Nat)} (hd : 0 ≤ d) : ∀ (a0 : Nat) (i1 : Int32) (I : AI) (r : Int32 × AI), f200 kad N Z a0 i1 I = some r → aGo kad d 200 (0, ([(0, .ref a0), (1, .int i1)], [])) (aMem Z I, t) (qI Z t r) := by
  intro a0 i1 I r h
  unfold f200 at h
  refine go_ops aMi200 2 _ (f1 := (3, ([(0, .ref a0), (1, .int i1)], [.int (16 : Int32), .int i1]))) rfl ?_
  refine gg_br (b := decide (i1 < (16 : Int32))) (tg := 13) (off := 10) aMi200 rfl rfl rfl rfl (fun hb => ?_) (fun hb => ?_)
  · rw [if_pos (of_decide_eq_true hb)] at h
    refine go_le (lv1 := [(1, .int i1)]) (aLe_of (show (List.map (fun q => q.1) ([(1, .int i1)] : ALv)).Nodup from (by show ([1] : List Nat).Nodup; decide)) (aSubL_cons rfl aSubL_nil)) ?_
    exact Tf200_b13 hd i1 I _ h
  · rw [if_neg (of_decide_eq_false hb)] at h
    refine go_ops aMi200 1 _ (f1 := (7, ([(0, .ref a0), (1, .int i1)], [.ref a0]))) rfl ?_
    obtain ⟨x7_1, hxx7_1, h⟩ := Option.bind_eq_some_iff.mp h
    refine gg_gI aMi200 rfl rfl rfl hxx7_1 ?_
    refine gg_br (b := decide (¬ x7_1 = 0)) (tg := 17) (off := 7) aMi200 rfl rfl rfl rfl (fun hb => ?_) (fun hb => ?_)
    · rw [if_pos (of_decide_eq_true hb)] at h
      refine go_ops aMi200 3 _ (f1 := (21, ([(0, .ref a0), (1, .int i1)], [.ref a0, .int (4 : Int32), .int (20 : Int32)]))) rfl ?_
      obtain ⟨b21_2, hxb21_2, h⟩ := Option.bind_eq_some_iff.mp h
      refine gg_gR aMi200 rfl rfl rfl hxb21_2 ?_
      refine go_ops aMi200 1 _ (f1 := (25, ([(0, .ref a0), (1, .int i1)], [.ref a0, .ref b21_2, .int (4 : Int32), .int (20 : Int32)]))) rfl ?_
      obtain ⟨x25_3, hxx25_3, h⟩ := Option.bind_eq_some_iff.mp h
      refine gg_gI aMi200 rfl rfl rfl hxx25_3 ?_
      obtain ⟨x28_4, hxx28_4, h⟩ := Option.bind_eq_some_iff.mp h
      refine gg_lI (Or.inl ⟨rfl, rfl⟩) aMi200 rfl hxx28_4 ?_
      refine go_ops aMi200 6 _ (f1 := (36, ([(0, .ref a0), (1, .int i1)], [.int ((((20 : Int32) + ((4 : Int32) * x28_4)) + i1) - (16 : Int32))]))) rfl ?_
      refine go_le (lv1 := []) (aLe_of (show (List.map (fun q => q.1) ([] : ALv)).Nodup from (by show ([] : List Nat).Nodup; decide)) aSubL_nil) ?_
      exact Tf200_b36 hd ((((20 : Int32) + ((4 : Int32) * x28_4)) + i1) - (16 : Int32)) I _ h
    · rw [if_neg (of_decide_eq_false hb)] at h
      refine go_le (lv1 := [(1, .int i1)]) (aLe_of (show (List.map (fun q => q.1) ([(1, .int i1)] : ALv)).Nodup from (by show ([1] : List Nat).Nodup; decide)) (aSubL_cons rfl aSubL_nil)) ?_
      exact Tf200_b13 hd i1 I _ h
-- KernelGymModel.wordsOf (I)I
def f201_b42 (kad : Nat → Nat) (N : Nat) (Z : AZ) (s0 : Int32) (I : AI) : Option (Int32 × AI) :=
  some (s0, I)
set_option maxRecDepth 20000 in
theorem Tf201_b42 {kad : Nat → Nat} {N : Nat} {Z : AZ} {d : Nat} {t : Option Nat × (Nat × Nat)} (hd : 0 ≤ d) : ∀ (s0 : Int32) (I : AI) (r : Int32 × AI), f201_b42 kad N Z s0 I = some r → aGo kad d 201 (42, ([], [.int s0])) (aMem Z I, t) (qI Z t r) := by
  intro s0 I r h
  unfold f201_b42 at h
  cases h
  exact go_ret aMi201 rfl aRetI ⟨rfl, rfl⟩
def f201 (kad : Nat → Nat) (N : Nat) (Z : AZ) (a0 : Nat) (i1 : Int32) (I : AI) : Option (Int32 × AI) :=
  (gR Z I 11 2 a0).bind fun b1_1 =>
  (lI Z I 100 b1_1 i1).bind fun x5_2 =>
  if ¬ x5_2 = (2 : Int32) then
    if ¬ x5_2 = (3 : Int32) then
      if ¬ x5_2 = (4 : Int32) then
        f201_b42 kad N Z (0 : Int32) I
      else
        (gR Z I 11 3 a0).bind fun b31_3 =>
        (lI Z I 100 b31_3 ((5 : Int32) * i1)).bind fun x37_4 =>
        f201_b42 kad N Z x37_4 I
    else
      f201_b42 kad N Z (1 : Int32) I
  else
    f201_b42 kad N Z (2 : Int32) I
set_option maxRecDepth 20000 in
theorem Tf201 {kad : Nat → Nat} {N : Nat} {Z : AZ} {d : Nat} {t : Option Nat × (Nat × Nat)} (hd : 0 ≤ d) : ∀ (a0 : Nat) (i1 : Int32) (I : AI) (r : Int32 × AI), f201 kad N Z a0 i1 I = some r → aGo kad d 201 (0, ([(0, .ref a0), (1, .int i1)], [])) (aMem Z I, t) (qI Z t r) := by
  intro a0 i1 I r h
  unfold f201 at h
  refine go_ops aMi201 1 _ (f1 := (1, ([(0, .ref a0), (1, .int i1)], [.ref a0]))) rfl ?_
  obtain ⟨b1_1, hxb1_1, h⟩ := Option.bind_eq_some_iff.mp h
  refine gg_gR aMi201 rfl rfl rfl hxb1_1 ?_
  refine go_ops aMi201 1 _ (f1 := (5, ([(0, .ref a0), (1, .int i1)], [.int i1, .ref b1_1]))) rfl ?_
  obtain ⟨x5_2, hxx5_2, h⟩ := Option.bind_eq_some_iff.mp h
  refine gg_lI (Or.inl ⟨rfl, rfl⟩) aMi201 rfl hxx5_2 ?_
  refine go_ops aMi201 3 _ (f1 := (9, ([(2, .int x5_2), (0, .ref a0), (1, .int i1)], [.int (2 : Int32), .int x5_2]))) rfl ?_
  refine gg_br (b := decide (¬ x5_2 = (2 : Int32))) (tg := 16) (off := 7) aMi201 rfl rfl rfl rfl (fun hb => ?_) (fun hb => ?_)
  · rw [if_pos (of_decide_eq_true hb)] at h
    refine go_ops aMi201 2 _ (f1 := (18, ([(2, .int x5_2), (0, .ref a0), (1, .int i1)], [.int (3 : Int32), .int x5_2]))) rfl ?_
    refine gg_br (b := decide (¬ x5_2 = (3 : Int32))) (tg := 25) (off := 7) aMi201 rfl rfl rfl rfl (fun hb => ?_) (fun hb => ?_)
    · rw [if_pos (of_decide_eq_true hb)] at h
      refine go_ops aMi201 2 _ (f1 := (27, ([(2, .int x5_2), (0, .ref a0), (1, .int i1)], [.int (4 : Int32), .int x5_2]))) rfl ?_
      refine gg_br (b := decide (¬ x5_2 = (4 : Int32))) (tg := 41) (off := 14) aMi201 rfl rfl rfl rfl (fun hb => ?_) (fun hb => ?_)
      · rw [if_pos (of_decide_eq_true hb)] at h
        refine go_ops aMi201 1 _ (f1 := (42, ([(2, .int x5_2), (0, .ref a0), (1, .int i1)], [.int (0 : Int32)]))) rfl ?_
        refine go_le (lv1 := []) (aLe_of (show (List.map (fun q => q.1) ([] : ALv)).Nodup from (by show ([] : List Nat).Nodup; decide)) aSubL_nil) ?_
        exact Tf201_b42 hd (0 : Int32) I _ h
      · rw [if_neg (of_decide_eq_false hb)] at h
        refine go_ops aMi201 1 _ (f1 := (31, ([(2, .int x5_2), (0, .ref a0), (1, .int i1)], [.ref a0]))) rfl ?_
        obtain ⟨b31_3, hxb31_3, h⟩ := Option.bind_eq_some_iff.mp h
        refine gg_gR aMi201 rfl rfl rfl hxb31_3 ?_
        refine go_ops aMi201 3 _ (f1 := (37, ([(2, .int x5_2), (0, .ref a0), (1, .int i1)], [.int ((5 : Int32) * i1), .ref b31_3]))) rfl ?_
        obtain ⟨x37_4, hxx37_4, h⟩ := Option.bind_eq_some_iff.mp h
        refine gg_lI (Or.inl ⟨rfl, rfl⟩) aMi201 rfl hxx37_4 ?_
        refine go_ops aMi201 1 _ (f1 := (42, ([(2, .int x5_2), (0, .ref a0), (1, .int i1)], [.int x37_4]))) rfl ?_
        refine go_le (lv1 := []) (aLe_of (show (List.map (fun q => q.1) ([] : ALv)).Nodup from (by show ([] : List Nat).Nodup; decide)) aSubL_nil) ?_
        exact Tf201_b42 hd x37_4 I _ h
    · rw [if_neg (of_decide_eq_false hb)] at h
      refine go_ops aMi201 2 _ (f1 := (42, ([(2, .int x5_2), (0, .ref a0), (1, .int i1)], [.int (1 : Int32)]))) rfl ?_
      refine go_le (lv1 := []) (aLe_of (show (List.map (fun q => q.1) ([] : ALv)).Nodup from (by show ([] : List Nat).Nodup; decide)) aSubL_nil) ?_
      exact Tf201_b42 hd (1 : Int32) I _ h
  · rw [if_neg (of_decide_eq_false hb)] at h
    refine go_ops aMi201 2 _ (f1 := (42, ([(2, .int x5_2), (0, .ref a0), (1, .int i1)], [.int (2 : Int32)]))) rfl ?_
    refine go_le (lv1 := []) (aLe_of (show (List.map (fun q => q.1) ([] : ALv)).Nodup from (by show ([] : List Nat).Nodup; decide)) aSubL_nil) ?_
    exact Tf201_b42 hd (2 : Int32) I _ h
-- KernelGymModel.nextOf (I)I
def f202_b34 (kad : Nat → Nat) (N : Nat) (Z : AZ) (i2 : Int32) (I : AI) : Option (Int32 × AI) :=
  some (i2, I)
set_option maxRecDepth 20000 in
theorem Tf202_b34 {kad : Nat → Nat} {N : Nat} {Z : AZ} {d : Nat} {t : Option Nat × (Nat × Nat)} (hd : 0 ≤ d) : ∀ (i2 : Int32) (I : AI) (r : Int32 × AI), f202_b34 kad N Z i2 I = some r → aGo kad d 202 (34, ([(2, .int i2)], [])) (aMem Z I, t) (qI Z t r) := by
  intro i2 I r h
  unfold f202_b34 at h
  refine go_ops aMi202 1 _ (f1 := (35, ([(2, .int i2)], [.int i2]))) rfl ?_
  cases h
  exact go_ret aMi202 rfl aRetI ⟨rfl, rfl⟩
def f202_b4 (kad : Nat → Nat) (N : Nat) (Z : AZ) : Nat → Nat → Int32 → AI → Option (Int32 × AI)
  | 0, _, _, _ => none
  | F + 1, a0, i2, I =>
    (gI Z I 11 1 a0).bind fun x6_1 =>
    if x6_1 ≤ i2 then
      some ((Int32.ofInt (-1)), I)
    else
      (gR Z I 11 2 a0).bind fun b13_2 =>
      (lI Z I 100 b13_2 i2).bind fun x17_3 =>
      if x17_3 = (7 : Int32) then
        f202_b34 kad N Z i2 I
      else
        (gR Z I 11 2 a0).bind fun b24_4 =>
        (lI Z I 100 b24_4 i2).bind fun x28_5 =>
        if ¬ x28_5 = (6 : Int32) then
          f202_b4 kad N Z F a0 (i2 + (1 : Int32)) I
        else
          f202_b34 kad N Z i2 I
set_option maxRecDepth 20000 in
theorem Tf202_b4 {kad : Nat → Nat} {N : Nat} {Z : AZ} {d : Nat} {t : Option Nat × (Nat × Nat)} (hd : 0 ≤ d) : ∀ (F : Nat) (a0 : Nat) (i2 : Int32) (I : AI) (r : Int32 × AI), f202_b4 kad N Z F a0 i2 I = some r → aGo kad d 202 (4, ([(0, .ref a0), (2, .int i2)], [])) (aMem Z I, t) (qI Z t r) := by
  intro F
  induction F with
  | zero => intro a0 i2 I r h; cases h
  | succ F ih =>
    intro a0 i2 I r h
    unfold f202_b4 at h
    refine go_ops aMi202 2 _ (f1 := (6, ([(0, .ref a0), (2, .int i2)], [.ref a0, .int i2]))) rfl ?_
    obtain ⟨x6_1, hxx6_1, h⟩ := Option.bind_eq_some_iff.mp h
    refine gg_gI aMi202 rfl rfl rfl hxx6_1 ?_
    refine gg_br (b := decide (x6_1 ≤ i2)) (tg := 42) (off := 33) aMi202 rfl rfl rfl rfl (fun hb => ?_) (fun hb => ?_)
    · rw [if_pos (of_decide_eq_true hb)] at h
      refine go_ops aMi202 1 _ (f1 := (43, ([(0, .ref a0), (2, .int i2)], [.int (Int32.ofInt (-1))]))) rfl ?_
      cases h
      exact go_ret aMi202 rfl aRetI ⟨rfl, rfl⟩
    · rw [if_neg (of_decide_eq_false hb)] at h
      refine go_ops aMi202 1 _ (f1 := (13, ([(0, .ref a0), (2, .int i2)], [.ref a0]))) rfl ?_
      obtain ⟨b13_2, hxb13_2, h⟩ := Option.bind_eq_some_iff.mp h
      refine gg_gR aMi202 rfl rfl rfl hxb13_2 ?_
      refine go_ops aMi202 1 _ (f1 := (17, ([(0, .ref a0), (2, .int i2)], [.int i2, .ref b13_2]))) rfl ?_
      obtain ⟨x17_3, hxx17_3, h⟩ := Option.bind_eq_some_iff.mp h
      refine gg_lI (Or.inl ⟨rfl, rfl⟩) aMi202 rfl hxx17_3 ?_
      refine go_ops aMi202 1 _ (f1 := (20, ([(0, .ref a0), (2, .int i2)], [.int (7 : Int32), .int x17_3]))) rfl ?_
      refine gg_br (b := decide (x17_3 = (7 : Int32))) (tg := 34) (off := 14) aMi202 rfl rfl rfl rfl (fun hb => ?_) (fun hb => ?_)
      · rw [if_pos (of_decide_eq_true hb)] at h
        refine go_le (lv1 := [(2, .int i2)]) (aLe_of (show (List.map (fun q => q.1) ([(2, .int i2)] : ALv)).Nodup from (by show ([2] : List Nat).Nodup; decide)) (aSubL_cons rfl aSubL_nil)) ?_
        exact Tf202_b34 hd i2 I _ h
      · rw [if_neg (of_decide_eq_false hb)] at h
        refine go_ops aMi202 1 _ (f1 := (24, ([(0, .ref a0), (2, .int i2)], [.ref a0]))) rfl ?_
        obtain ⟨b24_4, hxb24_4, h⟩ := Option.bind_eq_some_iff.mp h
        refine gg_gR aMi202 rfl rfl rfl hxb24_4 ?_
        refine go_ops aMi202 1 _ (f1 := (28, ([(0, .ref a0), (2, .int i2)], [.int i2, .ref b24_4]))) rfl ?_
        obtain ⟨x28_5, hxx28_5, h⟩ := Option.bind_eq_some_iff.mp h
        refine gg_lI (Or.inl ⟨rfl, rfl⟩) aMi202 rfl hxx28_5 ?_
        refine go_ops aMi202 1 _ (f1 := (31, ([(0, .ref a0), (2, .int i2)], [.int (6 : Int32), .int x28_5]))) rfl ?_
        refine gg_br (b := decide (¬ x28_5 = (6 : Int32))) (tg := 36) (off := 5) aMi202 rfl rfl rfl rfl (fun hb => ?_) (fun hb => ?_)
        · rw [if_pos (of_decide_eq_true hb)] at h
          refine go_ops aMi202 2 _ (f1 := (4, ([(2, .int (i2 + (1 : Int32))), (0, .ref a0)], []))) rfl ?_
          refine go_le (lv1 := [(0, .ref a0), (2, .int (i2 + (1 : Int32)))]) (aLe_of (show (List.map (fun q => q.1) ([(0, .ref a0), (2, .int (i2 + (1 : Int32)))] : ALv)).Nodup from (by show ([0, 2] : List Nat).Nodup; decide)) (aSubL_cons rfl (aSubL_cons rfl aSubL_nil))) ?_
          exact ih a0 (i2 + (1 : Int32)) I _ h
        · rw [if_neg (of_decide_eq_false hb)] at h
          refine go_le (lv1 := [(2, .int i2)]) (aLe_of (show (List.map (fun q => q.1) ([(2, .int i2)] : ALv)).Nodup from (by show ([2] : List Nat).Nodup; decide)) (aSubL_cons rfl aSubL_nil)) ?_
          exact Tf202_b34 hd i2 I _ h
def f202 (kad : Nat → Nat) (N : Nat) (Z : AZ) (a0 : Nat) (i1 : Int32) (I : AI) : Option (Int32 × AI) :=
  f202_b4 kad N Z N a0 (i1 + (1 : Int32)) I
set_option maxRecDepth 20000 in
theorem Tf202 {kad : Nat → Nat} {N : Nat} {Z : AZ} {d : Nat} {t : Option Nat × (Nat × Nat)} (hd : 0 ≤ d) : ∀ (a0 : Nat) (i1 : Int32) (I : AI) (r : Int32 × AI), f202 kad N Z a0 i1 I = some r → aGo kad d 202 (0, ([(0, .ref a0), (1, .int i1)], [])) (aMem Z I, t) (qI Z t r) := by
  intro a0 i1 I r h
  unfold f202 at h
  refine go_ops aMi202 4 _ (f1 := (4, ([(2, .int (i1 + (1 : Int32))), (0, .ref a0), (1, .int i1)], []))) rfl ?_
  refine go_le (lv1 := [(0, .ref a0), (2, .int (i1 + (1 : Int32)))]) (aLe_of (show (List.map (fun q => q.1) ([(0, .ref a0), (2, .int (i1 + (1 : Int32)))] : ALv)).Nodup from (by show ([0, 2] : List Nat).Nodup; decide)) (aSubL_cons rfl (aSubL_cons rfl aSubL_nil))) ?_
  exact Tf202_b4 hd N a0 (i1 + (1 : Int32)) I _ h
-- KernelGymModel.begins (I)I
def f203_b60 (kad : Nat → Nat) (N : Nat) (Z : AZ) (s0 : Int32) (s1 : Int32) (I : AI) : Option (Int32 × AI) :=
  some ((s1 + s0), I)
set_option maxRecDepth 20000 in
theorem Tf203_b60 {kad : Nat → Nat} {N : Nat} {Z : AZ} {d : Nat} {t : Option Nat × (Nat × Nat)} (hd : 1 ≤ d) : ∀ (s0 : Int32) (s1 : Int32) (I : AI) (r : Int32 × AI), f203_b60 kad N Z s0 s1 I = some r → aGo kad d 203 (60, ([], [.int s0, .int s1])) (aMem Z I, t) (qI Z t r) := by
  intro s0 s1 I r h
  unfold f203_b60 at h
  refine go_ops aMi203 1 _ (f1 := (61, ([], [.int (s1 + s0)]))) rfl ?_
  cases h
  exact go_ret aMi203 rfl aRetI ⟨rfl, rfl⟩
def f203_b47 (kad : Nat → Nat) (N : Nat) (Z : AZ) (i1 : Int32) (i3 : Int32) (I : AI) : Option (Int32 × AI) :=
  if ¬ i3 = (Int32.ofInt (-1)) then
    f203_b60 kad N Z i3 (400 : Int32) I
  else
    f203_b60 kad N Z i1 (400 : Int32) I
set_option maxRecDepth 20000 in
theorem Tf203_b47 {kad : Nat → Nat} {N : Nat} {Z : AZ} {d : Nat} {t : Option Nat × (Nat × Nat)} (hd : 1 ≤ d) : ∀ (i1 : Int32) (i3 : Int32) (I : AI) (r : Int32 × AI), f203_b47 kad N Z i1 i3 I = some r → aGo kad d 203 (47, ([(1, .int i1), (3, .int i3)], [])) (aMem Z I, t) (qI Z t r) := by
  intro i1 i3 I r h
  unfold f203_b47 at h
  refine go_ops aMi203 3 _ (f1 := (52, ([(1, .int i1), (3, .int i3)], [.int (Int32.ofInt (-1)), .int i3, .int (400 : Int32)]))) rfl ?_
  refine gg_br (b := decide (¬ i3 = (Int32.ofInt (-1)))) (tg := 59) (off := 7) aMi203 rfl rfl rfl rfl (fun hb => ?_) (fun hb => ?_)
  · rw [if_pos (of_decide_eq_true hb)] at h
    refine go_ops aMi203 1 _ (f1 := (60, ([(1, .int i1), (3, .int i3)], [.int i3, .int (400 : Int32)]))) rfl ?_
    refine go_le (lv1 := []) (aLe_of (show (List.map (fun q => q.1) ([] : ALv)).Nodup from (by show ([] : List Nat).Nodup; decide)) aSubL_nil) ?_
    exact Tf203_b60 hd i3 (400 : Int32) I _ h
  · rw [if_neg (of_decide_eq_false hb)] at h
    refine go_ops aMi203 2 _ (f1 := (60, ([(1, .int i1), (3, .int i3)], [.int i1, .int (400 : Int32)]))) rfl ?_
    refine go_le (lv1 := []) (aLe_of (show (List.map (fun q => q.1) ([] : ALv)).Nodup from (by show ([] : List Nat).Nodup; decide)) aSubL_nil) ?_
    exact Tf203_b60 hd i1 (400 : Int32) I _ h
def f203 (kad : Nat → Nat) (N : Nat) (Z : AZ) (a0 : Nat) (i1 : Int32) (I : AI) : Option (Int32 × AI) :=
  (gR Z I 11 3 a0).bind fun b1_1 =>
  (lI Z I 100 b1_1 ((5 : Int32) * i1)).bind fun x7_2 =>
  (gR Z I 11 6 a0).bind fun b10_3 =>
  (lI Z I 100 b10_3 x7_2).bind fun x14_4 =>
  if x14_4 = (Int32.ofInt (-1)) then
    (isK Z a0 11).bind fun u27_5 =>
    (f202 kad N Z a0 i1 I).bind fun r27_6 =>
    if r27_6.1 = (Int32.ofInt (-1)) then
      f203_b47 kad N Z i1 r27_6.1 r27_6.2
    else
      (gR Z r27_6.2 11 2 a0).bind fun b37_7 =>
      (lI Z r27_6.2 100 b37_7 r27_6.1).bind fun x41_8 =>
      if ¬ x41_8 = (6 : Int32) then
        (gR Z r27_6.2 11 6 a0).bind fun b63_9 =>
        (sI Z r27_6.2 100 b63_9 x7_2 (i1 + (1 : Int32))).bind fun I70_10 =>
        (gR Z I70_10 11 7 a0).bind fun b72_11 =>
        (sI Z I70_10 100 b72_11 x7_2 r27_6.1).bind fun I77_12 =>
        (gR Z I77_12 11 8 a0).bind fun b79_13 =>
        (gI Z I77_12 11 14 a0).bind fun x83_14 =>
        (sI Z I77_12 100 b79_13 x83_14 (r27_6.1 + (1 : Int32))).bind fun I89_15 =>
        some ((0 : Int32), I89_15)
      else
        f203_b47 kad N Z i1 r27_6.1 r27_6.2
  else
    some (((300 : Int32) + i1), I)
set_option maxRecDepth 20000 in
theorem Tf203 {kad : Nat → Nat} {N : Nat} {Z : AZ} {d : Nat} {t : Option Nat × (Nat × Nat)} (hd : 1 ≤ d) : ∀ (a0 : Nat) (i1 : Int32) (I : AI) (r : Int32 × AI), f203 kad N Z a0 i1 I = some r → aGo kad d 203 (0, ([(0, .ref a0), (1, .int i1)], [])) (aMem Z I, t) (qI Z t r) := by
  intro a0 i1 I r h
  unfold f203 at h
  refine go_ops aMi203 1 _ (f1 := (1, ([(0, .ref a0), (1, .int i1)], [.ref a0]))) rfl ?_
  obtain ⟨b1_1, hxb1_1, h⟩ := Option.bind_eq_some_iff.mp h
  refine gg_gR aMi203 rfl rfl rfl hxb1_1 ?_
  refine go_ops aMi203 3 _ (f1 := (7, ([(0, .ref a0), (1, .int i1)], [.int ((5 : Int32) * i1), .ref b1_1]))) rfl ?_
  obtain ⟨x7_2, hxx7_2, h⟩ := Option.bind_eq_some_iff.mp h
  refine gg_lI (Or.inl ⟨rfl, rfl⟩) aMi203 rfl hxx7_2 ?_
  refine go_ops aMi203 2 _ (f1 := (10, ([(2, .int x7_2), (0, .ref a0), (1, .int i1)], [.ref a0]))) rfl ?_
  obtain ⟨b10_3, hxb10_3, h⟩ := Option.bind_eq_some_iff.mp h
  refine gg_gR aMi203 rfl rfl rfl hxb10_3 ?_
  refine go_ops aMi203 1 _ (f1 := (14, ([(2, .int x7_2), (0, .ref a0), (1, .int i1)], [.int x7_2, .ref b10_3]))) rfl ?_
  obtain ⟨x14_4, hxx14_4, h⟩ := Option.bind_eq_some_iff.mp h
  refine gg_lI (Or.inl ⟨rfl, rfl⟩) aMi203 rfl hxx14_4 ?_
  refine go_ops aMi203 1 _ (f1 := (16, ([(2, .int x7_2), (0, .ref a0), (1, .int i1)], [.int (Int32.ofInt (-1)), .int x14_4]))) rfl ?_
  refine gg_br (b := decide (x14_4 = (Int32.ofInt (-1)))) (tg := 25) (off := 9) aMi203 rfl rfl rfl rfl (fun hb => ?_) (fun hb => ?_)
  · rw [if_pos (of_decide_eq_true hb)] at h
    refine go_ops aMi203 2 _ (f1 := (27, ([(2, .int x7_2), (0, .ref a0), (1, .int i1)], [.int i1, .ref a0]))) rfl ?_
    obtain ⟨u27_5, hxu27_5, h⟩ := Option.bind_eq_some_iff.mp h
    obtain ⟨r27_6, hxr27_6, h⟩ := Option.bind_eq_some_iff.mp h
    refine gg_cv (as := [.int i1]) (r := []) aMi203 rfl rfl rfl aMi202 (Nat.le_of_ble_eq_true rfl) rfl (Nat.le_of_ble_eq_true rfl) (Nat.le_of_ble_eq_true rfl) (by omega) hxu27_5 (Tf202 (by omega) a0 i1 I _ hxr27_6) ?_
    show aGo kad d 203 (30, ([(2, .int x7_2), (0, .ref a0), (1, .int i1)], [.int r27_6.1])) (aMem Z r27_6.2, t) _
    refine go_ops aMi203 3 _ (f1 := (33, ([(3, .int r27_6.1), (2, .int x7_2), (0, .ref a0), (1, .int i1)], [.int (Int32.ofInt (-1)), .int r27_6.1]))) rfl ?_
    refine gg_br (b := decide (r27_6.1 = (Int32.ofInt (-1)))) (tg := 47) (off := 14) aMi203 rfl rfl rfl rfl (fun hb => ?_) (fun hb => ?_)
    · rw [if_pos (of_decide_eq_true hb)] at h
      refine go_le (lv1 := [(1, .int i1), (3, .int r27_6.1)]) (aLe_of (show (List.map (fun q => q.1) ([(1, .int i1), (3, .int r27_6.1)] : ALv)).Nodup from (by show ([1, 3] : List Nat).Nodup; decide)) (aSubL_cons rfl (aSubL_cons rfl aSubL_nil))) ?_
      exact Tf203_b47 hd i1 r27_6.1 r27_6.2 _ h
    · rw [if_neg (of_decide_eq_false hb)] at h
      refine go_ops aMi203 1 _ (f1 := (37, ([(3, .int r27_6.1), (2, .int x7_2), (0, .ref a0), (1, .int i1)], [.ref a0]))) rfl ?_
      obtain ⟨b37_7, hxb37_7, h⟩ := Option.bind_eq_some_iff.mp h
      refine gg_gR aMi203 rfl rfl rfl hxb37_7 ?_
      refine go_ops aMi203 1 _ (f1 := (41, ([(3, .int r27_6.1), (2, .int x7_2), (0, .ref a0), (1, .int i1)], [.int r27_6.1, .ref b37_7]))) rfl ?_
      obtain ⟨x41_8, hxx41_8, h⟩ := Option.bind_eq_some_iff.mp h
      refine gg_lI (Or.inl ⟨rfl, rfl⟩) aMi203 rfl hxx41_8 ?_
      refine go_ops aMi203 1 _ (f1 := (44, ([(3, .int r27_6.1), (2, .int x7_2), (0, .ref a0), (1, .int i1)], [.int (6 : Int32), .int x41_8]))) rfl ?_
      refine gg_br (b := decide (¬ x41_8 = (6 : Int32))) (tg := 62) (off := 18) aMi203 rfl rfl rfl rfl (fun hb => ?_) (fun hb => ?_)
      · rw [if_pos (of_decide_eq_true hb)] at h
        refine go_ops aMi203 1 _ (f1 := (63, ([(3, .int r27_6.1), (2, .int x7_2), (0, .ref a0), (1, .int i1)], [.ref a0]))) rfl ?_
        obtain ⟨b63_9, hxb63_9, h⟩ := Option.bind_eq_some_iff.mp h
        refine gg_gR aMi203 rfl rfl rfl hxb63_9 ?_
        refine go_ops aMi203 4 _ (f1 := (70, ([(3, .int r27_6.1), (2, .int x7_2), (0, .ref a0), (1, .int i1)], [.int (i1 + (1 : Int32)), .int x7_2, .ref b63_9]))) rfl ?_
        obtain ⟨I70_10, hxI70_10, h⟩ := Option.bind_eq_some_iff.mp h
        refine gg_sI (Or.inl ⟨rfl, rfl⟩) aMi203 rfl hxI70_10 ?_
        refine go_ops aMi203 1 _ (f1 := (72, ([(3, .int r27_6.1), (2, .int x7_2), (0, .ref a0), (1, .int i1)], [.ref a0]))) rfl ?_
        obtain ⟨b72_11, hxb72_11, h⟩ := Option.bind_eq_some_iff.mp h
        refine gg_gR aMi203 rfl rfl rfl hxb72_11 ?_
        refine go_ops aMi203 2 _ (f1 := (77, ([(3, .int r27_6.1), (2, .int x7_2), (0, .ref a0), (1, .int i1)], [.int r27_6.1, .int x7_2, .ref b72_11]))) rfl ?_
        obtain ⟨I77_12, hxI77_12, h⟩ := Option.bind_eq_some_iff.mp h
        refine gg_sI (Or.inl ⟨rfl, rfl⟩) aMi203 rfl hxI77_12 ?_
        refine go_ops aMi203 1 _ (f1 := (79, ([(3, .int r27_6.1), (2, .int x7_2), (0, .ref a0), (1, .int i1)], [.ref a0]))) rfl ?_
        obtain ⟨b79_13, hxb79_13, h⟩ := Option.bind_eq_some_iff.mp h
        refine gg_gR aMi203 rfl rfl rfl hxb79_13 ?_
        refine go_ops aMi203 1 _ (f1 := (83, ([(3, .int r27_6.1), (2, .int x7_2), (0, .ref a0), (1, .int i1)], [.ref a0, .ref b79_13]))) rfl ?_
        obtain ⟨x83_14, hxx83_14, h⟩ := Option.bind_eq_some_iff.mp h
        refine gg_gI aMi203 rfl rfl rfl hxx83_14 ?_
        refine go_ops aMi203 3 _ (f1 := (89, ([(3, .int r27_6.1), (2, .int x7_2), (0, .ref a0), (1, .int i1)], [.int (r27_6.1 + (1 : Int32)), .int x83_14, .ref b79_13]))) rfl ?_
        obtain ⟨I89_15, hxI89_15, h⟩ := Option.bind_eq_some_iff.mp h
        refine gg_sI (Or.inl ⟨rfl, rfl⟩) aMi203 rfl hxI89_15 ?_
        refine go_ops aMi203 1 _ (f1 := (91, ([(3, .int r27_6.1), (2, .int x7_2), (0, .ref a0), (1, .int i1)], [.int (0 : Int32)]))) rfl ?_
        cases h
        exact go_ret aMi203 rfl aRetI ⟨rfl, rfl⟩
      · rw [if_neg (of_decide_eq_false hb)] at h
        refine go_le (lv1 := [(1, .int i1), (3, .int r27_6.1)]) (aLe_of (show (List.map (fun q => q.1) ([(1, .int i1), (3, .int r27_6.1)] : ALv)).Nodup from (by show ([1, 3] : List Nat).Nodup; decide)) (aSubL_cons rfl (aSubL_cons rfl aSubL_nil))) ?_
        exact Tf203_b47 hd i1 r27_6.1 r27_6.2 _ h
  · rw [if_neg (of_decide_eq_false hb)] at h
    refine go_ops aMi203 3 _ (f1 := (24, ([(2, .int x7_2), (0, .ref a0), (1, .int i1)], [.int ((300 : Int32) + i1)]))) rfl ?_
    cases h
    exact go_ret aMi203 rfl aRetI ⟨rfl, rfl⟩
-- KernelGymModel.isGoneThrough (I)Z
def f204_b2 (kad : Nat → Nat) (N : Nat) (Z : AZ) : Nat → Nat → Int32 → Int32 → AI → Option (Int32 × AI)
  | 0, _, _, _, _ => none
  | F + 1, a0, i1, i2, I =>
    (gI Z I 11 14 a0).bind fun x4_1 =>
    if x4_1 < i2 then
      if (0 : Int32) = 0 ∨ (0 : Int32) = 1 then some ((0 : Int32), I) else none
    else
      (gR Z I 11 11 a0).bind fun b11_2 =>
      (lI Z I 100 b11_2 i2).bind fun x15_3 =>
      if ¬ x15_3 = i1 then
        f204_b2 kad N Z F a0 i1 (i2 + (1 : Int32)) I
      else
        if (1 : Int32) = 0 ∨ (1 : Int32) = 1 then some ((1 : Int32), I) else none
set_option maxRecDepth 20000 in
theorem Tf204_b2 {kad : Nat → Nat} {N : Nat} {Z : AZ} {d : Nat} {t : Option Nat × (Nat × Nat)} (hd : 0 ≤ d) : ∀ (F : Nat) (a0 : Nat) (i1 : Int32) (i2 : Int32) (I : AI) (r : Int32 × AI), f204_b2 kad N Z F a0 i1 i2 I = some r → aGo kad d 204 (2, ([(0, .ref a0), (1, .int i1), (2, .int i2)], [])) (aMem Z I, t) (qI Z t r) := by
  intro F
  induction F with
  | zero => intro a0 i1 i2 I r h; cases h
  | succ F ih =>
    intro a0 i1 i2 I r h
    unfold f204_b2 at h
    refine go_ops aMi204 2 _ (f1 := (4, ([(0, .ref a0), (1, .int i1), (2, .int i2)], [.ref a0, .int i2]))) rfl ?_
    obtain ⟨x4_1, hxx4_1, h⟩ := Option.bind_eq_some_iff.mp h
    refine gg_gI aMi204 rfl rfl rfl hxx4_1 ?_
    refine gg_br (b := decide (x4_1 < i2)) (tg := 28) (off := 21) aMi204 rfl rfl rfl rfl (fun hb => ?_) (fun hb => ?_)
    · rw [if_pos (of_decide_eq_true hb)] at h
      refine go_ops aMi204 1 _ (f1 := (29, ([(0, .ref a0), (1, .int i1), (2, .int i2)], [.int (0 : Int32)]))) rfl ?_
      split at h
      · rename_i hz
        cases h
        exact go_ret aMi204 rfl (aRetZ hz) ⟨rfl, rfl⟩
      · cases h
    · rw [if_neg (of_decide_eq_false hb)] at h
      refine go_ops aMi204 1 _ (f1 := (11, ([(0, .ref a0), (1, .int i1), (2, .int i2)], [.ref a0]))) rfl ?_
      obtain ⟨b11_2, hxb11_2, h⟩ := Option.bind_eq_some_iff.mp h
      refine gg_gR aMi204 rfl rfl rfl hxb11_2 ?_
      refine go_ops aMi204 1 _ (f1 := (15, ([(0, .ref a0), (1, .int i1), (2, .int i2)], [.int i2, .ref b11_2]))) rfl ?_
      obtain ⟨x15_3, hxx15_3, h⟩ := Option.bind_eq_some_iff.mp h
      refine gg_lI (Or.inl ⟨rfl, rfl⟩) aMi204 rfl hxx15_3 ?_
      refine go_ops aMi204 1 _ (f1 := (17, ([(0, .ref a0), (1, .int i1), (2, .int i2)], [.int i1, .int x15_3]))) rfl ?_
      refine gg_br (b := decide (¬ x15_3 = i1)) (tg := 22) (off := 5) aMi204 rfl rfl rfl rfl (fun hb => ?_) (fun hb => ?_)
      · rw [if_pos (of_decide_eq_true hb)] at h
        refine go_ops aMi204 2 _ (f1 := (2, ([(2, .int (i2 + (1 : Int32))), (0, .ref a0), (1, .int i1)], []))) rfl ?_
        refine go_le (lv1 := [(0, .ref a0), (1, .int i1), (2, .int (i2 + (1 : Int32)))]) (aLe_of (show (List.map (fun q => q.1) ([(0, .ref a0), (1, .int i1), (2, .int (i2 + (1 : Int32)))] : ALv)).Nodup from (by show ([0, 1, 2] : List Nat).Nodup; decide)) (aSubL_cons rfl (aSubL_cons rfl (aSubL_cons rfl aSubL_nil)))) ?_
        exact ih a0 i1 (i2 + (1 : Int32)) I _ h
      · rw [if_neg (of_decide_eq_false hb)] at h
        refine go_ops aMi204 1 _ (f1 := (21, ([(0, .ref a0), (1, .int i1), (2, .int i2)], [.int (1 : Int32)]))) rfl ?_
        split at h
        · rename_i hz
          cases h
          exact go_ret aMi204 rfl (aRetZ hz) ⟨rfl, rfl⟩
        · cases h
def f204 (kad : Nat → Nat) (N : Nat) (Z : AZ) (a0 : Nat) (i1 : Int32) (I : AI) : Option (Int32 × AI) :=
  f204_b2 kad N Z N a0 i1 (1 : Int32) I
set_option maxRecDepth 20000 in
theorem Tf204 {kad : Nat → Nat} {N : Nat} {Z : AZ} {d : Nat} {t : Option Nat × (Nat × Nat)} (hd : 0 ≤ d) : ∀ (a0 : Nat) (i1 : Int32) (I : AI) (r : Int32 × AI), f204 kad N Z a0 i1 I = some r → aGo kad d 204 (0, ([(0, .ref a0), (1, .int i1)], [])) (aMem Z I, t) (qI Z t r) := by
  intro a0 i1 I r h
  unfold f204 at h
  refine go_ops aMi204 2 _ (f1 := (2, ([(2, .int (1 : Int32)), (0, .ref a0), (1, .int i1)], []))) rfl ?_
  refine go_le (lv1 := [(0, .ref a0), (1, .int i1), (2, .int (1 : Int32))]) (aLe_of (show (List.map (fun q => q.1) ([(0, .ref a0), (1, .int i1), (2, .int (1 : Int32))] : ALv)).Nodup from (by show ([0, 1, 2] : List Nat).Nodup; decide)) (aSubL_cons rfl (aSubL_cons rfl (aSubL_cons rfl aSubL_nil)))) ?_
  exact Tf204_b2 hd N a0 i1 (1 : Int32) I _ h
-- KernelGymModel.value (II)I
def f205_b67 (kad : Nat → Nat) (N : Nat) (Z : AZ) (s0 : Int32) (I : AI) : Option (Int32 × AI) :=
  some (s0, I)
set_option maxRecDepth 20000 in
theorem Tf205_b67 {kad : Nat → Nat} {N : Nat} {Z : AZ} {d : Nat} {t : Option Nat × (Nat × Nat)} (hd : 1 ≤ d) : ∀ (s0 : Int32) (I : AI) (r : Int32 × AI), f205_b67 kad N Z s0 I = some r → aGo kad d 205 (67, ([], [.int s0])) (aMem Z I, t) (qI Z t r) := by
  intro s0 I r h
  unfold f205_b67 at h
  cases h
  exact go_ret aMi205 rfl aRetI ⟨rfl, rfl⟩
def f205_b66 (kad : Nat → Nat) (N : Nat) (Z : AZ) (s0 : Int32) (s1 : Int32) (I : AI) : Option (Int32 × AI) :=
  f205_b67 kad N Z (s1 + s0) I
set_option maxRecDepth 20000 in
theorem Tf205_b66 {kad : Nat → Nat} {N : Nat} {Z : AZ} {d : Nat} {t : Option Nat × (Nat × Nat)} (hd : 1 ≤ d) : ∀ (s0 : Int32) (s1 : Int32) (I : AI) (r : Int32 × AI), f205_b66 kad N Z s0 s1 I = some r → aGo kad d 205 (66, ([], [.int s0, .int s1])) (aMem Z I, t) (qI Z t r) := by
  intro s0 s1 I r h
  unfold f205_b66 at h
  refine go_ops aMi205 1 _ (f1 := (67, ([], [.int (s1 + s0)]))) rfl ?_
  exact Tf205_b67 hd (s1 + s0) I _ h
def f205_b33 (kad : Nat → Nat) (N : Nat) (Z : AZ) (a0 : Nat) (i3 : Int32) (s0 : Int32) (s1 : Nat) (I : AI) : Option (Int32 × AI) :=
  (pI Z I 11 19 s1 s0).bind fun I33_1 =>
  if ¬ i3 = (Int32.ofInt (-1)) then
    if (1000 : Int32) ≤ i3 then
      (gI Z I33_1 11 18 a0).bind fun x63_2 =>
      f205_b66 kad N Z x63_2 (i3 - i3 / (1000 : Int32) * (1000 : Int32)) I33_1
    else
      f205_b66 kad N Z (8 : Int32) (i3 - i3 / (1000 : Int32) * (1000 : Int32)) I33_1
  else
    f205_b67 kad N Z (0 : Int32) I33_1
set_option maxRecDepth 20000 in
theorem Tf205_b33 {kad : Nat → Nat} {N : Nat} {Z : AZ} {d : Nat} {t : Option Nat × (Nat × Nat)} (hd : 1 ≤ d) : ∀ (a0 : Nat) (i3 : Int32) (s0 : Int32) (s1 : Nat) (I : AI) (r : Int32 × AI), f205_b33 kad N Z a0 i3 s0 s1 I = some r → aGo kad d 205 (33, ([(0, .ref a0), (3, .int i3)], [.int s0, .ref s1])) (aMem Z I, t) (qI Z t r) := by
  intro a0 i3 s0 s1 I r h
  unfold f205_b33 at h
  obtain ⟨I33_1, hxI33_1, h⟩ := Option.bind_eq_some_iff.mp h
  refine gg_pI aMi205 rfl rfl rfl rfl (by decide) hxI33_1 ?_
  refine go_ops aMi205 2 _ (f1 := (38, ([(0, .ref a0), (3, .int i3)], [.int (Int32.ofInt (-1)), .int i3]))) rfl ?_
  refine gg_br (b := decide (¬ i3 = (Int32.ofInt (-1)))) (tg := 45) (off := 7) aMi205 rfl rfl rfl rfl (fun hb => ?_) (fun hb => ?_)
  · rw [if_pos (of_decide_eq_true hb)] at h
    refine go_ops aMi205 5 _ (f1 := (54, ([(0, .ref a0), (3, .int i3)], [.int (1000 : Int32), .int i3, .int (i3 - i3 / (1000 : Int32) * (1000 : Int32))]))) rfl ?_
    refine gg_br (b := decide ((1000 : Int32) ≤ i3)) (tg := 62) (off := 8) aMi205 rfl rfl rfl rfl (fun hb => ?_) (fun hb => ?_)
    · rw [if_pos (of_decide_eq_true hb)] at h
      refine go_ops aMi205 1 _ (f1 := (63, ([(0, .ref a0), (3, .int i3)], [.ref a0, .int (i3 - i3 / (1000 : Int32) * (1000 : Int32))]))) rfl ?_
      obtain ⟨x63_2, hxx63_2, h⟩ := Option.bind_eq_some_iff.mp h
      refine gg_gI aMi205 rfl rfl rfl hxx63_2 ?_
      refine go_le (lv1 := []) (aLe_of (show (List.map (fun q => q.1) ([] : ALv)).Nodup from (by show ([] : List Nat).Nodup; decide)) aSubL_nil) ?_
      exact Tf205_b66 hd x63_2 (i3 - i3 / (1000 : Int32) * (1000 : Int32)) I33_1 _ h
    · rw [if_neg (of_decide_eq_false hb)] at h
      refine go_ops aMi205 2 _ (f1 := (66, ([(0, .ref a0), (3, .int i3)], [.int (8 : Int32), .int (i3 - i3 / (1000 : Int32) * (1000 : Int32))]))) rfl ?_
      refine go_le (lv1 := []) (aLe_of (show (List.map (fun q => q.1) ([] : ALv)).Nodup from (by show ([] : List Nat).Nodup; decide)) aSubL_nil) ?_
      exact Tf205_b66 hd (8 : Int32) (i3 - i3 / (1000 : Int32) * (1000 : Int32)) I33_1 _ h
  · rw [if_neg (of_decide_eq_false hb)] at h
    refine go_ops aMi205 2 _ (f1 := (67, ([(0, .ref a0), (3, .int i3)], [.int (0 : Int32)]))) rfl ?_
    refine go_le (lv1 := []) (aLe_of (show (List.map (fun q => q.1) ([] : ALv)).Nodup from (by show ([] : List Nat).Nodup; decide)) aSubL_nil) ?_
    exact Tf205_b67 hd (0 : Int32) I33_1 _ h
def f205_b134 (kad : Nat → Nat) (N : Nat) (Z : AZ) (s0 : Int32) (I : AI) : Option (Int32 × AI) :=
  some (s0, I)
set_option maxRecDepth 20000 in
theorem Tf205_b134 {kad : Nat → Nat} {N : Nat} {Z : AZ} {d : Nat} {t : Option Nat × (Nat × Nat)} (hd : 1 ≤ d) : ∀ (s0 : Int32) (I : AI) (r : Int32 × AI), f205_b134 kad N Z s0 I = some r → aGo kad d 205 (134, ([], [.int s0])) (aMem Z I, t) (qI Z t r) := by
  intro s0 I r h
  unfold f205_b134 at h
  cases h
  exact go_ret aMi205 rfl aRetI ⟨rfl, rfl⟩
def f205_b129 (kad : Nat → Nat) (N : Nat) (Z : AZ) (i2 : Int32) (s0 : Int32) (I : AI) : Option (Int32 × AI) :=
  f205_b134 kad N Z ((s0 + i2) - (s0 + i2) / (65536 : Int32) * (65536 : Int32)) I
set_option maxRecDepth 20000 in
theorem Tf205_b129 {kad : Nat → Nat} {N : Nat} {Z : AZ} {d : Nat} {t : Option Nat × (Nat × Nat)} (hd : 1 ≤ d) : ∀ (i2 : Int32) (s0 : Int32) (I : AI) (r : Int32 × AI), f205_b129 kad N Z i2 s0 I = some r → aGo kad d 205 (129, ([(2, .int i2)], [.int s0])) (aMem Z I, t) (qI Z t r) := by
  intro i2 s0 I r h
  unfold f205_b129 at h
  refine go_ops aMi205 2 _ (f1 := (131, ([(2, .int i2)], [.int (s0 + i2)]))) rfl ?_
  refine gg_kI (Or.inl ⟨rfl, rfl⟩) aMi205 rfl rfl ?_
  refine go_ops aMi205 1 _ (f1 := (134, ([(2, .int i2)], [.int ((s0 + i2) - (s0 + i2) / (65536 : Int32) * (65536 : Int32))]))) rfl ?_
  refine go_le (lv1 := []) (aLe_of (show (List.map (fun q => q.1) ([] : ALv)).Nodup from (by show ([] : List Nat).Nodup; decide)) aSubL_nil) ?_
  exact Tf205_b134 hd ((s0 + i2) - (s0 + i2) / (65536 : Int32) * (65536 : Int32)) I _ h
def f205_b89 (kad : Nat → Nat) (N : Nat) (Z : AZ) (a0 : Nat) (i1 : Int32) (i2 : Int32) (s0 : Int32) (s1 : Nat) (I : AI) : Option (Int32 × AI) :=
  (pI Z I 11 19 s1 s0).bind fun I89_1 =>
  (gI Z I89_1 11 14 a0).bind fun x93_2 =>
  if ¬ x93_2 = 0 then
    if ¬ i1 = (2 : Int32) then
      (gR Z I89_1 11 13 a0).bind fun b121_3 =>
      (gI Z I89_1 11 14 a0).bind fun x125_4 =>
      (lI Z I89_1 100 b121_3 x125_4).bind fun x128_5 =>
      f205_b129 kad N Z i2 x128_5 I89_1
    else
      (gR Z I89_1 11 12 a0).bind fun b109_6 =>
      (gI Z I89_1 11 14 a0).bind fun x113_7 =>
      (lI Z I89_1 100 b109_6 x113_7).bind fun x116_8 =>
      f205_b129 kad N Z i2 x116_8 I89_1
  else
    f205_b134 kad N Z (0 : Int32) I89_1
set_option maxRecDepth 20000 in
theorem Tf205_b89 {kad : Nat → Nat} {N : Nat} {Z : AZ} {d : Nat} {t : Option Nat × (Nat × Nat)} (hd : 1 ≤ d) : ∀ (a0 : Nat) (i1 : Int32) (i2 : Int32) (s0 : Int32) (s1 : Nat) (I : AI) (r : Int32 × AI), f205_b89 kad N Z a0 i1 i2 s0 s1 I = some r → aGo kad d 205 (89, ([(0, .ref a0), (1, .int i1), (2, .int i2)], [.int s0, .ref s1])) (aMem Z I, t) (qI Z t r) := by
  intro a0 i1 i2 s0 s1 I r h
  unfold f205_b89 at h
  obtain ⟨I89_1, hxI89_1, h⟩ := Option.bind_eq_some_iff.mp h
  refine gg_pI aMi205 rfl rfl rfl rfl (by decide) hxI89_1 ?_
  refine go_ops aMi205 1 _ (f1 := (93, ([(0, .ref a0), (1, .int i1), (2, .int i2)], [.ref a0]))) rfl ?_
  obtain ⟨x93_2, hxx93_2, h⟩ := Option.bind_eq_some_iff.mp h
  refine gg_gI aMi205 rfl rfl rfl hxx93_2 ?_
  refine gg_br (b := decide (¬ x93_2 = 0)) (tg := 103) (off := 7) aMi205 rfl rfl rfl rfl (fun hb => ?_) (fun hb => ?_)
  · rw [if_pos (of_decide_eq_true hb)] at h
    refine go_ops aMi205 2 _ (f1 := (105, ([(0, .ref a0), (1, .int i1), (2, .int i2)], [.int (2 : Int32), .int i1]))) rfl ?_
    refine gg_br (b := decide (¬ i1 = (2 : Int32))) (tg := 120) (off := 15) aMi205 rfl rfl rfl rfl (fun hb => ?_) (fun hb => ?_)
    · rw [if_pos (of_decide_eq_true hb)] at h
      refine go_ops aMi205 1 _ (f1 := (121, ([(0, .ref a0), (1, .int i1), (2, .int i2)], [.ref a0]))) rfl ?_
      obtain ⟨b121_3, hxb121_3, h⟩ := Option.bind_eq_some_iff.mp h
      refine gg_gR aMi205 rfl rfl rfl hxb121_3 ?_
      refine go_ops aMi205 1 _ (f1 := (125, ([(0, .ref a0), (1, .int i1), (2, .int i2)], [.ref a0, .ref b121_3]))) rfl ?_
      obtain ⟨x125_4, hxx125_4, h⟩ := Option.bind_eq_some_iff.mp h
      refine gg_gI aMi205 rfl rfl rfl hxx125_4 ?_
      obtain ⟨x128_5, hxx128_5, h⟩ := Option.bind_eq_some_iff.mp h
      refine gg_lI (Or.inl ⟨rfl, rfl⟩) aMi205 rfl hxx128_5 ?_
      refine go_le (lv1 := [(2, .int i2)]) (aLe_of (show (List.map (fun q => q.1) ([(2, .int i2)] : ALv)).Nodup from (by show ([2] : List Nat).Nodup; decide)) (aSubL_cons rfl aSubL_nil)) ?_
      exact Tf205_b129 hd i2 x128_5 I89_1 _ h
    · rw [if_neg (of_decide_eq_false hb)] at h
      refine go_ops aMi205 1 _ (f1 := (109, ([(0, .ref a0), (1, .int i1), (2, .int i2)], [.ref a0]))) rfl ?_
      obtain ⟨b109_6, hxb109_6, h⟩ := Option.bind_eq_some_iff.mp h
      refine gg_gR aMi205 rfl rfl rfl hxb109_6 ?_
      refine go_ops aMi205 1 _ (f1 := (113, ([(0, .ref a0), (1, .int i1), (2, .int i2)], [.ref a0, .ref b109_6]))) rfl ?_
      obtain ⟨x113_7, hxx113_7, h⟩ := Option.bind_eq_some_iff.mp h
      refine gg_gI aMi205 rfl rfl rfl hxx113_7 ?_
      obtain ⟨x116_8, hxx116_8, h⟩ := Option.bind_eq_some_iff.mp h
      refine gg_lI (Or.inl ⟨rfl, rfl⟩) aMi205 rfl hxx116_8 ?_
      refine go_ops aMi205 1 _ (f1 := (129, ([(0, .ref a0), (1, .int i1), (2, .int i2)], [.int x116_8]))) rfl ?_
      refine go_le (lv1 := [(2, .int i2)]) (aLe_of (show (List.map (fun q => q.1) ([(2, .int i2)] : ALv)).Nodup from (by show ([2] : List Nat).Nodup; decide)) (aSubL_cons rfl aSubL_nil)) ?_
      exact Tf205_b129 hd i2 x116_8 I89_1 _ h
  · rw [if_neg (of_decide_eq_false hb)] at h
    refine go_ops aMi205 2 _ (f1 := (134, ([(0, .ref a0), (1, .int i1), (2, .int i2)], [.int (0 : Int32)]))) rfl ?_
    refine go_le (lv1 := []) (aLe_of (show (List.map (fun q => q.1) ([] : ALv)).Nodup from (by show ([] : List Nat).Nodup; decide)) aSubL_nil) ?_
    exact Tf205_b134 hd (0 : Int32) I89_1 _ h
def f205 (kad : Nat → Nat) (N : Nat) (Z : AZ) (a0 : Nat) (i1 : Int32) (i2 : Int32) (I : AI) : Option (Int32 × AI) :=
  (pI Z I 11 19 a0 (0 : Int32)).bind fun I2_1 =>
  if ¬ i1 = (1 : Int32) then
    if (2 : Int32) ≤ i1 then
      (gI Z I2_1 11 14 a0).bind fun x77_2 =>
      if ¬ x77_2 = 0 then
        f205_b89 kad N Z a0 i1 i2 (0 : Int32) a0 I2_1
      else
        f205_b89 kad N Z a0 i1 i2 (7 : Int32) a0 I2_1
    else
      some (i2, I2_1)
  else
    (gR Z I2_1 11 4 a0).bind fun b11_3 =>
    (isK Z a0 11).bind fun u16_4 =>
    (f200 kad N Z a0 i2 I2_1).bind fun r16_5 =>
    (lI Z r16_5.2 100 b11_3 r16_5.1).bind fun x19_6 =>
    if ¬ x19_6 = (Int32.ofInt (-1)) then
      f205_b33 kad N Z a0 x19_6 (0 : Int32) a0 r16_5.2
    else
      f205_b33 kad N Z a0 x19_6 (6 : Int32) a0 r16_5.2
set_option maxRecDepth 20000 in
theorem Tf205 {kad : Nat → Nat} {N : Nat} {Z : AZ} {d : Nat} {t : Option Nat × (Nat × Nat)} (hd : 1 ≤ d) : ∀ (a0 : Nat) (i1 : Int32) (i2 : Int32) (I : AI) (r : Int32 × AI), f205 kad N Z a0 i1 i2 I = some r → aGo kad d 205 (0, ([(0, .ref a0), (1, .int i1), (2, .int i2)], [])) (aMem Z I, t) (qI Z t r) := by
  intro a0 i1 i2 I r h
  unfold f205 at h
  refine go_ops aMi205 2 _ (f1 := (2, ([(0, .ref a0), (1, .int i1), (2, .int i2)], [.int (0 : Int32), .ref a0]))) rfl ?_
  obtain ⟨I2_1, hxI2_1, h⟩ := Option.bind_eq_some_iff.mp h
  refine gg_pI aMi205 rfl rfl rfl rfl (by decide) hxI2_1 ?_
  refine go_ops aMi205 2 _ (f1 := (7, ([(0, .ref a0), (1, .int i1), (2, .int i2)], [.int (1 : Int32), .int i1]))) rfl ?_
  refine gg_br (b := decide (¬ i1 = (1 : Int32))) (tg := 68) (off := 61) aMi205 rfl rfl rfl rfl (fun hb => ?_) (fun hb => ?_)
  · rw [if_pos (of_decide_eq_true hb)] at h
    refine go_ops aMi205 2 _ (f1 := (70, ([(0, .ref a0), (1, .int i1), (2, .int i2)], [.int (2 : Int32), .int i1]))) rfl ?_
    refine gg_br (b := decide ((2 : Int32) ≤ i1)) (tg := 75) (off := 5) aMi205 rfl rfl rfl rfl (fun hb => ?_) (fun hb => ?_)
    · rw [if_pos (of_decide_eq_true hb)] at h
      refine go_ops aMi205 2 _ (f1 := (77, ([(0, .ref a0), (1, .int i1), (2, .int i2)], [.ref a0, .ref a0]))) rfl ?_
      obtain ⟨x77_2, hxx77_2, h⟩ := Option.bind_eq_some_iff.mp h
      refine gg_gI aMi205 rfl rfl rfl hxx77_2 ?_
      refine gg_br (b := decide (¬ x77_2 = 0)) (tg := 88) (off := 8) aMi205 rfl rfl rfl rfl (fun hb => ?_) (fun hb => ?_)
      · rw [if_pos (of_decide_eq_true hb)] at h
        refine go_ops aMi205 1 _ (f1 := (89, ([(0, .ref a0), (1, .int i1), (2, .int i2)], [.int (0 : Int32), .ref a0]))) rfl ?_
        exact Tf205_b89 hd a0 i1 i2 (0 : Int32) a0 I2_1 _ h
      · rw [if_neg (of_decide_eq_false hb)] at h
        refine go_ops aMi205 2 _ (f1 := (89, ([(0, .ref a0), (1, .int i1), (2, .int i2)], [.int (7 : Int32), .ref a0]))) rfl ?_
        exact Tf205_b89 hd a0 i1 i2 (7 : Int32) a0 I2_1 _ h
    · rw [if_neg (of_decide_eq_false hb)] at h
      refine go_ops aMi205 1 _ (f1 := (74, ([(0, .ref a0), (1, .int i1), (2, .int i2)], [.int i2]))) rfl ?_
      cases h
      exact go_ret aMi205 rfl aRetI ⟨rfl, rfl⟩
  · rw [if_neg (of_decide_eq_false hb)] at h
    refine go_ops aMi205 1 _ (f1 := (11, ([(0, .ref a0), (1, .int i1), (2, .int i2)], [.ref a0]))) rfl ?_
    obtain ⟨b11_3, hxb11_3, h⟩ := Option.bind_eq_some_iff.mp h
    refine gg_gR aMi205 rfl rfl rfl hxb11_3 ?_
    refine go_ops aMi205 2 _ (f1 := (16, ([(0, .ref a0), (1, .int i1), (2, .int i2)], [.int i2, .ref a0, .ref b11_3]))) rfl ?_
    obtain ⟨u16_4, hxu16_4, h⟩ := Option.bind_eq_some_iff.mp h
    obtain ⟨r16_5, hxr16_5, h⟩ := Option.bind_eq_some_iff.mp h
    refine gg_cv (as := [.int i2]) (r := [.ref b11_3]) aMi205 rfl rfl rfl aMi200 (Nat.le_of_ble_eq_true rfl) rfl (Nat.le_of_ble_eq_true rfl) (Nat.le_of_ble_eq_true rfl) (by omega) hxu16_4 (Tf200 (by omega) a0 i2 I2_1 _ hxr16_5) ?_
    show aGo kad d 205 (19, ([(0, .ref a0), (1, .int i1), (2, .int i2)], [.int r16_5.1, .ref b11_3])) (aMem Z r16_5.2, t) _
    obtain ⟨x19_6, hxx19_6, h⟩ := Option.bind_eq_some_iff.mp h
    refine gg_lI (Or.inl ⟨rfl, rfl⟩) aMi205 rfl hxx19_6 ?_
    refine go_ops aMi205 4 _ (f1 := (24, ([(3, .int x19_6), (0, .ref a0), (1, .int i1), (2, .int i2)], [.int (Int32.ofInt (-1)), .int x19_6, .ref a0]))) rfl ?_
    refine gg_br (b := decide (¬ x19_6 = (Int32.ofInt (-1)))) (tg := 32) (off := 8) aMi205 rfl rfl rfl rfl (fun hb => ?_) (fun hb => ?_)
    · rw [if_pos (of_decide_eq_true hb)] at h
      refine go_ops aMi205 1 _ (f1 := (33, ([(3, .int x19_6), (0, .ref a0), (1, .int i1), (2, .int i2)], [.int (0 : Int32), .ref a0]))) rfl ?_
      refine go_le (lv1 := [(0, .ref a0), (3, .int x19_6)]) (aLe_of (show (List.map (fun q => q.1) ([(0, .ref a0), (3, .int x19_6)] : ALv)).Nodup from (by show ([0, 3] : List Nat).Nodup; decide)) (aSubL_cons rfl (aSubL_cons rfl aSubL_nil))) ?_
      exact Tf205_b33 hd a0 x19_6 (0 : Int32) a0 r16_5.2 _ h
    · rw [if_neg (of_decide_eq_false hb)] at h
      refine go_ops aMi205 2 _ (f1 := (33, ([(3, .int x19_6), (0, .ref a0), (1, .int i1), (2, .int i2)], [.int (6 : Int32), .ref a0]))) rfl ?_
      refine go_le (lv1 := [(0, .ref a0), (3, .int x19_6)]) (aLe_of (show (List.map (fun q => q.1) ([(0, .ref a0), (3, .int x19_6)] : ALv)).Nodup from (by show ([0, 3] : List Nat).Nodup; decide)) (aSubL_cons rfl (aSubL_cons rfl aSubL_nil))) ?_
      exact Tf205_b33 hd a0 x19_6 (6 : Int32) a0 r16_5.2 _ h
-- KernelGymModel.usesMacro (IZ)I
def f206_b38 (kad : Nat → Nat) (N : Nat) (Z : AZ) (i1 : Int32) (I : AI) : Option (Int32 × AI) :=
  some (((500 : Int32) + i1), I)
set_option maxRecDepth 20000 in
theorem Tf206_b38 {kad : Nat → Nat} {N : Nat} {Z : AZ} {d : Nat} {t : Option Nat × (Nat × Nat)} (hd : 2 ≤ d) : ∀ (i1 : Int32) (I : AI) (r : Int32 × AI), f206_b38 kad N Z i1 I = some r → aGo kad d 206 (38, ([(1, .int i1)], [])) (aMem Z I, t) (qI Z t r) := by
  intro i1 I r h
  unfold f206_b38 at h
  refine go_ops aMi206 3 _ (f1 := (43, ([(1, .int i1)], [.int ((500 : Int32) + i1)]))) rfl ?_
  cases h
  exact go_ret aMi206 rfl aRetI ⟨rfl, rfl⟩
def f206_b250 (kad : Nat → Nat) (N : Nat) (Z : AZ) (s0 : Int32) (I : AI) : Option (Int32 × AI) :=
  some (s0, I)
set_option maxRecDepth 20000 in
theorem Tf206_b250 {kad : Nat → Nat} {N : Nat} {Z : AZ} {d : Nat} {t : Option Nat × (Nat × Nat)} (hd : 2 ≤ d) : ∀ (s0 : Int32) (I : AI) (r : Int32 × AI), f206_b250 kad N Z s0 I = some r → aGo kad d 206 (250, ([], [.int s0])) (aMem Z I, t) (qI Z t r) := by
  intro s0 I r h
  unfold f206_b250 at h
  cases h
  exact go_ret aMi206 rfl aRetI ⟨rfl, rfl⟩
def f206_b134 (kad : Nat → Nat) (N : Nat) (Z : AZ) (a0 : Nat) (i1 : Int32) (i4 : Int32) (i5 : Int32) (i7 : Int32) (s0 : Int32) (I : AI) : Option (Int32 × AI) :=
  (gI Z I 11 14 a0).bind fun x138_1 =>
  (pI Z I 11 14 a0 (x138_1 + (1 : Int32))).bind fun I143_2 =>
  (gR Z I143_2 11 8 a0).bind fun b147_3 =>
  (gI Z I143_2 11 14 a0).bind fun x151_4 =>
  (gR Z I143_2 11 6 a0).bind fun b155_5 =>
  (lI Z I143_2 100 b155_5 i4).bind fun x160_6 =>
  (sI Z I143_2 100 b147_3 x151_4 x160_6).bind fun I161_7 =>
  (gR Z I161_7 11 9 a0).bind fun b163_8 =>
  (gI Z I161_7 11 14 a0).bind fun x167_9 =>
  (gR Z I161_7 11 7 a0).bind fun b171_10 =>
  (lI Z I161_7 100 b171_10 i4).bind fun x176_11 =>
  (sI Z I161_7 100 b163_8 x167_9 x176_11).bind fun I177_12 =>
  (gR Z I177_12 11 10 a0).bind fun b179_13 =>
  (gI Z I177_12 11 14 a0).bind fun x183_14 =>
  (gI Z I177_12 11 17 a0).bind fun x187_15 =>
  (sI Z I177_12 100 b179_13 x183_14 x187_15).bind fun I190_16 =>
  (gR Z I190_16 11 11 a0).bind fun b192_17 =>
  (gI Z I190_16 11 14 a0).bind fun x196_18 =>
  (sI Z I190_16 100 b192_17 x196_18 i4).bind fun I201_19 =>
  (gR Z I201_19 11 12 a0).bind fun b203_20 =>
  (gI Z I201_19 11 14 a0).bind fun x207_21 =>
  (sI Z I201_19 100 b203_20 x207_21 i5).bind fun I212_22 =>
  (gR Z I212_22 11 13 a0).bind fun b214_23 =>
  (gI Z I212_22 11 14 a0).bind fun x218_24 =>
  (sI Z I212_22 100 b214_23 x218_24 i7).bind fun I223_25 =>
  (gI Z I223_25 11 17 a0).bind fun x226_26 =>
  (pI Z I223_25 11 17 a0 (x226_26 + (1 : Int32))).bind fun I231_27 =>
  if ¬ s0 = 0 then
    f206_b250 kad N Z (((100 : Int32) * s0) + i1) I231_27
  else
    f206_b250 kad N Z (0 : Int32) I231_27
set_option maxRecDepth 20000 in
theorem Tf206_b134 {kad : Nat → Nat} {N : Nat} {Z : AZ} {d : Nat} {t : Option Nat × (Nat × Nat)} (hd : 2 ≤ d) : ∀ (a0 : Nat) (i1 : Int32) (i4 : Int32) (i5 : Int32) (i7 : Int32) (s0 : Int32) (I : AI) (r : Int32 × AI), f206_b134 kad N Z a0 i1 i4 i5 i7 s0 I = some r → aGo kad d 206 (134, ([(0, .ref a0), (1, .int i1), (4, .int i4), (5, .int i5), (7, .int i7)], [.int s0])) (aMem Z I, t) (qI Z t r) := by
  intro a0 i1 i4 i5 i7 s0 I r h
  unfold f206_b134 at h
  refine go_ops aMi206 3 _ (f1 := (138, ([(6, .int s0), (0, .ref a0), (1, .int i1), (4, .int i4), (5, .int i5), (7, .int i7)], [.ref a0, .ref a0]))) rfl ?_
  obtain ⟨x138_1, hxx138_1, h⟩ := Option.bind_eq_some_iff.mp h
  refine gg_gI aMi206 rfl rfl rfl hxx138_1 ?_
  refine go_ops aMi206 2 _ (f1 := (143, ([(6, .int s0), (0, .ref a0), (1, .int i1), (4, .int i4), (5, .int i5), (7, .int i7)], [.int (x138_1 + (1 : Int32)), .ref a0]))) rfl ?_
  obtain ⟨I143_2, hxI143_2, h⟩ := Option.bind_eq_some_iff.mp h
  refine gg_pI aMi206 rfl rfl rfl rfl (by decide) hxI143_2 ?_
  refine go_ops aMi206 1 _ (f1 := (147, ([(6, .int s0), (0, .ref a0), (1, .int i1), (4, .int i4), (5, .int i5), (7, .int i7)], [.ref a0]))) rfl ?_
  obtain ⟨b147_3, hxb147_3, h⟩ := Option.bind_eq_some_iff.mp h
  refine gg_gR aMi206 rfl rfl rfl hxb147_3 ?_
  refine go_ops aMi206 1 _ (f1 := (151, ([(6, .int s0), (0, .ref a0), (1, .int i1), (4, .int i4), (5, .int i5), (7, .int i7)], [.ref a0, .ref b147_3]))) rfl ?_
  obtain ⟨x151_4, hxx151_4, h⟩ := Option.bind_eq_some_iff.mp h
  refine gg_gI aMi206 rfl rfl rfl hxx151_4 ?_
  refine go_ops aMi206 1 _ (f1 := (155, ([(6, .int s0), (0, .ref a0), (1, .int i1), (4, .int i4), (5, .int i5), (7, .int i7)], [.ref a0, .int x151_4, .ref b147_3]))) rfl ?_
  obtain ⟨b155_5, hxb155_5, h⟩ := Option.bind_eq_some_iff.mp h
  refine gg_gR aMi206 rfl rfl rfl hxb155_5 ?_
  refine go_ops aMi206 1 _ (f1 := (160, ([(6, .int s0), (0, .ref a0), (1, .int i1), (4, .int i4), (5, .int i5), (7, .int i7)], [.int i4, .ref b155_5, .int x151_4, .ref b147_3]))) rfl ?_
  obtain ⟨x160_6, hxx160_6, h⟩ := Option.bind_eq_some_iff.mp h
  refine gg_lI (Or.inl ⟨rfl, rfl⟩) aMi206 rfl hxx160_6 ?_
  obtain ⟨I161_7, hxI161_7, h⟩ := Option.bind_eq_some_iff.mp h
  refine gg_sI (Or.inl ⟨rfl, rfl⟩) aMi206 rfl hxI161_7 ?_
  refine go_ops aMi206 1 _ (f1 := (163, ([(6, .int s0), (0, .ref a0), (1, .int i1), (4, .int i4), (5, .int i5), (7, .int i7)], [.ref a0]))) rfl ?_
  obtain ⟨b163_8, hxb163_8, h⟩ := Option.bind_eq_some_iff.mp h
  refine gg_gR aMi206 rfl rfl rfl hxb163_8 ?_
  refine go_ops aMi206 1 _ (f1 := (167, ([(6, .int s0), (0, .ref a0), (1, .int i1), (4, .int i4), (5, .int i5), (7, .int i7)], [.ref a0, .ref b163_8]))) rfl ?_
  obtain ⟨x167_9, hxx167_9, h⟩ := Option.bind_eq_some_iff.mp h
  refine gg_gI aMi206 rfl rfl rfl hxx167_9 ?_
  refine go_ops aMi206 1 _ (f1 := (171, ([(6, .int s0), (0, .ref a0), (1, .int i1), (4, .int i4), (5, .int i5), (7, .int i7)], [.ref a0, .int x167_9, .ref b163_8]))) rfl ?_
  obtain ⟨b171_10, hxb171_10, h⟩ := Option.bind_eq_some_iff.mp h
  refine gg_gR aMi206 rfl rfl rfl hxb171_10 ?_
  refine go_ops aMi206 1 _ (f1 := (176, ([(6, .int s0), (0, .ref a0), (1, .int i1), (4, .int i4), (5, .int i5), (7, .int i7)], [.int i4, .ref b171_10, .int x167_9, .ref b163_8]))) rfl ?_
  obtain ⟨x176_11, hxx176_11, h⟩ := Option.bind_eq_some_iff.mp h
  refine gg_lI (Or.inl ⟨rfl, rfl⟩) aMi206 rfl hxx176_11 ?_
  obtain ⟨I177_12, hxI177_12, h⟩ := Option.bind_eq_some_iff.mp h
  refine gg_sI (Or.inl ⟨rfl, rfl⟩) aMi206 rfl hxI177_12 ?_
  refine go_ops aMi206 1 _ (f1 := (179, ([(6, .int s0), (0, .ref a0), (1, .int i1), (4, .int i4), (5, .int i5), (7, .int i7)], [.ref a0]))) rfl ?_
  obtain ⟨b179_13, hxb179_13, h⟩ := Option.bind_eq_some_iff.mp h
  refine gg_gR aMi206 rfl rfl rfl hxb179_13 ?_
  refine go_ops aMi206 1 _ (f1 := (183, ([(6, .int s0), (0, .ref a0), (1, .int i1), (4, .int i4), (5, .int i5), (7, .int i7)], [.ref a0, .ref b179_13]))) rfl ?_
  obtain ⟨x183_14, hxx183_14, h⟩ := Option.bind_eq_some_iff.mp h
  refine gg_gI aMi206 rfl rfl rfl hxx183_14 ?_
  refine go_ops aMi206 1 _ (f1 := (187, ([(6, .int s0), (0, .ref a0), (1, .int i1), (4, .int i4), (5, .int i5), (7, .int i7)], [.ref a0, .int x183_14, .ref b179_13]))) rfl ?_
  obtain ⟨x187_15, hxx187_15, h⟩ := Option.bind_eq_some_iff.mp h
  refine gg_gI aMi206 rfl rfl rfl hxx187_15 ?_
  obtain ⟨I190_16, hxI190_16, h⟩ := Option.bind_eq_some_iff.mp h
  refine gg_sI (Or.inl ⟨rfl, rfl⟩) aMi206 rfl hxI190_16 ?_
  refine go_ops aMi206 1 _ (f1 := (192, ([(6, .int s0), (0, .ref a0), (1, .int i1), (4, .int i4), (5, .int i5), (7, .int i7)], [.ref a0]))) rfl ?_
  obtain ⟨b192_17, hxb192_17, h⟩ := Option.bind_eq_some_iff.mp h
  refine gg_gR aMi206 rfl rfl rfl hxb192_17 ?_
  refine go_ops aMi206 1 _ (f1 := (196, ([(6, .int s0), (0, .ref a0), (1, .int i1), (4, .int i4), (5, .int i5), (7, .int i7)], [.ref a0, .ref b192_17]))) rfl ?_
  obtain ⟨x196_18, hxx196_18, h⟩ := Option.bind_eq_some_iff.mp h
  refine gg_gI aMi206 rfl rfl rfl hxx196_18 ?_
  refine go_ops aMi206 1 _ (f1 := (201, ([(6, .int s0), (0, .ref a0), (1, .int i1), (4, .int i4), (5, .int i5), (7, .int i7)], [.int i4, .int x196_18, .ref b192_17]))) rfl ?_
  obtain ⟨I201_19, hxI201_19, h⟩ := Option.bind_eq_some_iff.mp h
  refine gg_sI (Or.inl ⟨rfl, rfl⟩) aMi206 rfl hxI201_19 ?_
  refine go_ops aMi206 1 _ (f1 := (203, ([(6, .int s0), (0, .ref a0), (1, .int i1), (4, .int i4), (5, .int i5), (7, .int i7)], [.ref a0]))) rfl ?_
  obtain ⟨b203_20, hxb203_20, h⟩ := Option.bind_eq_some_iff.mp h
  refine gg_gR aMi206 rfl rfl rfl hxb203_20 ?_
  refine go_ops aMi206 1 _ (f1 := (207, ([(6, .int s0), (0, .ref a0), (1, .int i1), (4, .int i4), (5, .int i5), (7, .int i7)], [.ref a0, .ref b203_20]))) rfl ?_
  obtain ⟨x207_21, hxx207_21, h⟩ := Option.bind_eq_some_iff.mp h
  refine gg_gI aMi206 rfl rfl rfl hxx207_21 ?_
  refine go_ops aMi206 1 _ (f1 := (212, ([(6, .int s0), (0, .ref a0), (1, .int i1), (4, .int i4), (5, .int i5), (7, .int i7)], [.int i5, .int x207_21, .ref b203_20]))) rfl ?_
  obtain ⟨I212_22, hxI212_22, h⟩ := Option.bind_eq_some_iff.mp h
  refine gg_sI (Or.inl ⟨rfl, rfl⟩) aMi206 rfl hxI212_22 ?_
  refine go_ops aMi206 1 _ (f1 := (214, ([(6, .int s0), (0, .ref a0), (1, .int i1), (4, .int i4), (5, .int i5), (7, .int i7)], [.ref a0]))) rfl ?_
  obtain ⟨b214_23, hxb214_23, h⟩ := Option.bind_eq_some_iff.mp h
  refine gg_gR aMi206 rfl rfl rfl hxb214_23 ?_
  refine go_ops aMi206 1 _ (f1 := (218, ([(6, .int s0), (0, .ref a0), (1, .int i1), (4, .int i4), (5, .int i5), (7, .int i7)], [.ref a0, .ref b214_23]))) rfl ?_
  obtain ⟨x218_24, hxx218_24, h⟩ := Option.bind_eq_some_iff.mp h
  refine gg_gI aMi206 rfl rfl rfl hxx218_24 ?_
  refine go_ops aMi206 1 _ (f1 := (223, ([(6, .int s0), (0, .ref a0), (1, .int i1), (4, .int i4), (5, .int i5), (7, .int i7)], [.int i7, .int x218_24, .ref b214_23]))) rfl ?_
  obtain ⟨I223_25, hxI223_25, h⟩ := Option.bind_eq_some_iff.mp h
  refine gg_sI (Or.inl ⟨rfl, rfl⟩) aMi206 rfl hxI223_25 ?_
  refine go_ops aMi206 2 _ (f1 := (226, ([(6, .int s0), (0, .ref a0), (1, .int i1), (4, .int i4), (5, .int i5), (7, .int i7)], [.ref a0, .ref a0]))) rfl ?_
  obtain ⟨x226_26, hxx226_26, h⟩ := Option.bind_eq_some_iff.mp h
  refine gg_gI aMi206 rfl rfl rfl hxx226_26 ?_
  refine go_ops aMi206 2 _ (f1 := (231, ([(6, .int s0), (0, .ref a0), (1, .int i1), (4, .int i4), (5, .int i5), (7, .int i7)], [.int (x226_26 + (1 : Int32)), .ref a0]))) rfl ?_
  obtain ⟨I231_27, hxI231_27, h⟩ := Option.bind_eq_some_iff.mp h
  refine gg_pI aMi206 rfl rfl rfl rfl (by decide) hxI231_27 ?_
  refine go_ops aMi206 1 _ (f1 := (236, ([(6, .int s0), (0, .ref a0), (1, .int i1), (4, .int i4), (5, .int i5), (7, .int i7)], [.int s0]))) rfl ?_
  refine gg_br (b := decide (¬ s0 = 0)) (tg := 243) (off := 7) aMi206 rfl rfl rfl rfl (fun hb => ?_) (fun hb => ?_)
  · rw [if_pos (of_decide_eq_true hb)] at h
    refine go_ops aMi206 5 _ (f1 := (250, ([(6, .int s0), (0, .ref a0), (1, .int i1), (4, .int i4), (5, .int i5), (7, .int i7)], [.int (((100 : Int32) * s0) + i1)]))) rfl ?_
    refine go_le (lv1 := []) (aLe_of (show (List.map (fun q => q.1) ([] : ALv)).Nodup from (by show ([] : List Nat).Nodup; decide)) aSubL_nil) ?_
    exact Tf206_b250 hd (((100 : Int32) * s0) + i1) I231_27 _ h
  · rw [if_neg (of_decide_eq_false hb)] at h
    refine go_ops aMi206 2 _ (f1 := (250, ([(6, .int s0), (0, .ref a0), (1, .int i1), (4, .int i4), (5, .int i5), (7, .int i7)], [.int (0 : Int32)]))) rfl ?_
    refine go_le (lv1 := []) (aLe_of (show (List.map (fun q => q.1) ([] : ALv)).Nodup from (by show ([] : List Nat).Nodup; decide)) aSubL_nil) ?_
    exact Tf206_b250 hd (0 : Int32) I231_27 _ h
def f206_b132 (kad : Nat → Nat) (N : Nat) (Z : AZ) (a0 : Nat) (i1 : Int32) (i4 : Int32) (i5 : Int32) (i6 : Int32) (i7 : Int32) (I : AI) : Option (Int32 × AI) :=
  f206_b134 kad N Z a0 i1 i4 i5 i7 i6 I
set_option maxRecDepth 20000 in
theorem Tf206_b132 {kad : Nat → Nat} {N : Nat} {Z : AZ} {d : Nat} {t : Option Nat × (Nat × Nat)} (hd : 2 ≤ d) : ∀ (a0 : Nat) (i1 : Int32) (i4 : Int32) (i5 : Int32) (i6 : Int32) (i7 : Int32) (I : AI) (r : Int32 × AI), f206_b132 kad N Z a0 i1 i4 i5 i6 i7 I = some r → aGo kad d 206 (132, ([(0, .ref a0), (1, .int i1), (4, .int i4), (5, .int i5), (6, .int i6), (7, .int i7)], [])) (aMem Z I, t) (qI Z t r) := by
  intro a0 i1 i4 i5 i6 i7 I r h
  unfold f206_b132 at h
  refine go_ops aMi206 1 _ (f1 := (134, ([(0, .ref a0), (1, .int i1), (4, .int i4), (5, .int i5), (6, .int i6), (7, .int i7)], [.int i6]))) rfl ?_
  refine go_le (lv1 := [(0, .ref a0), (1, .int i1), (4, .int i4), (5, .int i5), (7, .int i7)]) (aLe_of (show (List.map (fun q => q.1) ([(0, .ref a0), (1, .int i1), (4, .int i4), (5, .int i5), (7, .int i7)] : ALv)).Nodup from (by show ([0, 1, 4, 5, 7] : List Nat).Nodup; decide)) (aSubL_cons rfl (aSubL_cons rfl (aSubL_cons rfl (aSubL_cons rfl (aSubL_cons rfl aSubL_nil)))))) ?_
  exact Tf206_b134 hd a0 i1 i4 i5 i7 i6 I _ h
def f206_b114 (kad : Nat → Nat) (N : Nat) (Z : AZ) (a0 : Nat) (i1 : Int32) (i2 : Int32) (i4 : Int32) (i5 : Int32) (i6 : Int32) (s0 : Int32) (I : AI) : Option (Int32 × AI) :=
  if i2 = 0 then
    f206_b132 kad N Z a0 i1 i4 i5 i6 s0 I
  else
    if ¬ i6 = 0 then
      f206_b132 kad N Z a0 i1 i4 i5 i6 s0 I
    else
      (gI Z I 11 19 a0).bind fun x126_1 =>
      f206_b134 kad N Z a0 i1 i4 i5 s0 x126_1 I
set_option maxRecDepth 20000 in
theorem Tf206_b114 {kad : Nat → Nat} {N : Nat} {Z : AZ} {d : Nat} {t : Option Nat × (Nat × Nat)} (hd : 2 ≤ d) : ∀ (a0 : Nat) (i1 : Int32) (i2 : Int32) (i4 : Int32) (i5 : Int32) (i6 : Int32) (s0 : Int32) (I : AI) (r : Int32 × AI), f206_b114 kad N Z a0 i1 i2 i4 i5 i6 s0 I = some r → aGo kad d 206 (114, ([(0, .ref a0), (1, .int i1), (2, .int i2), (4, .int i4), (5, .int i5), (6, .int i6)], [.int s0])) (aMem Z I, t) (qI Z t r) := by
  intro a0 i1 i2 i4 i5 i6 s0 I r h
  unfold f206_b114 at h
  refine go_ops aMi206 2 _ (f1 := (117, ([(7, .int s0), (0, .ref a0), (1, .int i1), (2, .int i2), (4, .int i4), (5, .int i5), (6, .int i6)], [.int i2]))) rfl ?_
  refine gg_br (b := decide (i2 = 0)) (tg := 132) (off := 15) aMi206 rfl rfl rfl rfl (fun hb => ?_) (fun hb => ?_)
  · rw [if_pos (of_decide_eq_true hb)] at h
    refine go_le (lv1 := [(0, .ref a0), (1, .int i1), (4, .int i4), (5, .int i5), (6, .int i6), (7, .int s0)]) (aLe_of (show (List.map (fun q => q.1) ([(0, .ref a0), (1, .int i1), (4, .int i4), (5, .int i5), (6, .int i6), (7, .int s0)] : ALv)).Nodup from (by show ([0, 1, 4, 5, 6, 7] : List Nat).Nodup; decide)) (aSubL_cons rfl (aSubL_cons rfl (aSubL_cons rfl (aSubL_cons rfl (aSubL_cons rfl (aSubL_cons rfl aSubL_nil))))))) ?_
    exact Tf206_b132 hd a0 i1 i4 i5 i6 s0 I _ h
  · rw [if_neg (of_decide_eq_false hb)] at h
    refine go_ops aMi206 1 _ (f1 := (122, ([(7, .int s0), (0, .ref a0), (1, .int i1), (2, .int i2), (4, .int i4), (5, .int i5), (6, .int i6)], [.int i6]))) rfl ?_
    refine gg_br (b := decide (¬ i6 = 0)) (tg := 132) (off := 10) aMi206 rfl rfl rfl rfl (fun hb => ?_) (fun hb => ?_)
    · rw [if_pos (of_decide_eq_true hb)] at h
      refine go_le (lv1 := [(0, .ref a0), (1, .int i1), (4, .int i4), (5, .int i5), (6, .int i6), (7, .int s0)]) (aLe_of (show (List.map (fun q => q.1) ([(0, .ref a0), (1, .int i1), (4, .int i4), (5, .int i5), (6, .int i6), (7, .int s0)] : ALv)).Nodup from (by show ([0, 1, 4, 5, 6, 7] : List Nat).Nodup; decide)) (aSubL_cons rfl (aSubL_cons rfl (aSubL_cons rfl (aSubL_cons rfl (aSubL_cons rfl (aSubL_cons rfl aSubL_nil))))))) ?_
      exact Tf206_b132 hd a0 i1 i4 i5 i6 s0 I _ h
    · rw [if_neg (of_decide_eq_false hb)] at h
      refine go_ops aMi206 1 _ (f1 := (126, ([(7, .int s0), (0, .ref a0), (1, .int i1), (2, .int i2), (4, .int i4), (5, .int i5), (6, .int i6)], [.ref a0]))) rfl ?_
      obtain ⟨x126_1, hxx126_1, h⟩ := Option.bind_eq_some_iff.mp h
      refine gg_gI aMi206 rfl rfl rfl hxx126_1 ?_
      refine go_ops aMi206 1 _ (f1 := (134, ([(7, .int s0), (0, .ref a0), (1, .int i1), (2, .int i2), (4, .int i4), (5, .int i5), (6, .int i6)], [.int x126_1]))) rfl ?_
      refine go_le (lv1 := [(0, .ref a0), (1, .int i1), (4, .int i4), (5, .int i5), (7, .int s0)]) (aLe_of (show (List.map (fun q => q.1) ([(0, .ref a0), (1, .int i1), (4, .int i4), (5, .int i5), (7, .int s0)] : ALv)).Nodup from (by show ([0, 1, 4, 5, 7] : List Nat).Nodup; decide)) (aSubL_cons rfl (aSubL_cons rfl (aSubL_cons rfl (aSubL_cons rfl (aSubL_cons rfl aSubL_nil)))))) ?_
      exact Tf206_b134 hd a0 i1 i4 i5 s0 x126_1 I _ h
def f206_b84 (kad : Nat → Nat) (N : Nat) (Z : AZ) (a0 : Nat) (i1 : Int32) (i2 : Int32) (i3 : Int32) (i4 : Int32) (i5 : Int32) (s0 : Int32) (I : AI) : Option (Int32 × AI) :=
  if i2 = 0 then
    f206_b114 kad N Z a0 i1 i2 i4 i5 s0 (0 : Int32) I
  else
    (gR Z I 11 3 a0).bind fun b92_1 =>
    (lI Z I 100 b92_1 (i3 + (2 : Int32))).bind fun x98_2 =>
    (gR Z I 11 3 a0).bind fun b100_3 =>
    (lI Z I 100 b100_3 (i3 + (3 : Int32))).bind fun x106_4 =>
    (isK Z a0 11).bind fun u107_5 =>
    (f205 kad N Z a0 x98_2 x106_4 I).bind fun r107_6 =>
    f206_b114 kad N Z a0 i1 i2 i4 i5 s0 r107_6.1 r107_6.2
set_option maxRecDepth 20000 in
theorem Tf206_b84 {kad : Nat → Nat} {N : Nat} {Z : AZ} {d : Nat} {t : Option Nat × (Nat × Nat)} (hd : 2 ≤ d) : ∀ (a0 : Nat) (i1 : Int32) (i2 : Int32) (i3 : Int32) (i4 : Int32) (i5 : Int32) (s0 : Int32) (I : AI) (r : Int32 × AI), f206_b84 kad N Z a0 i1 i2 i3 i4 i5 s0 I = some r → aGo kad d 206 (84, ([(0, .ref a0), (1, .int i1), (2, .int i2), (3, .int i3), (4, .int i4), (5, .int i5)], [.int s0])) (aMem Z I, t) (qI Z t r) := by
  intro a0 i1 i2 i3 i4 i5 s0 I r h
  unfold f206_b84 at h
  refine go_ops aMi206 2 _ (f1 := (87, ([(6, .int s0), (0, .ref a0), (1, .int i1), (2, .int i2), (3, .int i3), (4, .int i4), (5, .int i5)], [.int i2]))) rfl ?_
  refine gg_br (b := decide (i2 = 0)) (tg := 113) (off := 26) aMi206 rfl rfl rfl rfl (fun hb => ?_) (fun hb => ?_)
  · rw [if_pos (of_decide_eq_true hb)] at h
    refine go_ops aMi206 1 _ (f1 := (114, ([(6, .int s0), (0, .ref a0), (1, .int i1), (2, .int i2), (3, .int i3), (4, .int i4), (5, .int i5)], [.int (0 : Int32)]))) rfl ?_
    refine go_le (lv1 := [(0, .ref a0), (1, .int i1), (2, .int i2), (4, .int i4), (5, .int i5), (6, .int s0)]) (aLe_of (show (List.map (fun q => q.1) ([(0, .ref a0), (1, .int i1), (2, .int i2), (4, .int i4), (5, .int i5), (6, .int s0)] : ALv)).Nodup from (by show ([0, 1, 2, 4, 5, 6] : List Nat).Nodup; decide)) (aSubL_cons rfl (aSubL_cons rfl (aSubL_cons rfl (aSubL_cons rfl (aSubL_cons rfl (aSubL_cons rfl aSubL_nil))))))) ?_
    exact Tf206_b114 hd a0 i1 i2 i4 i5 s0 (0 : Int32) I _ h
  · rw [if_neg (of_decide_eq_false hb)] at h
    refine go_ops aMi206 2 _ (f1 := (92, ([(6, .int s0), (0, .ref a0), (1, .int i1), (2, .int i2), (3, .int i3), (4, .int i4), (5, .int i5)], [.ref a0, .ref a0]))) rfl ?_
    obtain ⟨b92_1, hxb92_1, h⟩ := Option.bind_eq_some_iff.mp h
    refine gg_gR aMi206 rfl rfl rfl hxb92_1 ?_
    refine go_ops aMi206 3 _ (f1 := (98, ([(6, .int s0), (0, .ref a0), (1, .int i1), (2, .int i2), (3, .int i3), (4, .int i4), (5, .int i5)], [.int (i3 + (2 : Int32)), .ref b92_1, .ref a0]))) rfl ?_
    obtain ⟨x98_2, hxx98_2, h⟩ := Option.bind_eq_some_iff.mp h
    refine gg_lI (Or.inl ⟨rfl, rfl⟩) aMi206 rfl hxx98_2 ?_
    refine go_ops aMi206 1 _ (f1 := (100, ([(6, .int s0), (0, .ref a0), (1, .int i1), (2, .int i2), (3, .int i3), (4, .int i4), (5, .int i5)], [.ref a0, .int x98_2, .ref a0]))) rfl ?_
    obtain ⟨b100_3, hxb100_3, h⟩ := Option.bind_eq_some_iff.mp h
    refine gg_gR aMi206 rfl rfl rfl hxb100_3 ?_
    refine go_ops aMi206 3 _ (f1 := (106, ([(6, .int s0), (0, .ref a0), (1, .int i1), (2, .int i2), (3, .int i3), (4, .int i4), (5, .int i5)], [.int (i3 + (3 : Int32)), .ref b100_3, .int x98_2, .ref a0]))) rfl ?_
    obtain ⟨x106_4, hxx106_4, h⟩ := Option.bind_eq_some_iff.mp h
    refine gg_lI (Or.inl ⟨rfl, rfl⟩) aMi206 rfl hxx106_4 ?_
    obtain ⟨u107_5, hxu107_5, h⟩ := Option.bind_eq_some_iff.mp h
    obtain ⟨r107_6, hxr107_6, h⟩ := Option.bind_eq_some_iff.mp h
    refine gg_cv (as := [.int x98_2, .int x106_4]) (r := []) aMi206 rfl rfl rfl aMi205 (Nat.le_of_ble_eq_true rfl) rfl (Nat.le_of_ble_eq_true rfl) (Nat.le_of_ble_eq_true rfl) (by omega) hxu107_5 (Tf205 (by omega) a0 x98_2 x106_4 I _ hxr107_6) ?_
    show aGo kad d 206 (110, ([(6, .int s0), (0, .ref a0), (1, .int i1), (2, .int i2), (3, .int i3), (4, .int i4), (5, .int i5)], [.int r107_6.1])) (aMem Z r107_6.2, t) _
    refine go_ops aMi206 1 _ (f1 := (114, ([(6, .int s0), (0, .ref a0), (1, .int i1), (2, .int i2), (3, .int i3), (4, .int i4), (5, .int i5)], [.int r107_6.1]))) rfl ?_
    refine go_le (lv1 := [(0, .ref a0), (1, .int i1), (2, .int i2), (4, .int i4), (5, .int i5), (6, .int s0)]) (aLe_of (show (List.map (fun q => q.1) ([(0, .ref a0), (1, .int i1), (2, .int i2), (4, .int i4), (5, .int i5), (6, .int s0)] : ALv)).Nodup from (by show ([0, 1, 2, 4, 5, 6] : List Nat).Nodup; decide)) (aSubL_cons rfl (aSubL_cons rfl (aSubL_cons rfl (aSubL_cons rfl (aSubL_cons rfl (aSubL_cons rfl aSubL_nil))))))) ?_
    exact Tf206_b114 hd a0 i1 i2 i4 i5 s0 r107_6.1 r107_6.2 _ h
def f206_b70 (kad : Nat → Nat) (N : Nat) (Z : AZ) (a0 : Nat) (i1 : Int32) (i2 : Int32) (i3 : Int32) (i4 : Int32) (s0 : Int32) (I : AI) : Option (Int32 × AI) :=
  if i2 = 0 then
    f206_b84 kad N Z a0 i1 i2 i3 i4 s0 (0 : Int32) I
  else
    (gI Z I 11 19 a0).bind fun x77_1 =>
    f206_b84 kad N Z a0 i1 i2 i3 i4 s0 x77_1 I
set_option maxRecDepth 20000 in
theorem Tf206_b70 {kad : Nat → Nat} {N : Nat} {Z : AZ} {d : Nat} {t : Option Nat × (Nat × Nat)} (hd : 2 ≤ d) : ∀ (a0 : Nat) (i1 : Int32) (i2 : Int32) (i3 : Int32) (i4 : Int32) (s0 : Int32) (I : AI) (r : Int32 × AI), f206_b70 kad N Z a0 i1 i2 i3 i4 s0 I = some r → aGo kad d 206 (70, ([(0, .ref a0), (1, .int i1), (2, .int i2), (3, .int i3), (4, .int i4)], [.int s0])) (aMem Z I, t) (qI Z t r) := by
  intro a0 i1 i2 i3 i4 s0 I r h
  unfold f206_b70 at h
  refine go_ops aMi206 2 _ (f1 := (73, ([(5, .int s0), (0, .ref a0), (1, .int i1), (2, .int i2), (3, .int i3), (4, .int i4)], [.int i2]))) rfl ?_
  refine gg_br (b := decide (i2 = 0)) (tg := 83) (off := 10) aMi206 rfl rfl rfl rfl (fun hb => ?_) (fun hb => ?_)
  · rw [if_pos (of_decide_eq_true hb)] at h
    refine go_ops aMi206 1 _ (f1 := (84, ([(5, .int s0), (0, .ref a0), (1, .int i1), (2, .int i2), (3, .int i3), (4, .int i4)], [.int (0 : Int32)]))) rfl ?_
    refine go_le (lv1 := [(0, .ref a0), (1, .int i1), (2, .int i2), (3, .int i3), (4, .int i4), (5, .int s0)]) (aLe_of (show (List.map (fun q => q.1) ([(0, .ref a0), (1, .int i1), (2, .int i2), (3, .int i3), (4, .int i4), (5, .int s0)] : ALv)).Nodup from (by show ([0, 1, 2, 3, 4, 5] : List Nat).Nodup; decide)) (aSubL_cons rfl (aSubL_cons rfl (aSubL_cons rfl (aSubL_cons rfl (aSubL_cons rfl (aSubL_cons rfl aSubL_nil))))))) ?_
    exact Tf206_b84 hd a0 i1 i2 i3 i4 s0 (0 : Int32) I _ h
  · rw [if_neg (of_decide_eq_false hb)] at h
    refine go_ops aMi206 1 _ (f1 := (77, ([(5, .int s0), (0, .ref a0), (1, .int i1), (2, .int i2), (3, .int i3), (4, .int i4)], [.ref a0]))) rfl ?_
    obtain ⟨x77_1, hxx77_1, h⟩ := Option.bind_eq_some_iff.mp h
    refine gg_gI aMi206 rfl rfl rfl hxx77_1 ?_
    refine go_ops aMi206 1 _ (f1 := (84, ([(5, .int s0), (0, .ref a0), (1, .int i1), (2, .int i2), (3, .int i3), (4, .int i4)], [.int x77_1]))) rfl ?_
    refine go_le (lv1 := [(0, .ref a0), (1, .int i1), (2, .int i2), (3, .int i3), (4, .int i4), (5, .int s0)]) (aLe_of (show (List.map (fun q => q.1) ([(0, .ref a0), (1, .int i1), (2, .int i2), (3, .int i3), (4, .int i4), (5, .int s0)] : ALv)).Nodup from (by show ([0, 1, 2, 3, 4, 5] : List Nat).Nodup; decide)) (aSubL_cons rfl (aSubL_cons rfl (aSubL_cons rfl (aSubL_cons rfl (aSubL_cons rfl (aSubL_cons rfl aSubL_nil))))))) ?_
    exact Tf206_b84 hd a0 i1 i2 i3 i4 s0 x77_1 I _ h
def f206_b44 (kad : Nat → Nat) (N : Nat) (Z : AZ) (a0 : Nat) (i1 : Int32) (i2 : Int32) (i3 : Int32) (i4 : Int32) (I : AI) : Option (Int32 × AI) :=
  if i2 = 0 then
    f206_b70 kad N Z a0 i1 i2 i3 i4 (0 : Int32) I
  else
    (gR Z I 11 3 a0).bind fun b50_1 =>
    (lI Z I 100 b50_1 i3).bind fun x54_2 =>
    (gR Z I 11 3 a0).bind fun b56_3 =>
    (lI Z I 100 b56_3 (i3 + (1 : Int32))).bind fun x62_4 =>
    (isK Z a0 11).bind fun u63_5 =>
    (f205 kad N Z a0 x54_2 x62_4 I).bind fun r63_6 =>
    f206_b70 kad N Z a0 i1 i2 i3 i4 r63_6.1 r63_6.2
set_option maxRecDepth 20000 in
theorem Tf206_b44 {kad : Nat → Nat} {N : Nat} {Z : AZ} {d : Nat} {t : Option Nat × (Nat × Nat)} (hd : 2 ≤ d) : ∀ (a0 : Nat) (i1 : Int32) (i2 : Int32) (i3 : Int32) (i4 : Int32) (I : AI) (r : Int32 × AI), f206_b44 kad N Z a0 i1 i2 i3 i4 I = some r → aGo kad d 206 (44, ([(0, .ref a0), (1, .int i1), (2, .int i2), (3, .int i3), (4, .int i4)], [])) (aMem Z I, t) (qI Z t r) := by
  intro a0 i1 i2 i3 i4 I r h
  unfold f206_b44 at h
  refine go_ops aMi206 1 _ (f1 := (45, ([(0, .ref a0), (1, .int i1), (2, .int i2), (3, .int i3), (4, .int i4)], [.int i2]))) rfl ?_
  refine gg_br (b := decide (i2 = 0)) (tg := 69) (off := 24) aMi206 rfl rfl rfl rfl (fun hb => ?_) (fun hb => ?_)
  · rw [if_pos (of_decide_eq_true hb)] at h
    refine go_ops aMi206 1 _ (f1 := (70, ([(0, .ref a0), (1, .int i1), (2, .int i2), (3, .int i3), (4, .int i4)], [.int (0 : Int32)]))) rfl ?_
    exact Tf206_b70 hd a0 i1 i2 i3 i4 (0 : Int32) I _ h
  · rw [if_neg (of_decide_eq_false hb)] at h
    refine go_ops aMi206 2 _ (f1 := (50, ([(0, .ref a0), (1, .int i1), (2, .int i2), (3, .int i3), (4, .int i4)], [.ref a0, .ref a0]))) rfl ?_
    obtain ⟨b50_1, hxb50_1, h⟩ := Option.bind_eq_some_iff.mp h
    refine gg_gR aMi206 rfl rfl rfl hxb50_1 ?_
    refine go_ops aMi206 1 _ (f1 := (54, ([(0, .ref a0), (1, .int i1), (2, .int i2), (3, .int i3), (4, .int i4)], [.int i3, .ref b50_1, .ref a0]))) rfl ?_
    obtain ⟨x54_2, hxx54_2, h⟩ := Option.bind_eq_some_iff.mp h
    refine gg_lI (Or.inl ⟨rfl, rfl⟩) aMi206 rfl hxx54_2 ?_
    refine go_ops aMi206 1 _ (f1 := (56, ([(0, .ref a0), (1, .int i1), (2, .int i2), (3, .int i3), (4, .int i4)], [.ref a0, .int x54_2, .ref a0]))) rfl ?_
    obtain ⟨b56_3, hxb56_3, h⟩ := Option.bind_eq_some_iff.mp h
    refine gg_gR aMi206 rfl rfl rfl hxb56_3 ?_
    refine go_ops aMi206 3 _ (f1 := (62, ([(0, .ref a0), (1, .int i1), (2, .int i2), (3, .int i3), (4, .int i4)], [.int (i3 + (1 : Int32)), .ref b56_3, .int x54_2, .ref a0]))) rfl ?_
    obtain ⟨x62_4, hxx62_4, h⟩ := Option.bind_eq_some_iff.mp h
    refine gg_lI (Or.inl ⟨rfl, rfl⟩) aMi206 rfl hxx62_4 ?_
    obtain ⟨u63_5, hxu63_5, h⟩ := Option.bind_eq_some_iff.mp h
    obtain ⟨r63_6, hxr63_6, h⟩ := Option.bind_eq_some_iff.mp h
    refine gg_cv (as := [.int x54_2, .int x62_4]) (r := []) aMi206 rfl rfl rfl aMi205 (Nat.le_of_ble_eq_true rfl) rfl (Nat.le_of_ble_eq_true rfl) (Nat.le_of_ble_eq_true rfl) (by omega) hxu63_5 (Tf205 (by omega) a0 x54_2 x62_4 I _ hxr63_6) ?_
    show aGo kad d 206 (66, ([(0, .ref a0), (1, .int i1), (2, .int i2), (3, .int i3), (4, .int i4)], [.int r63_6.1])) (aMem Z r63_6.2, t) _
    refine go_ops aMi206 1 _ (f1 := (70, ([(0, .ref a0), (1, .int i1), (2, .int i2), (3, .int i3), (4, .int i4)], [.int r63_6.1]))) rfl ?_
    exact Tf206_b70 hd a0 i1 i2 i3 i4 r63_6.1 r63_6.2 _ h
def f206 (kad : Nat → Nat) (N : Nat) (Z : AZ) (a0 : Nat) (i1 : Int32) (i2 : Int32) (I : AI) : Option (Int32 × AI) :=
  (gR Z I 11 3 a0).bind fun b5_1 =>
  (lI Z I 100 b5_1 (((5 : Int32) * i1) + (4 : Int32))).bind fun x11_2 =>
  if ¬ i2 = 0 then
    f206_b44 kad N Z a0 i1 i2 ((5 : Int32) * i1) x11_2 I
  else
    (gR Z I 11 6 a0).bind fun b19_3 =>
    (lI Z I 100 b19_3 x11_2).bind fun x24_4 =>
    if x24_4 = (Int32.ofInt (-1)) then
      f206_b38 kad N Z i1 I
    else
      (isK Z a0 11).bind fun u32_5 =>
      (f204 kad N Z a0 x11_2 I).bind fun r32_6 =>
      if r32_6.1 = 0 then
        f206_b44 kad N Z a0 i1 i2 ((5 : Int32) * i1) x11_2 r32_6.2
      else
        f206_b38 kad N Z i1 r32_6.2
set_option maxRecDepth 20000 in
theorem Tf206 {kad : Nat → Nat} {N : Nat} {Z : AZ} {d : Nat} {t : Option Nat × (Nat × Nat)} (hd : 2 ≤ d) : ∀ (a0 : Nat) (i1 : Int32) (i2 : Int32) (I : AI) (r : Int32 × AI), f206 kad N Z a0 i1 i2 I = some r → aGo kad d 206 (0, ([(0, .ref a0), (1, .int i1), (2, .int i2)], [])) (aMem Z I, t) (qI Z t r) := by
  intro a0 i1 i2 I r h
  unfold f206 at h
  refine go_ops aMi206 5 _ (f1 := (5, ([(3, .int ((5 : Int32) * i1)), (0, .ref a0), (1, .int i1), (2, .int i2)], [.ref a0]))) rfl ?_
  obtain ⟨b5_1, hxb5_1, h⟩ := Option.bind_eq_some_iff.mp h
  refine gg_gR aMi206 rfl rfl rfl hxb5_1 ?_
  refine go_ops aMi206 3 _ (f1 := (11, ([(3, .int ((5 : Int32) * i1)), (0, .ref a0), (1, .int i1), (2, .int i2)], [.int (((5 : Int32) * i1) + (4 : Int32)), .ref b5_1]))) rfl ?_
  obtain ⟨x11_2, hxx11_2, h⟩ := Option.bind_eq_some_iff.mp h
  refine gg_lI (Or.inl ⟨rfl, rfl⟩) aMi206 rfl hxx11_2 ?_
  refine go_ops aMi206 2 _ (f1 := (15, ([(4, .int x11_2), (3, .int ((5 : Int32) * i1)), (0, .ref a0), (1, .int i1), (2, .int i2)], [.int i2]))) rfl ?_
  refine gg_br (b := decide (¬ i2 = 0)) (tg := 44) (off := 29) aMi206 rfl rfl rfl rfl (fun hb => ?_) (fun hb => ?_)
  · rw [if_pos (of_decide_eq_true hb)] at h
    refine go_le (lv1 := [(0, .ref a0), (1, .int i1), (2, .int i2), (3, .int ((5 : Int32) * i1)), (4, .int x11_2)]) (aLe_of (show (List.map (fun q => q.1) ([(0, .ref a0), (1, .int i1), (2, .int i2), (3, .int ((5 : Int32) * i1)), (4, .int x11_2)] : ALv)).Nodup from (by show ([0, 1, 2, 3, 4] : List Nat).Nodup; decide)) (aSubL_cons rfl (aSubL_cons rfl (aSubL_cons rfl (aSubL_cons rfl (aSubL_cons rfl aSubL_nil)))))) ?_
    exact Tf206_b44 hd a0 i1 i2 ((5 : Int32) * i1) x11_2 I _ h
  · rw [if_neg (of_decide_eq_false hb)] at h
    refine go_ops aMi206 1 _ (f1 := (19, ([(4, .int x11_2), (3, .int ((5 : Int32) * i1)), (0, .ref a0), (1, .int i1), (2, .int i2)], [.ref a0]))) rfl ?_
    obtain ⟨b19_3, hxb19_3, h⟩ := Option.bind_eq_some_iff.mp h
    refine gg_gR aMi206 rfl rfl rfl hxb19_3 ?_
    refine go_ops aMi206 1 _ (f1 := (24, ([(4, .int x11_2), (3, .int ((5 : Int32) * i1)), (0, .ref a0), (1, .int i1), (2, .int i2)], [.int x11_2, .ref b19_3]))) rfl ?_
    obtain ⟨x24_4, hxx24_4, h⟩ := Option.bind_eq_some_iff.mp h
    refine gg_lI (Or.inl ⟨rfl, rfl⟩) aMi206 rfl hxx24_4 ?_
    refine go_ops aMi206 1 _ (f1 := (26, ([(4, .int x11_2), (3, .int ((5 : Int32) * i1)), (0, .ref a0), (1, .int i1), (2, .int i2)], [.int (Int32.ofInt (-1)), .int x24_4]))) rfl ?_
    refine gg_br (b := decide (x24_4 = (Int32.ofInt (-1)))) (tg := 38) (off := 12) aMi206 rfl rfl rfl rfl (fun hb => ?_) (fun hb => ?_)
    · rw [if_pos (of_decide_eq_true hb)] at h
      refine go_le (lv1 := [(1, .int i1)]) (aLe_of (show (List.map (fun q => q.1) ([(1, .int i1)] : ALv)).Nodup from (by show ([1] : List Nat).Nodup; decide)) (aSubL_cons rfl aSubL_nil)) ?_
      exact Tf206_b38 hd i1 I _ h
    · rw [if_neg (of_decide_eq_false hb)] at h
      refine go_ops aMi206 2 _ (f1 := (32, ([(4, .int x11_2), (3, .int ((5 : Int32) * i1)), (0, .ref a0), (1, .int i1), (2, .int i2)], [.int x11_2, .ref a0]))) rfl ?_
      obtain ⟨u32_5, hxu32_5, h⟩ := Option.bind_eq_some_iff.mp h
      obtain ⟨r32_6, hxr32_6, h⟩ := Option.bind_eq_some_iff.mp h
      refine gg_cv (as := [.int x11_2]) (r := []) aMi206 rfl rfl rfl aMi204 (Nat.le_of_ble_eq_true rfl) rfl (Nat.le_of_ble_eq_true rfl) (Nat.le_of_ble_eq_true rfl) (by omega) hxu32_5 (Tf204 (by omega) a0 x11_2 I _ hxr32_6) ?_
      show aGo kad d 206 (35, ([(4, .int x11_2), (3, .int ((5 : Int32) * i1)), (0, .ref a0), (1, .int i1), (2, .int i2)], [.int r32_6.1])) (aMem Z r32_6.2, t) _
      refine gg_br (b := decide (r32_6.1 = 0)) (tg := 44) (off := 9) aMi206 rfl rfl rfl rfl (fun hb => ?_) (fun hb => ?_)
      · rw [if_pos (of_decide_eq_true hb)] at h
        refine go_le (lv1 := [(0, .ref a0), (1, .int i1), (2, .int i2), (3, .int ((5 : Int32) * i1)), (4, .int x11_2)]) (aLe_of (show (List.map (fun q => q.1) ([(0, .ref a0), (1, .int i1), (2, .int i2), (3, .int ((5 : Int32) * i1)), (4, .int x11_2)] : ALv)).Nodup from (by show ([0, 1, 2, 3, 4] : List Nat).Nodup; decide)) (aSubL_cons rfl (aSubL_cons rfl (aSubL_cons rfl (aSubL_cons rfl (aSubL_cons rfl aSubL_nil)))))) ?_
        exact Tf206_b44 hd a0 i1 i2 ((5 : Int32) * i1) x11_2 r32_6.2 _ h
      · rw [if_neg (of_decide_eq_false hb)] at h
        refine go_le (lv1 := [(1, .int i1)]) (aLe_of (show (List.map (fun q => q.1) ([(1, .int i1)] : ALv)).Nodup from (by show ([1] : List Nat).Nodup; decide)) (aSubL_cons rfl aSubL_nil)) ?_
        exact Tf206_b38 hd i1 r32_6.2 _ h
-- KernelGymModel.setsLabel (I)I
def f207 (kad : Nat → Nat) (N : Nat) (Z : AZ) (a0 : Nat) (i1 : Int32) (I : AI) : Option (Int32 × AI) :=
  (gR Z I 11 3 a0).bind fun b2_1 =>
  (lI Z I 100 b2_1 ((5 : Int32) * i1)).bind fun x8_2 =>
  (isK Z a0 11).bind fun u9_3 =>
  (f200 kad N Z a0 x8_2 I).bind fun r9_4 =>
  (gR Z r9_4.2 11 4 a0).bind fun b14_5 =>
  (lI Z r9_4.2 100 b14_5 r9_4.1).bind fun x18_6 =>
  if x18_6 = (Int32.ofInt (-1)) then
    (gR Z r9_4.2 11 4 a0).bind fun b30_7 =>
    (gI Z r9_4.2 11 15 a0).bind fun x38_8 =>
    (gR Z r9_4.2 11 5 a0).bind fun b43_9 =>
    (gI Z r9_4.2 11 15 a0).bind fun x47_10 =>
    (lI Z r9_4.2 100 b43_9 x47_10).bind fun x50_11 =>
    (sI Z r9_4.2 100 b30_7 r9_4.1 (((1000 : Int32) * x38_8) + x50_11)).bind fun I52_12 =>
    some ((0 : Int32), I52_12)
  else
    some (((200 : Int32) + i1), r9_4.2)
set_option maxRecDepth 20000 in
theorem Tf207 {kad : Nat → Nat} {N : Nat} {Z : AZ} {d : Nat} {t : Option Nat × (Nat × Nat)} (hd : 1 ≤ d) : ∀ (a0 : Nat) (i1 : Int32) (I : AI) (r : Int32 × AI), f207 kad N Z a0 i1 I = some r → aGo kad d 207 (0, ([(0, .ref a0), (1, .int i1)], [])) (aMem Z I, t) (qI Z t r) := by
  intro a0 i1 I r h
  unfold f207 at h
  refine go_ops aMi207 2 _ (f1 := (2, ([(0, .ref a0), (1, .int i1)], [.ref a0, .ref a0]))) rfl ?_
  obtain ⟨b2_1, hxb2_1, h⟩ := Option.bind_eq_some_iff.mp h
  refine gg_gR aMi207 rfl rfl rfl hxb2_1 ?_
  refine go_ops aMi207 3 _ (f1 := (8, ([(0, .ref a0), (1, .int i1)], [.int ((5 : Int32) * i1), .ref b2_1, .ref a0]))) rfl ?_
  obtain ⟨x8_2, hxx8_2, h⟩ := Option.bind_eq_some_iff.mp h
  refine gg_lI (Or.inl ⟨rfl, rfl⟩) aMi207 rfl hxx8_2 ?_
  obtain ⟨u9_3, hxu9_3, h⟩ := Option.bind_eq_some_iff.mp h
  obtain ⟨r9_4, hxr9_4, h⟩ := Option.bind_eq_some_iff.mp h
  refine gg_cv (as := [.int x8_2]) (r := []) aMi207 rfl rfl rfl aMi200 (Nat.le_of_ble_eq_true rfl) rfl (Nat.le_of_ble_eq_true rfl) (Nat.le_of_ble_eq_true rfl) (by omega) hxu9_3 (Tf200 (by omega) a0 x8_2 I _ hxr9_4) ?_
  show aGo kad d 207 (12, ([(0, .ref a0), (1, .int i1)], [.int r9_4.1])) (aMem Z r9_4.2, t) _
  refine go_ops aMi207 2 _ (f1 := (14, ([(2, .int r9_4.1), (0, .ref a0), (1, .int i1)], [.ref a0]))) rfl ?_
  obtain ⟨b14_5, hxb14_5, h⟩ := Option.bind_eq_some_iff.mp h
  refine gg_gR aMi207 rfl rfl rfl hxb14_5 ?_
  refine go_ops aMi207 1 _ (f1 := (18, ([(2, .int r9_4.1), (0, .ref a0), (1, .int i1)], [.int r9_4.1, .ref b14_5]))) rfl ?_
  obtain ⟨x18_6, hxx18_6, h⟩ := Option.bind_eq_some_iff.mp h
  refine gg_lI (Or.inl ⟨rfl, rfl⟩) aMi207 rfl hxx18_6 ?_
  refine go_ops aMi207 1 _ (f1 := (20, ([(2, .int r9_4.1), (0, .ref a0), (1, .int i1)], [.int (Int32.ofInt (-1)), .int x18_6]))) rfl ?_
  refine gg_br (b := decide (x18_6 = (Int32.ofInt (-1)))) (tg := 29) (off := 9) aMi207 rfl rfl rfl rfl (fun hb => ?_) (fun hb => ?_)
  · rw [if_pos (of_decide_eq_true hb)] at h
    refine go_ops aMi207 1 _ (f1 := (30, ([(2, .int r9_4.1), (0, .ref a0), (1, .int i1)], [.ref a0]))) rfl ?_
    obtain ⟨b30_7, hxb30_7, h⟩ := Option.bind_eq_some_iff.mp h
    refine gg_gR aMi207 rfl rfl rfl hxb30_7 ?_
    refine go_ops aMi207 3 _ (f1 := (38, ([(2, .int r9_4.1), (0, .ref a0), (1, .int i1)], [.ref a0, .int (1000 : Int32), .int r9_4.1, .ref b30_7]))) rfl ?_
    obtain ⟨x38_8, hxx38_8, h⟩ := Option.bind_eq_some_iff.mp h
    refine gg_gI aMi207 rfl rfl rfl hxx38_8 ?_
    refine go_ops aMi207 2 _ (f1 := (43, ([(2, .int r9_4.1), (0, .ref a0), (1, .int i1)], [.ref a0, .int ((1000 : Int32) * x38_8), .int r9_4.1, .ref b30_7]))) rfl ?_
    obtain ⟨b43_9, hxb43_9, h⟩ := Option.bind_eq_some_iff.mp h
    refine gg_gR aMi207 rfl rfl rfl hxb43_9 ?_
    refine go_ops aMi207 1 _ (f1 := (47, ([(2, .int r9_4.1), (0, .ref a0), (1, .int i1)], [.ref a0, .ref b43_9, .int ((1000 : Int32) * x38_8), .int r9_4.1, .ref b30_7]))) rfl ?_
    obtain ⟨x47_10, hxx47_10, h⟩ := Option.bind_eq_some_iff.mp h
    refine gg_gI aMi207 rfl rfl rfl hxx47_10 ?_
    obtain ⟨x50_11, hxx50_11, h⟩ := Option.bind_eq_some_iff.mp h
    refine gg_lI (Or.inl ⟨rfl, rfl⟩) aMi207 rfl hxx50_11 ?_
    refine go_ops aMi207 1 _ (f1 := (52, ([(2, .int r9_4.1), (0, .ref a0), (1, .int i1)], [.int (((1000 : Int32) * x38_8) + x50_11), .int r9_4.1, .ref b30_7]))) rfl ?_
    obtain ⟨I52_12, hxI52_12, h⟩ := Option.bind_eq_some_iff.mp h
    refine gg_sI (Or.inl ⟨rfl, rfl⟩) aMi207 rfl hxI52_12 ?_
    refine go_ops aMi207 1 _ (f1 := (54, ([(2, .int r9_4.1), (0, .ref a0), (1, .int i1)], [.int (0 : Int32)]))) rfl ?_
    cases h
    exact go_ret aMi207 rfl aRetI ⟨rfl, rfl⟩
  · rw [if_neg (of_decide_eq_false hb)] at h
    refine go_ops aMi207 3 _ (f1 := (28, ([(2, .int r9_4.1), (0, .ref a0), (1, .int i1)], [.int ((200 : Int32) + i1)]))) rfl ?_
    cases h
    exact go_ret aMi207 rfl aRetI ⟨rfl, rfl⟩
-- KernelGymModel.puts (I)V
def f208_b20 (kad : Nat → Nat) (N : Nat) (Z : AZ) (a0 : Nat) (i1 : Int32) (s0 : Int32) (s1 : Nat) (I : AI) : Option (Unit × AI) :=
  (gR Z I 11 5 a0).bind fun b21_1 =>
  (gI Z I 11 15 a0).bind fun x25_2 =>
  (lI Z I 100 b21_1 x25_2).bind fun x28_3 =>
  (sI Z I 100 s1 (s0 + x28_3) i1).bind fun I31_4 =>
  (gR Z I31_4 11 5 a0).bind fun b33_5 =>
  (gI Z I31_4 11 15 a0).bind fun x37_6 =>
  (lI Z I31_4 100 b33_5 x37_6).bind fun x41_7 =>
  (sI Z I31_4 100 b33_5 x37_6 (x41_7 + (1 : Int32))).bind fun I44_8 =>
  some ((), I44_8)
set_option maxRecDepth 20000 in
theorem Tf208_b20 {kad : Nat → Nat} {N : Nat} {Z : AZ} {d : Nat} {t : Option Nat × (Nat × Nat)} (hd : 0 ≤ d) : ∀ (a0 : Nat) (i1 : Int32) (s0 : Int32) (s1 : Nat) (I : AI) (r : Unit × AI), f208_b20 kad N Z a0 i1 s0 s1 I = some r → aGo kad d 208 (20, ([(0, .ref a0), (1, .int i1)], [.int s0, .ref s1])) (aMem Z I, t) (qV Z t r) := by
  intro a0 i1 s0 s1 I r h
  unfold f208_b20 at h
  refine go_ops aMi208 1 _ (f1 := (21, ([(0, .ref a0), (1, .int i1)], [.ref a0, .int s0, .ref s1]))) rfl ?_
  obtain ⟨b21_1, hxb21_1, h⟩ := Option.bind_eq_some_iff.mp h
  refine gg_gR aMi208 rfl rfl rfl hxb21_1 ?_
  refine go_ops aMi208 1 _ (f1 := (25, ([(0, .ref a0), (1, .int i1)], [.ref a0, .ref b21_1, .int s0, .ref s1]))) rfl ?_
  obtain ⟨x25_2, hxx25_2, h⟩ := Option.bind_eq_some_iff.mp h
  refine gg_gI aMi208 rfl rfl rfl hxx25_2 ?_
  obtain ⟨x28_3, hxx28_3, h⟩ := Option.bind_eq_some_iff.mp h
  refine gg_lI (Or.inl ⟨rfl, rfl⟩) aMi208 rfl hxx28_3 ?_
  refine go_ops aMi208 2 _ (f1 := (31, ([(0, .ref a0), (1, .int i1)], [.int i1, .int (s0 + x28_3), .ref s1]))) rfl ?_
  obtain ⟨I31_4, hxI31_4, h⟩ := Option.bind_eq_some_iff.mp h
  refine gg_sI (Or.inl ⟨rfl, rfl⟩) aMi208 rfl hxI31_4 ?_
  refine go_ops aMi208 1 _ (f1 := (33, ([(0, .ref a0), (1, .int i1)], [.ref a0]))) rfl ?_
  obtain ⟨b33_5, hxb33_5, h⟩ := Option.bind_eq_some_iff.mp h
  refine gg_gR aMi208 rfl rfl rfl hxb33_5 ?_
  refine go_ops aMi208 1 _ (f1 := (37, ([(0, .ref a0), (1, .int i1)], [.ref a0, .ref b33_5]))) rfl ?_
  obtain ⟨x37_6, hxx37_6, h⟩ := Option.bind_eq_some_iff.mp h
  refine gg_gI aMi208 rfl rfl rfl hxx37_6 ?_
  refine go_ops aMi208 1 _ (f1 := (41, ([(0, .ref a0), (1, .int i1)], [.int x37_6, .ref b33_5, .int x37_6, .ref b33_5]))) rfl ?_
  obtain ⟨x41_7, hxx41_7, h⟩ := Option.bind_eq_some_iff.mp h
  refine gg_lI (Or.inl ⟨rfl, rfl⟩) aMi208 rfl hxx41_7 ?_
  refine go_ops aMi208 2 _ (f1 := (44, ([(0, .ref a0), (1, .int i1)], [.int (x41_7 + (1 : Int32)), .int x37_6, .ref b33_5]))) rfl ?_
  obtain ⟨I44_8, hxI44_8, h⟩ := Option.bind_eq_some_iff.mp h
  refine gg_sI (Or.inl ⟨rfl, rfl⟩) aMi208 rfl hxI44_8 ?_
  cases h
  exact go_ret aMi208 rfl rfl ⟨rfl, rfl⟩
def f208 (kad : Nat → Nat) (N : Nat) (Z : AZ) (a0 : Nat) (i1 : Int32) (I : AI) : Option (Unit × AI) :=
  (gR Z I 11 20 a0).bind fun b1_1 =>
  (gI Z I 11 15 a0).bind fun x5_2 =>
  if ¬ x5_2 = 0 then
    (gI Z I 11 18 a0).bind fun x17_3 =>
    f208_b20 kad N Z a0 i1 x17_3 b1_1 I
  else
    f208_b20 kad N Z a0 i1 (8 : Int32) b1_1 I
set_option maxRecDepth 20000 in
theorem Tf208 {kad : Nat → Nat} {N : Nat} {Z : AZ} {d : Nat} {t : Option Nat × (Nat × Nat)} (hd : 0 ≤ d) : ∀ (a0 : Nat) (i1 : Int32) (I : AI) (r : Unit × AI), f208 kad N Z a0 i1 I = some r → aGo kad d 208 (0, ([(0, .ref a0), (1, .int i1)], [])) (aMem Z I, t) (qV Z t r) := by
  intro a0 i1 I r h
  unfold f208 at h
  refine go_ops aMi208 1 _ (f1 := (1, ([(0, .ref a0), (1, .int i1)], [.ref a0]))) rfl ?_
  obtain ⟨b1_1, hxb1_1, h⟩ := Option.bind_eq_some_iff.mp h
  refine gg_gR aMi208 rfl rfl rfl hxb1_1 ?_
  refine go_ops aMi208 1 _ (f1 := (5, ([(0, .ref a0), (1, .int i1)], [.ref a0, .ref b1_1]))) rfl ?_
  obtain ⟨x5_2, hxx5_2, h⟩ := Option.bind_eq_some_iff.mp h
  refine gg_gI aMi208 rfl rfl rfl hxx5_2 ?_
  refine gg_br (b := decide (¬ x5_2 = 0)) (tg := 16) (off := 8) aMi208 rfl rfl rfl rfl (fun hb => ?_) (fun hb => ?_)
  · rw [if_pos (of_decide_eq_true hb)] at h
    refine go_ops aMi208 1 _ (f1 := (17, ([(0, .ref a0), (1, .int i1)], [.ref a0, .ref b1_1]))) rfl ?_
    obtain ⟨x17_3, hxx17_3, h⟩ := Option.bind_eq_some_iff.mp h
    refine gg_gI aMi208 rfl rfl rfl hxx17_3 ?_
    exact Tf208_b20 hd a0 i1 x17_3 b1_1 I _ h
  · rw [if_neg (of_decide_eq_false hb)] at h
    refine go_ops aMi208 2 _ (f1 := (20, ([(0, .ref a0), (1, .int i1)], [.int (8 : Int32), .ref b1_1]))) rfl ?_
    exact Tf208_b20 hd a0 i1 (8 : Int32) b1_1 I _ h
-- KernelGymModel.builds (I)I
def f209_b129 (kad : Nat → Nat) (N : Nat) (Z : AZ) (a0 : Nat) (i4 : Int32) (I : AI) : Option (Int32 × AI) :=
  (isK Z a0 11).bind fun u132_1 =>
  (f208 kad N Z a0 i4 I).bind fun r132_2 =>
  some ((0 : Int32), r132_2.2)
set_option maxRecDepth 20000 in
theorem Tf209_b129 {kad : Nat → Nat} {N : Nat} {Z : AZ} {d : Nat} {t : Option Nat × (Nat × Nat)} (hd : 2 ≤ d) : ∀ (a0 : Nat) (i4 : Int32) (I : AI) (r : Int32 × AI), f209_b129 kad N Z a0 i4 I = some r → aGo kad d 209 (129, ([(0, .ref a0), (4, .int i4)], [])) (aMem Z I, t) (qI Z t r) := by
  intro a0 i4 I r h
  unfold f209_b129 at h
  refine go_ops aMi209 2 _ (f1 := (132, ([(0, .ref a0), (4, .int i4)], [.int i4, .ref a0]))) rfl ?_
  obtain ⟨u132_1, hxu132_1, h⟩ := Option.bind_eq_some_iff.mp h
  obtain ⟨r132_2, hxr132_2, h⟩ := Option.bind_eq_some_iff.mp h
  refine gg_cv (as := [.int i4]) (r := []) aMi209 rfl rfl rfl aMi208 (Nat.le_of_ble_eq_true rfl) rfl (Nat.le_of_ble_eq_true rfl) (Nat.le_of_ble_eq_true rfl) (by omega) hxu132_1 (Tf208 (by omega) a0 i4 I _ hxr132_2) ?_
  show aGo kad d 209 (135, ([(0, .ref a0), (4, .int i4)], [])) (aMem Z r132_2.2, t) _
  refine go_ops aMi209 1 _ (f1 := (136, ([(0, .ref a0), (4, .int i4)], [.int (0 : Int32)]))) rfl ?_
  cases h
  exact go_ret aMi209 rfl aRetI ⟨rfl, rfl⟩
def f209_b53 (kad : Nat → Nat) (N : Nat) (Z : AZ) (a0 : Nat) (i1 : Int32) (i2 : Int32) (i3 : Int32) (I : AI) : Option (Int32 × AI) :=
  (gR Z I 11 3 a0).bind fun b55_1 =>
  (lI Z I 100 b55_1 i2).bind fun x59_2 =>
  (gR Z I 11 3 a0).bind fun b61_3 =>
  (lI Z I 100 b61_3 (i2 + (1 : Int32))).bind fun x67_4 =>
  (isK Z a0 11).bind fun u68_5 =>
  (f205 kad N Z a0 x59_2 x67_4 I).bind fun r68_6 =>
  (gI Z r68_6.2 11 19 a0).bind fun x74_7 =>
  if x74_7 = 0 then
    if ¬ i3 = (5 : Int32) then
      if ¬ i3 = (2 : Int32) then
        f209_b129 kad N Z a0 r68_6.1 r68_6.2
      else
        (gR Z r68_6.2 11 3 a0).bind fun b119_8 =>
        (lI Z r68_6.2 100 b119_8 (i2 + (2 : Int32))).bind fun x125_9 =>
        (isK Z a0 11).bind fun u126_10 =>
        (f208 kad N Z a0 x125_9 r68_6.2).bind fun r126_11 =>
        f209_b129 kad N Z a0 r68_6.1 r126_11.2
    else
      (gR Z r68_6.2 11 20 a0).bind fun b96_12 =>
      (gR Z r68_6.2 11 3 a0).bind fun b100_13 =>
      (lI Z r68_6.2 100 b100_13 (i2 + (2 : Int32))).bind fun x106_14 =>
      (sI Z r68_6.2 100 b96_12 x106_14 r68_6.1).bind fun I109_15 =>
      some ((0 : Int32), I109_15)
  else
    (gI Z r68_6.2 11 19 a0).bind fun x83_16 =>
    some ((((100 : Int32) * x83_16) + i1), r68_6.2)
set_option maxRecDepth 20000 in
theorem Tf209_b53 {kad : Nat → Nat} {N : Nat} {Z : AZ} {d : Nat} {t : Option Nat × (Nat × Nat)} (hd : 2 ≤ d) : ∀ (a0 : Nat) (i1 : Int32) (i2 : Int32) (i3 : Int32) (I : AI) (r : Int32 × AI), f209_b53 kad N Z a0 i1 i2 i3 I = some r → aGo kad d 209 (53, ([(0, .ref a0), (1, .int i1), (2, .int i2), (3, .int i3)], [])) (aMem Z I, t) (qI Z t r) := by
  intro a0 i1 i2 i3 I r h
  unfold f209_b53 at h
  refine go_ops aMi209 2 _ (f1 := (55, ([(0, .ref a0), (1, .int i1), (2, .int i2), (3, .int i3)], [.ref a0, .ref a0]))) rfl ?_
  obtain ⟨b55_1, hxb55_1, h⟩ := Option.bind_eq_some_iff.mp h
  refine gg_gR aMi209 rfl rfl rfl hxb55_1 ?_
  refine go_ops aMi209 1 _ (f1 := (59, ([(0, .ref a0), (1, .int i1), (2, .int i2), (3, .int i3)], [.int i2, .ref b55_1, .ref a0]))) rfl ?_
  obtain ⟨x59_2, hxx59_2, h⟩ := Option.bind_eq_some_iff.mp h
  refine gg_lI (Or.inl ⟨rfl, rfl⟩) aMi209 rfl hxx59_2 ?_
  refine go_ops aMi209 1 _ (f1 := (61, ([(0, .ref a0), (1, .int i1), (2, .int i2), (3, .int i3)], [.ref a0, .int x59_2, .ref a0]))) rfl ?_
  obtain ⟨b61_3, hxb61_3, h⟩ := Option.bind_eq_some_iff.mp h
  refine gg_gR aMi209 rfl rfl rfl hxb61_3 ?_
  refine go_ops aMi209 3 _ (f1 := (67, ([(0, .ref a0), (1, .int i1), (2, .int i2), (3, .int i3)], [.int (i2 + (1 : Int32)), .ref b61_3, .int x59_2, .ref a0]))) rfl ?_
  obtain ⟨x67_4, hxx67_4, h⟩ := Option.bind_eq_some_iff.mp h
  refine gg_lI (Or.inl ⟨rfl, rfl⟩) aMi209 rfl hxx67_4 ?_
  obtain ⟨u68_5, hxu68_5, h⟩ := Option.bind_eq_some_iff.mp h
  obtain ⟨r68_6, hxr68_6, h⟩ := Option.bind_eq_some_iff.mp h
  refine gg_cv (as := [.int x59_2, .int x67_4]) (r := []) aMi209 rfl rfl rfl aMi205 (Nat.le_of_ble_eq_true rfl) rfl (Nat.le_of_ble_eq_true rfl) (Nat.le_of_ble_eq_true rfl) (by omega) hxu68_5 (Tf205 (by omega) a0 x59_2 x67_4 I _ hxr68_6) ?_
  show aGo kad d 209 (71, ([(0, .ref a0), (1, .int i1), (2, .int i2), (3, .int i3)], [.int r68_6.1])) (aMem Z r68_6.2, t) _
  refine go_ops aMi209 2 _ (f1 := (74, ([(4, .int r68_6.1), (0, .ref a0), (1, .int i1), (2, .int i2), (3, .int i3)], [.ref a0]))) rfl ?_
  obtain ⟨x74_7, hxx74_7, h⟩ := Option.bind_eq_some_iff.mp h
  refine gg_gI aMi209 rfl rfl rfl hxx74_7 ?_
  refine gg_br (b := decide (x74_7 = 0)) (tg := 90) (off := 13) aMi209 rfl rfl rfl rfl (fun hb => ?_) (fun hb => ?_)
  · rw [if_pos (of_decide_eq_true hb)] at h
    refine go_ops aMi209 2 _ (f1 := (92, ([(4, .int r68_6.1), (0, .ref a0), (1, .int i1), (2, .int i2), (3, .int i3)], [.int (5 : Int32), .int i3]))) rfl ?_
    refine gg_br (b := decide (¬ i3 = (5 : Int32))) (tg := 112) (off := 20) aMi209 rfl rfl rfl rfl (fun hb => ?_) (fun hb => ?_)
    · rw [if_pos (of_decide_eq_true hb)] at h
      refine go_ops aMi209 2 _ (f1 := (114, ([(4, .int r68_6.1), (0, .ref a0), (1, .int i1), (2, .int i2), (3, .int i3)], [.int (2 : Int32), .int i3]))) rfl ?_
      refine gg_br (b := decide (¬ i3 = (2 : Int32))) (tg := 129) (off := 15) aMi209 rfl rfl rfl rfl (fun hb => ?_) (fun hb => ?_)
      · rw [if_pos (of_decide_eq_true hb)] at h
        refine go_le (lv1 := [(0, .ref a0), (4, .int r68_6.1)]) (aLe_of (show (List.map (fun q => q.1) ([(0, .ref a0), (4, .int r68_6.1)] : ALv)).Nodup from (by show ([0, 4] : List Nat).Nodup; decide)) (aSubL_cons rfl (aSubL_cons rfl aSubL_nil))) ?_
        exact Tf209_b129 hd a0 r68_6.1 r68_6.2 _ h
      · rw [if_neg (of_decide_eq_false hb)] at h
        refine go_ops aMi209 2 _ (f1 := (119, ([(4, .int r68_6.1), (0, .ref a0), (1, .int i1), (2, .int i2), (3, .int i3)], [.ref a0, .ref a0]))) rfl ?_
        obtain ⟨b119_8, hxb119_8, h⟩ := Option.bind_eq_some_iff.mp h
        refine gg_gR aMi209 rfl rfl rfl hxb119_8 ?_
        refine go_ops aMi209 3 _ (f1 := (125, ([(4, .int r68_6.1), (0, .ref a0), (1, .int i1), (2, .int i2), (3, .int i3)], [.int (i2 + (2 : Int32)), .ref b119_8, .ref a0]))) rfl ?_
        obtain ⟨x125_9, hxx125_9, h⟩ := Option.bind_eq_some_iff.mp h
        refine gg_lI (Or.inl ⟨rfl, rfl⟩) aMi209 rfl hxx125_9 ?_
        obtain ⟨u126_10, hxu126_10, h⟩ := Option.bind_eq_some_iff.mp h
        obtain ⟨r126_11, hxr126_11, h⟩ := Option.bind_eq_some_iff.mp h
        refine gg_cv (as := [.int x125_9]) (r := []) aMi209 rfl rfl rfl aMi208 (Nat.le_of_ble_eq_true rfl) rfl (Nat.le_of_ble_eq_true rfl) (Nat.le_of_ble_eq_true rfl) (by omega) hxu126_10 (Tf208 (by omega) a0 x125_9 r68_6.2 _ hxr126_11) ?_
        show aGo kad d 209 (129, ([(4, .int r68_6.1), (0, .ref a0), (1, .int i1), (2, .int i2), (3, .int i3)], [])) (aMem Z r126_11.2, t) _
        refine go_le (lv1 := [(0, .ref a0), (4, .int r68_6.1)]) (aLe_of (show (List.map (fun q => q.1) ([(0, .ref a0), (4, .int r68_6.1)] : ALv)).Nodup from (by show ([0, 4] : List Nat).Nodup; decide)) (aSubL_cons rfl (aSubL_cons rfl aSubL_nil))) ?_
        exact Tf209_b129 hd a0 r68_6.1 r126_11.2 _ h
    · rw [if_neg (of_decide_eq_false hb)] at h
      refine go_ops aMi209 1 _ (f1 := (96, ([(4, .int r68_6.1), (0, .ref a0), (1, .int i1), (2, .int i2), (3, .int i3)], [.ref a0]))) rfl ?_
      obtain ⟨b96_12, hxb96_12, h⟩ := Option.bind_eq_some_iff.mp h
      refine gg_gR aMi209 rfl rfl rfl hxb96_12 ?_
      refine go_ops aMi209 1 _ (f1 := (100, ([(4, .int r68_6.1), (0, .ref a0), (1, .int i1), (2, .int i2), (3, .int i3)], [.ref a0, .ref b96_12]))) rfl ?_
      obtain ⟨b100_13, hxb100_13, h⟩ := Option.bind_eq_some_iff.mp h
      refine gg_gR aMi209 rfl rfl rfl hxb100_13 ?_
      refine go_ops aMi209 3 _ (f1 := (106, ([(4, .int r68_6.1), (0, .ref a0), (1, .int i1), (2, .int i2), (3, .int i3)], [.int (i2 + (2 : Int32)), .ref b100_13, .ref b96_12]))) rfl ?_
      obtain ⟨x106_14, hxx106_14, h⟩ := Option.bind_eq_some_iff.mp h
      refine gg_lI (Or.inl ⟨rfl, rfl⟩) aMi209 rfl hxx106_14 ?_
      refine go_ops aMi209 1 _ (f1 := (109, ([(4, .int r68_6.1), (0, .ref a0), (1, .int i1), (2, .int i2), (3, .int i3)], [.int r68_6.1, .int x106_14, .ref b96_12]))) rfl ?_
      obtain ⟨I109_15, hxI109_15, h⟩ := Option.bind_eq_some_iff.mp h
      refine gg_sI (Or.inl ⟨rfl, rfl⟩) aMi209 rfl hxI109_15 ?_
      refine go_ops aMi209 1 _ (f1 := (111, ([(4, .int r68_6.1), (0, .ref a0), (1, .int i1), (2, .int i2), (3, .int i3)], [.int (0 : Int32)]))) rfl ?_
      cases h
      exact go_ret aMi209 rfl aRetI ⟨rfl, rfl⟩
  · rw [if_neg (of_decide_eq_false hb)] at h
    refine go_ops aMi209 2 _ (f1 := (83, ([(4, .int r68_6.1), (0, .ref a0), (1, .int i1), (2, .int i2), (3, .int i3)], [.ref a0, .int (100 : Int32)]))) rfl ?_
    obtain ⟨x83_16, hxx83_16, h⟩ := Option.bind_eq_some_iff.mp h
    refine gg_gI aMi209 rfl rfl rfl hxx83_16 ?_
    refine go_ops aMi209 3 _ (f1 := (89, ([(4, .int r68_6.1), (0, .ref a0), (1, .int i1), (2, .int i2), (3, .int i3)], [.int (((100 : Int32) * x83_16) + i1)]))) rfl ?_
    cases h
    exact go_ret aMi209 rfl aRetI ⟨rfl, rfl⟩
def f209 (kad : Nat → Nat) (N : Nat) (Z : AZ) (a0 : Nat) (i1 : Int32) (I : AI) : Option (Int32 × AI) :=
  (gR Z I 11 2 a0).bind fun b5_1 =>
  (lI Z I 100 b5_1 i1).bind fun x9_2 =>
  if ¬ x9_2 = (4 : Int32) then
    if x9_2 = (2 : Int32) then
      f209_b53 kad N Z a0 i1 ((5 : Int32) * i1) x9_2 I
    else
      if x9_2 = (3 : Int32) then
        f209_b53 kad N Z a0 i1 ((5 : Int32) * i1) x9_2 I
      else
        if x9_2 = (5 : Int32) then
          f209_b53 kad N Z a0 i1 ((5 : Int32) * i1) x9_2 I
        else
          some ((0 : Int32), I)
  else
    (gR Z I 11 5 a0).bind fun b17_3 =>
    (gI Z I 11 15 a0).bind fun x21_4 =>
    (lI Z I 100 b17_3 x21_4).bind fun x25_5 =>
    (gR Z I 11 3 a0).bind fun b27_6 =>
    (lI Z I 100 b27_6 ((5 : Int32) * i1)).bind fun x31_7 =>
    (sI Z I 100 b17_3 x21_4 (x25_5 + x31_7)).bind fun I33_8 =>
    some ((0 : Int32), I33_8)
set_option maxRecDepth 20000 in
theorem Tf209 {kad : Nat → Nat} {N : Nat} {Z : AZ} {d : Nat} {t : Option Nat × (Nat × Nat)} (hd : 2 ≤ d) : ∀ (a0 : Nat) (i1 : Int32) (I : AI) (r : Int32 × AI), f209 kad N Z a0 i1 I = some r → aGo kad d 209 (0, ([(0, .ref a0), (1, .int i1)], [])) (aMem Z I, t) (qI Z t r) := by
  intro a0 i1 I r h
  unfold f209 at h
  refine go_ops aMi209 5 _ (f1 := (5, ([(2, .int ((5 : Int32) * i1)), (0, .ref a0), (1, .int i1)], [.ref a0]))) rfl ?_
  obtain ⟨b5_1, hxb5_1, h⟩ := Option.bind_eq_some_iff.mp h
  refine gg_gR aMi209 rfl rfl rfl hxb5_1 ?_
  refine go_ops aMi209 1 _ (f1 := (9, ([(2, .int ((5 : Int32) * i1)), (0, .ref a0), (1, .int i1)], [.int i1, .ref b5_1]))) rfl ?_
  obtain ⟨x9_2, hxx9_2, h⟩ := Option.bind_eq_some_iff.mp h
  refine gg_lI (Or.inl ⟨rfl, rfl⟩) aMi209 rfl hxx9_2 ?_
  refine go_ops aMi209 3 _ (f1 := (13, ([(3, .int x9_2), (2, .int ((5 : Int32) * i1)), (0, .ref a0), (1, .int i1)], [.int (4 : Int32), .int x9_2]))) rfl ?_
  refine gg_br (b := decide (¬ x9_2 = (4 : Int32))) (tg := 36) (off := 23) aMi209 rfl rfl rfl rfl (fun hb => ?_) (fun hb => ?_)
  · rw [if_pos (of_decide_eq_true hb)] at h
    refine go_ops aMi209 2 _ (f1 := (38, ([(3, .int x9_2), (2, .int ((5 : Int32) * i1)), (0, .ref a0), (1, .int i1)], [.int (2 : Int32), .int x9_2]))) rfl ?_
    refine gg_br (b := decide (x9_2 = (2 : Int32))) (tg := 53) (off := 15) aMi209 rfl rfl rfl rfl (fun hb => ?_) (fun hb => ?_)
    · rw [if_pos (of_decide_eq_true hb)] at h
      refine go_le (lv1 := [(0, .ref a0), (1, .int i1), (2, .int ((5 : Int32) * i1)), (3, .int x9_2)]) (aLe_of (show (List.map (fun q => q.1) ([(0, .ref a0), (1, .int i1), (2, .int ((5 : Int32) * i1)), (3, .int x9_2)] : ALv)).Nodup from (by show ([0, 1, 2, 3] : List Nat).Nodup; decide)) (aSubL_cons rfl (aSubL_cons rfl (aSubL_cons rfl (aSubL_cons rfl aSubL_nil))))) ?_
      exact Tf209_b53 hd a0 i1 ((5 : Int32) * i1) x9_2 I _ h
    · rw [if_neg (of_decide_eq_false hb)] at h
      refine go_ops aMi209 2 _ (f1 := (43, ([(3, .int x9_2), (2, .int ((5 : Int32) * i1)), (0, .ref a0), (1, .int i1)], [.int (3 : Int32), .int x9_2]))) rfl ?_
      refine gg_br (b := decide (x9_2 = (3 : Int32))) (tg := 53) (off := 10) aMi209 rfl rfl rfl rfl (fun hb => ?_) (fun hb => ?_)
      · rw [if_pos (of_decide_eq_true hb)] at h
        refine go_le (lv1 := [(0, .ref a0), (1, .int i1), (2, .int ((5 : Int32) * i1)), (3, .int x9_2)]) (aLe_of (show (List.map (fun q => q.1) ([(0, .ref a0), (1, .int i1), (2, .int ((5 : Int32) * i1)), (3, .int x9_2)] : ALv)).Nodup from (by show ([0, 1, 2, 3] : List Nat).Nodup; decide)) (aSubL_cons rfl (aSubL_cons rfl (aSubL_cons rfl (aSubL_cons rfl aSubL_nil))))) ?_
        exact Tf209_b53 hd a0 i1 ((5 : Int32) * i1) x9_2 I _ h
      · rw [if_neg (of_decide_eq_false hb)] at h
        refine go_ops aMi209 2 _ (f1 := (48, ([(3, .int x9_2), (2, .int ((5 : Int32) * i1)), (0, .ref a0), (1, .int i1)], [.int (5 : Int32), .int x9_2]))) rfl ?_
        refine gg_br (b := decide (x9_2 = (5 : Int32))) (tg := 53) (off := 5) aMi209 rfl rfl rfl rfl (fun hb => ?_) (fun hb => ?_)
        · rw [if_pos (of_decide_eq_true hb)] at h
          refine go_le (lv1 := [(0, .ref a0), (1, .int i1), (2, .int ((5 : Int32) * i1)), (3, .int x9_2)]) (aLe_of (show (List.map (fun q => q.1) ([(0, .ref a0), (1, .int i1), (2, .int ((5 : Int32) * i1)), (3, .int x9_2)] : ALv)).Nodup from (by show ([0, 1, 2, 3] : List Nat).Nodup; decide)) (aSubL_cons rfl (aSubL_cons rfl (aSubL_cons rfl (aSubL_cons rfl aSubL_nil))))) ?_
          exact Tf209_b53 hd a0 i1 ((5 : Int32) * i1) x9_2 I _ h
        · rw [if_neg (of_decide_eq_false hb)] at h
          refine go_ops aMi209 1 _ (f1 := (52, ([(3, .int x9_2), (2, .int ((5 : Int32) * i1)), (0, .ref a0), (1, .int i1)], [.int (0 : Int32)]))) rfl ?_
          cases h
          exact go_ret aMi209 rfl aRetI ⟨rfl, rfl⟩
  · rw [if_neg (of_decide_eq_false hb)] at h
    refine go_ops aMi209 1 _ (f1 := (17, ([(3, .int x9_2), (2, .int ((5 : Int32) * i1)), (0, .ref a0), (1, .int i1)], [.ref a0]))) rfl ?_
    obtain ⟨b17_3, hxb17_3, h⟩ := Option.bind_eq_some_iff.mp h
    refine gg_gR aMi209 rfl rfl rfl hxb17_3 ?_
    refine go_ops aMi209 1 _ (f1 := (21, ([(3, .int x9_2), (2, .int ((5 : Int32) * i1)), (0, .ref a0), (1, .int i1)], [.ref a0, .ref b17_3]))) rfl ?_
    obtain ⟨x21_4, hxx21_4, h⟩ := Option.bind_eq_some_iff.mp h
    refine gg_gI aMi209 rfl rfl rfl hxx21_4 ?_
    refine go_ops aMi209 1 _ (f1 := (25, ([(3, .int x9_2), (2, .int ((5 : Int32) * i1)), (0, .ref a0), (1, .int i1)], [.int x21_4, .ref b17_3, .int x21_4, .ref b17_3]))) rfl ?_
    obtain ⟨x25_5, hxx25_5, h⟩ := Option.bind_eq_some_iff.mp h
    refine gg_lI (Or.inl ⟨rfl, rfl⟩) aMi209 rfl hxx25_5 ?_
    refine go_ops aMi209 1 _ (f1 := (27, ([(3, .int x9_2), (2, .int ((5 : Int32) * i1)), (0, .ref a0), (1, .int i1)], [.ref a0, .int x25_5, .int x21_4, .ref b17_3]))) rfl ?_
    obtain ⟨b27_6, hxb27_6, h⟩ := Option.bind_eq_some_iff.mp h
    refine gg_gR aMi209 rfl rfl rfl hxb27_6 ?_
    refine go_ops aMi209 1 _ (f1 := (31, ([(3, .int x9_2), (2, .int ((5 : Int32) * i1)), (0, .ref a0), (1, .int i1)], [.int ((5 : Int32) * i1), .ref b27_6, .int x25_5, .int x21_4, .ref b17_3]))) rfl ?_
    obtain ⟨x31_7, hxx31_7, h⟩ := Option.bind_eq_some_iff.mp h
    refine gg_lI (Or.inl ⟨rfl, rfl⟩) aMi209 rfl hxx31_7 ?_
    refine go_ops aMi209 1 _ (f1 := (33, ([(3, .int x9_2), (2, .int ((5 : Int32) * i1)), (0, .ref a0), (1, .int i1)], [.int (x25_5 + x31_7), .int x21_4, .ref b17_3]))) rfl ?_
    obtain ⟨I33_8, hxI33_8, h⟩ := Option.bind_eq_some_iff.mp h
    refine gg_sI (Or.inl ⟨rfl, rfl⟩) aMi209 rfl hxI33_8 ?_
    refine go_ops aMi209 1 _ (f1 := (35, ([(3, .int x9_2), (2, .int ((5 : Int32) * i1)), (0, .ref a0), (1, .int i1)], [.int (0 : Int32)]))) rfl ?_
    cases h
    exact go_ret aMi209 rfl aRetI ⟨rfl, rfl⟩
