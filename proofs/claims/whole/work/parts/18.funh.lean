-- KernelGymModel.clear ()I
def f187 (kad : Nat → Nat) (N : Nat) (Z : AZ) (a0 : Nat) (I : AI) : Option (Int32 × AI) :=
  (wI I a0 0 (0 : Int32)).bind fun I2_1 =>
  (wI I2_1 a0 1 (0 : Int32)).bind fun I12_2 =>
  some ((I2_1 a0 1), I12_2)
set_option maxRecDepth 20000 in
theorem Tf187 {kad : Nat → Nat} {N : Nat} {Z : AZ} {d : Nat} {t : Option Nat × (Nat × Nat)} (hd : 0 ≤ d) : ∀ (a0 : Nat) (ha0 : sh11 kad Z a0) (I : AI) (r : Int32 × AI), f187 kad N Z a0 I = some r → aGo kad d 187 (0, ([(0, .ref a0)], [])) (aMem Z I, t) (qI Z t r) := by
  intro a0 ha0 I r h
  unfold f187 at h
  refine go_ops aMi187 2 _ (f1 := (2, ([(0, .ref a0)], [.int (0 : Int32), .ref a0]))) rfl ?_
  obtain ⟨I2_1, hxI2_1, h⟩ := Option.bind_eq_some_iff.mp h
  refine gg_pI aMi187 rfl rfl rfl rfl (by decide) (pI_of (sh11_z ha0) hxI2_1) ?_
  refine go_ops aMi187 1 _ (f1 := (6, ([(0, .ref a0)], [.ref a0]))) rfl ?_
  refine gg_gI aMi187 rfl rfl rfl (gI_of (sh11_z ha0)) ?_
  refine go_ops aMi187 3 _ (f1 := (12, ([(1, .int (I2_1 a0 1)), (0, .ref a0)], [.int (0 : Int32), .ref a0]))) rfl ?_
  obtain ⟨I12_2, hxI12_2, h⟩ := Option.bind_eq_some_iff.mp h
  refine gg_pI aMi187 rfl rfl rfl rfl (by decide) (pI_of (sh11_z ha0) hxI12_2) ?_
  refine go_ops aMi187 1 _ (f1 := (16, ([(1, .int (I2_1 a0 1)), (0, .ref a0)], [.int (I2_1 a0 1)]))) rfl ?_
  cases h
  exact go_ret aMi187 rfl aRetI ⟨rfl, rfl⟩
-- KernelGymModel.lines ()I
def f188 (kad : Nat → Nat) (N : Nat) (Z : AZ) (a0 : Nat) (I : AI) : Option (Int32 × AI) :=
  (wI I a0 0 (0 : Int32)).bind fun I2_1 =>
  some ((I2_1 a0 1), I2_1)
set_option maxRecDepth 20000 in
theorem Tf188 {kad : Nat → Nat} {N : Nat} {Z : AZ} {d : Nat} {t : Option Nat × (Nat × Nat)} (hd : 0 ≤ d) : ∀ (a0 : Nat) (ha0 : sh11 kad Z a0) (I : AI) (r : Int32 × AI), f188 kad N Z a0 I = some r → aGo kad d 188 (0, ([(0, .ref a0)], [])) (aMem Z I, t) (qI Z t r) := by
  intro a0 ha0 I r h
  unfold f188 at h
  refine go_ops aMi188 2 _ (f1 := (2, ([(0, .ref a0)], [.int (0 : Int32), .ref a0]))) rfl ?_
  obtain ⟨I2_1, hxI2_1, h⟩ := Option.bind_eq_some_iff.mp h
  refine gg_pI aMi188 rfl rfl rfl rfl (by decide) (pI_of (sh11_z ha0) hxI2_1) ?_
  refine go_ops aMi188 1 _ (f1 := (6, ([(0, .ref a0)], [.ref a0]))) rfl ?_
  refine gg_gI aMi188 rfl rfl rfl (gI_of (sh11_z ha0)) ?_
  cases h
  exact go_ret aMi188 rfl aRetI ⟨rfl, rfl⟩
-- KernelGymModel.isOperand (II)Z
def f189_b34 (kad : Nat → Nat) (N : Nat) (Z : AZ) (s0 : Int32) (I : AI) : Option (Int32 × AI) :=
  if s0 = 0 ∨ s0 = 1 then some (s0, I) else none
set_option maxRecDepth 20000 in
theorem Tf189_b34 {kad : Nat → Nat} {N : Nat} {Z : AZ} {d : Nat} {t : Option Nat × (Nat × Nat)} (hd : 1 ≤ d) : ∀ (s0 : Int32) (I : AI) (r : Int32 × AI), f189_b34 kad N Z s0 I = some r → aGo kad d 189 (34, ([], [.int s0])) (aMem Z I, t) (qI Z t r) := by
  intro s0 I r h
  unfold f189_b34 at h
  split at h
  · rename_i hz
    cases h
    exact go_ret aMi189 rfl (aRetZ hz) ⟨rfl, rfl⟩
  · cases h
def f189_b33 (kad : Nat → Nat) (N : Nat) (Z : AZ)  (I : AI) : Option (Int32 × AI) :=
  f189_b34 kad N Z (0 : Int32) I
set_option maxRecDepth 20000 in
theorem Tf189_b33 {kad : Nat → Nat} {N : Nat} {Z : AZ} {d : Nat} {t : Option Nat × (Nat × Nat)} (hd : 1 ≤ d) : ∀  (I : AI) (r : Int32 × AI), f189_b33 kad N Z  I = some r → aGo kad d 189 (33, ([], [])) (aMem Z I, t) (qI Z t r) := by
  intro  I r h
  unfold f189_b33 at h
  refine go_ops aMi189 1 _ (f1 := (34, ([], [.int (0 : Int32)]))) rfl ?_
  exact Tf189_b34 hd (0 : Int32) I _ h
def f189_b23 (kad : Nat → Nat) (N : Nat) (Z : AZ) (s0 : Int32) (s1 : Int32) (s2 : Int32) (I : AI) : Option (Int32 × AI) :=
  (f186 kad N Z s2 s1 s0 I).bind fun r23_1 =>
  if r23_1.1 = 0 then
    f189_b33 kad N Z  r23_1.2
  else
    f189_b34 kad N Z (1 : Int32) r23_1.2
set_option maxRecDepth 20000 in
theorem Tf189_b23 {kad : Nat → Nat} {N : Nat} {Z : AZ} {d : Nat} {t : Option Nat × (Nat × Nat)} (hd : 1 ≤ d) : ∀ (s0 : Int32) (s1 : Int32) (s2 : Int32) (I : AI) (r : Int32 × AI), f189_b23 kad N Z s0 s1 s2 I = some r → aGo kad d 189 (23, ([], [.int s0, .int s1, .int s2])) (aMem Z I, t) (qI Z t r) := by
  intro s0 s1 s2 I r h
  unfold f189_b23 at h
  obtain ⟨r23_1, hxr23_1, h⟩ := Option.bind_eq_some_iff.mp h
  refine gg_cs (as := [.int s2, .int s1, .int s0]) (r := []) aMi189 rfl rfl rfl aMi186 rfl (Nat.le_of_ble_eq_true rfl) (Nat.le_of_ble_eq_true rfl) (by omega) (Tf186 (by omega) s2 s1 s0 I _ hxr23_1) ?_
  show aGo kad d 189 (26, ([], [.int r23_1.1])) (aMem Z r23_1.2, t) _
  refine gg_br (b := decide (r23_1.1 = 0)) (tg := 33) (off := 7) aMi189 rfl rfl rfl rfl (fun hb => ?_) (fun hb => ?_)
  · rw [if_pos (of_decide_eq_true hb)] at h
    exact Tf189_b33 hd  r23_1.2 _ h
  · rw [if_neg (of_decide_eq_false hb)] at h
    refine go_ops aMi189 2 _ (f1 := (34, ([], [.int (1 : Int32)]))) rfl ?_
    exact Tf189_b34 hd (1 : Int32) r23_1.2 _ h
def f189 (kad : Nat → Nat) (N : Nat) (Z : AZ) (i0 : Int32) (i1 : Int32) (I : AI) : Option (Int32 × AI) :=
  (f186 kad N Z i0 (0 : Int32) (3 : Int32) I).bind fun r3_1 =>
  if r3_1.1 = 0 then
    f189_b33 kad N Z  r3_1.2
  else
    if ¬ i0 = (1 : Int32) then
      f189_b23 kad N Z (65535 : Int32) (0 : Int32) i1 r3_1.2
    else
      f189_b23 kad N Z (19 : Int32) (0 : Int32) i1 r3_1.2
set_option maxRecDepth 20000 in
theorem Tf189 {kad : Nat → Nat} {N : Nat} {Z : AZ} {d : Nat} {t : Option Nat × (Nat × Nat)} (hd : 1 ≤ d) : ∀ (i0 : Int32) (i1 : Int32) (I : AI) (r : Int32 × AI), f189 kad N Z i0 i1 I = some r → aGo kad d 189 (0, ([(0, .int i0), (1, .int i1)], [])) (aMem Z I, t) (qI Z t r) := by
  intro i0 i1 I r h
  unfold f189 at h
  refine go_ops aMi189 3 _ (f1 := (3, ([(0, .int i0), (1, .int i1)], [.int (3 : Int32), .int (0 : Int32), .int i0]))) rfl ?_
  obtain ⟨r3_1, hxr3_1, h⟩ := Option.bind_eq_some_iff.mp h
  refine gg_cs (as := [.int i0, .int (0 : Int32), .int (3 : Int32)]) (r := []) aMi189 rfl rfl rfl aMi186 rfl (Nat.le_of_ble_eq_true rfl) (Nat.le_of_ble_eq_true rfl) (by omega) (Tf186 (by omega) i0 (0 : Int32) (3 : Int32) I _ hxr3_1) ?_
  show aGo kad d 189 (6, ([(0, .int i0), (1, .int i1)], [.int r3_1.1])) (aMem Z r3_1.2, t) _
  refine gg_br (b := decide (r3_1.1 = 0)) (tg := 33) (off := 27) aMi189 rfl rfl rfl rfl (fun hb => ?_) (fun hb => ?_)
  · rw [if_pos (of_decide_eq_true hb)] at h
    refine go_le (lv1 := []) (aLe_of (show (List.map (fun q => q.1) ([] : ALv)).Nodup from (by show ([] : List Nat).Nodup; decide)) aSubL_nil) ?_
    exact Tf189_b33 hd  r3_1.2 _ h
  · rw [if_neg (of_decide_eq_false hb)] at h
    refine go_ops aMi189 4 _ (f1 := (13, ([(0, .int i0), (1, .int i1)], [.int (1 : Int32), .int i0, .int (0 : Int32), .int i1]))) rfl ?_
    refine gg_br (b := decide (¬ i0 = (1 : Int32))) (tg := 21) (off := 8) aMi189 rfl rfl rfl rfl (fun hb => ?_) (fun hb => ?_)
    · rw [if_pos (of_decide_eq_true hb)] at h
      refine gg_kI (Or.inl ⟨rfl, rfl⟩) aMi189 rfl rfl ?_
      refine go_le (lv1 := []) (aLe_of (show (List.map (fun q => q.1) ([] : ALv)).Nodup from (by show ([] : List Nat).Nodup; decide)) aSubL_nil) ?_
      exact Tf189_b23 hd (65535 : Int32) (0 : Int32) i1 r3_1.2 _ h
    · rw [if_neg (of_decide_eq_false hb)] at h
      refine go_ops aMi189 2 _ (f1 := (23, ([(0, .int i0), (1, .int i1)], [.int (19 : Int32), .int (0 : Int32), .int i1]))) rfl ?_
      refine go_le (lv1 := []) (aLe_of (show (List.map (fun q => q.1) ([] : ALv)).Nodup from (by show ([] : List Nat).Nodup; decide)) aSubL_nil) ?_
      exact Tf189_b23 hd (19 : Int32) (0 : Int32) i1 r3_1.2 _ h
-- KernelGymModel.adds (ZIIIIII)I
def f190_b23 (kad : Nat → Nat) (N : Nat) (Z : AZ) (a0 : Nat) (i2 : Int32) (i3 : Int32) (i4 : Int32) (i5 : Int32) (i6 : Int32) (i7 : Int32) (s0 : Int32) (I : AI) : Option (Int32 × AI) :=
  (f185 kad N Z a0 s0 I).bind fun r23_1 =>
  if ¬ r23_1.1 = 0 then
    (ixA 100 ((r23_1.2) a0 1)).bind fun j40_3 =>
    (wI r23_1.2 (a0 + 1) j40_3 i2).bind fun I40_2 =>
    (ixA 500 ((5 : Int32) * (I40_2 a0 1))).bind fun j52_5 =>
    (wI I40_2 (a0 + 2) j52_5 i3).bind fun I52_4 =>
    (ixA 500 (((5 : Int32) * (I52_4 a0 1)) + (1 : Int32))).bind fun j67_7 =>
    (wI I52_4 (a0 + 2) j67_7 i4).bind fun I67_6 =>
    (ixA 500 (((5 : Int32) * (I67_6 a0 1)) + (2 : Int32))).bind fun j82_9 =>
    (wI I67_6 (a0 + 2) j82_9 i5).bind fun I82_8 =>
    (ixA 500 (((5 : Int32) * (I82_8 a0 1)) + (3 : Int32))).bind fun j97_11 =>
    (wI I82_8 (a0 + 2) j97_11 i6).bind fun I97_10 =>
    (ixA 500 (((5 : Int32) * (I97_10 a0 1)) + (4 : Int32))).bind fun j112_13 =>
    (wI I97_10 (a0 + 2) j112_13 i7).bind fun I112_12 =>
    (wI I112_12 a0 1 ((I112_12 a0 1) + (1 : Int32))).bind fun I120_14 =>
    some ((I120_14 a0 1), I120_14)
  else
    some ((0 : Int32), r23_1.2)
set_option maxRecDepth 20000 in
theorem Tf190_b23 {kad : Nat → Nat} {N : Nat} {Z : AZ} {d : Nat} {t : Option Nat × (Nat × Nat)} (hd : 1 ≤ d) : ∀ (a0 : Nat) (ha0 : sh11 kad Z a0) (i2 : Int32) (i3 : Int32) (i4 : Int32) (i5 : Int32) (i6 : Int32) (i7 : Int32) (s0 : Int32) (I : AI) (r : Int32 × AI), f190_b23 kad N Z a0 i2 i3 i4 i5 i6 i7 s0 I = some r → aGo kad d 190 (23, ([(0, .ref a0), (2, .int i2), (3, .int i3), (4, .int i4), (5, .int i5), (6, .int i6), (7, .int i7)], [.int s0, .ref a0])) (aMem Z I, t) (qI Z t r) := by
  intro a0 ha0 i2 i3 i4 i5 i6 i7 s0 I r h
  unfold f190_b23 at h
  obtain ⟨r23_1, hxr23_1, h⟩ := Option.bind_eq_some_iff.mp h
  refine gg_cv (as := [.int s0]) (r := []) aMi190 rfl rfl rfl aMi185 (Nat.le_of_ble_eq_true rfl) rfl (Nat.le_of_ble_eq_true rfl) (Nat.le_of_ble_eq_true rfl) (by omega) (isK_of (sh11_z ha0)) (Tf185 (by omega) a0 ha0 s0 I _ hxr23_1) ?_
  show aGo kad d 190 (26, ([(0, .ref a0), (2, .int i2), (3, .int i3), (4, .int i4), (5, .int i5), (6, .int i6), (7, .int i7)], [.int r23_1.1])) (aMem Z r23_1.2, t) _
  refine gg_br (b := decide (¬ r23_1.1 = 0)) (tg := 31) (off := 5) aMi190 rfl rfl rfl rfl (fun hb => ?_) (fun hb => ?_)
  · rw [if_pos (of_decide_eq_true hb)] at h
    refine go_ops aMi190 1 _ (f1 := (32, ([(0, .ref a0), (2, .int i2), (3, .int i3), (4, .int i4), (5, .int i5), (6, .int i6), (7, .int i7)], [.ref a0]))) rfl ?_
    refine gg_gR (b := (a0 + 1)) aMi190 rfl rfl rfl (gR_of (sh11_z ha0) (sh11_r2 ha0)) ?_
    refine go_ops aMi190 1 _ (f1 := (36, ([(0, .ref a0), (2, .int i2), (3, .int i3), (4, .int i4), (5, .int i5), (6, .int i6), (7, .int i7)], [.ref a0, .ref (a0 + 1)]))) rfl ?_
    refine gg_gI aMi190 rfl rfl rfl (gI_of (sh11_z ha0)) ?_
    refine go_ops aMi190 1 _ (f1 := (40, ([(0, .ref a0), (2, .int i2), (3, .int i3), (4, .int i4), (5, .int i5), (6, .int i6), (7, .int i7)], [.int i2, .int ((r23_1.2) a0 1), .ref (a0 + 1)]))) rfl ?_
    obtain ⟨j40_3, hxj40_3, h⟩ := Option.bind_eq_some_iff.mp h
    obtain ⟨I40_2, hxI40_2, h⟩ := Option.bind_eq_some_iff.mp h
    refine gg_sI (Or.inl ⟨rfl, rfl⟩) aMi190 rfl (sI_of (sh11_a2 ha0) hxj40_3 hxI40_2) ?_
    refine go_ops aMi190 1 _ (f1 := (42, ([(0, .ref a0), (2, .int i2), (3, .int i3), (4, .int i4), (5, .int i5), (6, .int i6), (7, .int i7)], [.ref a0]))) rfl ?_
    refine gg_gR (b := (a0 + 2)) aMi190 rfl rfl rfl (gR_of (sh11_z ha0) (sh11_r3 ha0)) ?_
    refine go_ops aMi190 2 _ (f1 := (47, ([(0, .ref a0), (2, .int i2), (3, .int i3), (4, .int i4), (5, .int i5), (6, .int i6), (7, .int i7)], [.ref a0, .int (5 : Int32), .ref (a0 + 2)]))) rfl ?_
    refine gg_gI aMi190 rfl rfl rfl (gI_of (sh11_z ha0)) ?_
    refine go_ops aMi190 2 _ (f1 := (52, ([(0, .ref a0), (2, .int i2), (3, .int i3), (4, .int i4), (5, .int i5), (6, .int i6), (7, .int i7)], [.int i3, .int ((5 : Int32) * (I40_2 a0 1)), .ref (a0 + 2)]))) rfl ?_
    obtain ⟨j52_5, hxj52_5, h⟩ := Option.bind_eq_some_iff.mp h
    obtain ⟨I52_4, hxI52_4, h⟩ := Option.bind_eq_some_iff.mp h
    refine gg_sI (Or.inl ⟨rfl, rfl⟩) aMi190 rfl (sI_of (sh11_a3 ha0) hxj52_5 hxI52_4) ?_
    refine go_ops aMi190 1 _ (f1 := (54, ([(0, .ref a0), (2, .int i2), (3, .int i3), (4, .int i4), (5, .int i5), (6, .int i6), (7, .int i7)], [.ref a0]))) rfl ?_
    refine gg_gR (b := (a0 + 2)) aMi190 rfl rfl rfl (gR_of (sh11_z ha0) (sh11_r3 ha0)) ?_
    refine go_ops aMi190 2 _ (f1 := (59, ([(0, .ref a0), (2, .int i2), (3, .int i3), (4, .int i4), (5, .int i5), (6, .int i6), (7, .int i7)], [.ref a0, .int (5 : Int32), .ref (a0 + 2)]))) rfl ?_
    refine gg_gI aMi190 rfl rfl rfl (gI_of (sh11_z ha0)) ?_
    refine go_ops aMi190 4 _ (f1 := (67, ([(0, .ref a0), (2, .int i2), (3, .int i3), (4, .int i4), (5, .int i5), (6, .int i6), (7, .int i7)], [.int i4, .int (((5 : Int32) * (I52_4 a0 1)) + (1 : Int32)), .ref (a0 + 2)]))) rfl ?_
    obtain ⟨j67_7, hxj67_7, h⟩ := Option.bind_eq_some_iff.mp h
    obtain ⟨I67_6, hxI67_6, h⟩ := Option.bind_eq_some_iff.mp h
    refine gg_sI (Or.inl ⟨rfl, rfl⟩) aMi190 rfl (sI_of (sh11_a3 ha0) hxj67_7 hxI67_6) ?_
    refine go_ops aMi190 1 _ (f1 := (69, ([(0, .ref a0), (2, .int i2), (3, .int i3), (4, .int i4), (5, .int i5), (6, .int i6), (7, .int i7)], [.ref a0]))) rfl ?_
    refine gg_gR (b := (a0 + 2)) aMi190 rfl rfl rfl (gR_of (sh11_z ha0) (sh11_r3 ha0)) ?_
    refine go_ops aMi190 2 _ (f1 := (74, ([(0, .ref a0), (2, .int i2), (3, .int i3), (4, .int i4), (5, .int i5), (6, .int i6), (7, .int i7)], [.ref a0, .int (5 : Int32), .ref (a0 + 2)]))) rfl ?_
    refine gg_gI aMi190 rfl rfl rfl (gI_of (sh11_z ha0)) ?_
    refine go_ops aMi190 4 _ (f1 := (82, ([(0, .ref a0), (2, .int i2), (3, .int i3), (4, .int i4), (5, .int i5), (6, .int i6), (7, .int i7)], [.int i5, .int (((5 : Int32) * (I67_6 a0 1)) + (2 : Int32)), .ref (a0 + 2)]))) rfl ?_
    obtain ⟨j82_9, hxj82_9, h⟩ := Option.bind_eq_some_iff.mp h
    obtain ⟨I82_8, hxI82_8, h⟩ := Option.bind_eq_some_iff.mp h
    refine gg_sI (Or.inl ⟨rfl, rfl⟩) aMi190 rfl (sI_of (sh11_a3 ha0) hxj82_9 hxI82_8) ?_
    refine go_ops aMi190 1 _ (f1 := (84, ([(0, .ref a0), (2, .int i2), (3, .int i3), (4, .int i4), (5, .int i5), (6, .int i6), (7, .int i7)], [.ref a0]))) rfl ?_
    refine gg_gR (b := (a0 + 2)) aMi190 rfl rfl rfl (gR_of (sh11_z ha0) (sh11_r3 ha0)) ?_
    refine go_ops aMi190 2 _ (f1 := (89, ([(0, .ref a0), (2, .int i2), (3, .int i3), (4, .int i4), (5, .int i5), (6, .int i6), (7, .int i7)], [.ref a0, .int (5 : Int32), .ref (a0 + 2)]))) rfl ?_
    refine gg_gI aMi190 rfl rfl rfl (gI_of (sh11_z ha0)) ?_
    refine go_ops aMi190 4 _ (f1 := (97, ([(0, .ref a0), (2, .int i2), (3, .int i3), (4, .int i4), (5, .int i5), (6, .int i6), (7, .int i7)], [.int i6, .int (((5 : Int32) * (I82_8 a0 1)) + (3 : Int32)), .ref (a0 + 2)]))) rfl ?_
    obtain ⟨j97_11, hxj97_11, h⟩ := Option.bind_eq_some_iff.mp h
    obtain ⟨I97_10, hxI97_10, h⟩ := Option.bind_eq_some_iff.mp h
    refine gg_sI (Or.inl ⟨rfl, rfl⟩) aMi190 rfl (sI_of (sh11_a3 ha0) hxj97_11 hxI97_10) ?_
    refine go_ops aMi190 1 _ (f1 := (99, ([(0, .ref a0), (2, .int i2), (3, .int i3), (4, .int i4), (5, .int i5), (6, .int i6), (7, .int i7)], [.ref a0]))) rfl ?_
    refine gg_gR (b := (a0 + 2)) aMi190 rfl rfl rfl (gR_of (sh11_z ha0) (sh11_r3 ha0)) ?_
    refine go_ops aMi190 2 _ (f1 := (104, ([(0, .ref a0), (2, .int i2), (3, .int i3), (4, .int i4), (5, .int i5), (6, .int i6), (7, .int i7)], [.ref a0, .int (5 : Int32), .ref (a0 + 2)]))) rfl ?_
    refine gg_gI aMi190 rfl rfl rfl (gI_of (sh11_z ha0)) ?_
    refine go_ops aMi190 4 _ (f1 := (112, ([(0, .ref a0), (2, .int i2), (3, .int i3), (4, .int i4), (5, .int i5), (6, .int i6), (7, .int i7)], [.int i7, .int (((5 : Int32) * (I97_10 a0 1)) + (4 : Int32)), .ref (a0 + 2)]))) rfl ?_
    obtain ⟨j112_13, hxj112_13, h⟩ := Option.bind_eq_some_iff.mp h
    obtain ⟨I112_12, hxI112_12, h⟩ := Option.bind_eq_some_iff.mp h
    refine gg_sI (Or.inl ⟨rfl, rfl⟩) aMi190 rfl (sI_of (sh11_a3 ha0) hxj112_13 hxI112_12) ?_
    refine go_ops aMi190 2 _ (f1 := (115, ([(0, .ref a0), (2, .int i2), (3, .int i3), (4, .int i4), (5, .int i5), (6, .int i6), (7, .int i7)], [.ref a0, .ref a0]))) rfl ?_
    refine gg_gI aMi190 rfl rfl rfl (gI_of (sh11_z ha0)) ?_
    refine go_ops aMi190 2 _ (f1 := (120, ([(0, .ref a0), (2, .int i2), (3, .int i3), (4, .int i4), (5, .int i5), (6, .int i6), (7, .int i7)], [.int ((I112_12 a0 1) + (1 : Int32)), .ref a0]))) rfl ?_
    obtain ⟨I120_14, hxI120_14, h⟩ := Option.bind_eq_some_iff.mp h
    refine gg_pI aMi190 rfl rfl rfl rfl (by decide) (pI_of (sh11_z ha0) hxI120_14) ?_
    refine go_ops aMi190 1 _ (f1 := (124, ([(0, .ref a0), (2, .int i2), (3, .int i3), (4, .int i4), (5, .int i5), (6, .int i6), (7, .int i7)], [.ref a0]))) rfl ?_
    refine gg_gI aMi190 rfl rfl rfl (gI_of (sh11_z ha0)) ?_
    cases h
    exact go_ret aMi190 rfl aRetI ⟨rfl, rfl⟩
  · rw [if_neg (of_decide_eq_false hb)] at h
    refine go_ops aMi190 1 _ (f1 := (30, ([(0, .ref a0), (2, .int i2), (3, .int i3), (4, .int i4), (5, .int i5), (6, .int i6), (7, .int i7)], [.int (0 : Int32)]))) rfl ?_
    cases h
    exact go_ret aMi190 rfl aRetI ⟨rfl, rfl⟩
def f190 (kad : Nat → Nat) (N : Nat) (Z : AZ) (a0 : Nat) (i1 : Int32) (i2 : Int32) (i3 : Int32) (i4 : Int32) (i5 : Int32) (i6 : Int32) (i7 : Int32) (I : AI) : Option (Int32 × AI) :=
  if ¬ i1 = 0 then
    if ¬ (I a0 1) = (100 : Int32) then
      f190_b23 kad N Z a0 i2 i3 i4 i5 i6 i7 (0 : Int32) I
    else
      f190_b23 kad N Z a0 i2 i3 i4 i5 i6 i7 (2 : Int32) I
  else
    f190_b23 kad N Z a0 i2 i3 i4 i5 i6 i7 (1 : Int32) I
set_option maxRecDepth 20000 in
theorem Tf190 {kad : Nat → Nat} {N : Nat} {Z : AZ} {d : Nat} {t : Option Nat × (Nat × Nat)} (hd : 1 ≤ d) : ∀ (a0 : Nat) (ha0 : sh11 kad Z a0) (i1 : Int32) (i2 : Int32) (i3 : Int32) (i4 : Int32) (i5 : Int32) (i6 : Int32) (i7 : Int32) (I : AI) (r : Int32 × AI), f190 kad N Z a0 i1 i2 i3 i4 i5 i6 i7 I = some r → aGo kad d 190 (0, ([(0, .ref a0), (1, .int i1), (2, .int i2), (3, .int i3), (4, .int i4), (5, .int i5), (6, .int i6), (7, .int i7)], [])) (aMem Z I, t) (qI Z t r) := by
  intro a0 ha0 i1 i2 i3 i4 i5 i6 i7 I r h
  unfold f190 at h
  refine go_ops aMi190 2 _ (f1 := (2, ([(0, .ref a0), (1, .int i1), (2, .int i2), (3, .int i3), (4, .int i4), (5, .int i5), (6, .int i6), (7, .int i7)], [.int i1, .ref a0]))) rfl ?_
  refine gg_br (b := decide (¬ i1 = 0)) (tg := 9) (off := 7) aMi190 rfl rfl rfl rfl (fun hb => ?_) (fun hb => ?_)
  · rw [if_pos (of_decide_eq_true hb)] at h
    refine go_ops aMi190 1 _ (f1 := (10, ([(0, .ref a0), (1, .int i1), (2, .int i2), (3, .int i3), (4, .int i4), (5, .int i5), (6, .int i6), (7, .int i7)], [.ref a0, .ref a0]))) rfl ?_
    refine gg_gI aMi190 rfl rfl rfl (gI_of (sh11_z ha0)) ?_
    refine go_ops aMi190 1 _ (f1 := (15, ([(0, .ref a0), (1, .int i1), (2, .int i2), (3, .int i3), (4, .int i4), (5, .int i5), (6, .int i6), (7, .int i7)], [.int (100 : Int32), .int (I a0 1), .ref a0]))) rfl ?_
    refine gg_br (b := decide (¬ (I a0 1) = (100 : Int32))) (tg := 22) (off := 7) aMi190 rfl rfl rfl rfl (fun hb => ?_) (fun hb => ?_)
    · rw [if_pos (of_decide_eq_true hb)] at h
      refine go_ops aMi190 1 _ (f1 := (23, ([(0, .ref a0), (1, .int i1), (2, .int i2), (3, .int i3), (4, .int i4), (5, .int i5), (6, .int i6), (7, .int i7)], [.int (0 : Int32), .ref a0]))) rfl ?_
      refine go_le (lv1 := [(0, .ref a0), (2, .int i2), (3, .int i3), (4, .int i4), (5, .int i5), (6, .int i6), (7, .int i7)]) (aLe_of (show (List.map (fun q => q.1) ([(0, .ref a0), (2, .int i2), (3, .int i3), (4, .int i4), (5, .int i5), (6, .int i6), (7, .int i7)] : ALv)).Nodup from (by show ([0, 2, 3, 4, 5, 6, 7] : List Nat).Nodup; decide)) (aSubL_cons rfl (aSubL_cons rfl (aSubL_cons rfl (aSubL_cons rfl (aSubL_cons rfl (aSubL_cons rfl (aSubL_cons rfl aSubL_nil)))))))) ?_
      exact Tf190_b23 hd a0 ha0 i2 i3 i4 i5 i6 i7 (0 : Int32) I _ h
    · rw [if_neg (of_decide_eq_false hb)] at h
      refine go_ops aMi190 2 _ (f1 := (23, ([(0, .ref a0), (1, .int i1), (2, .int i2), (3, .int i3), (4, .int i4), (5, .int i5), (6, .int i6), (7, .int i7)], [.int (2 : Int32), .ref a0]))) rfl ?_
      refine go_le (lv1 := [(0, .ref a0), (2, .int i2), (3, .int i3), (4, .int i4), (5, .int i5), (6, .int i6), (7, .int i7)]) (aLe_of (show (List.map (fun q => q.1) ([(0, .ref a0), (2, .int i2), (3, .int i3), (4, .int i4), (5, .int i5), (6, .int i6), (7, .int i7)] : ALv)).Nodup from (by show ([0, 2, 3, 4, 5, 6, 7] : List Nat).Nodup; decide)) (aSubL_cons rfl (aSubL_cons rfl (aSubL_cons rfl (aSubL_cons rfl (aSubL_cons rfl (aSubL_cons rfl (aSubL_cons rfl aSubL_nil)))))))) ?_
      exact Tf190_b23 hd a0 ha0 i2 i3 i4 i5 i6 i7 (2 : Int32) I _ h
  · rw [if_neg (of_decide_eq_false hb)] at h
    refine go_ops aMi190 2 _ (f1 := (23, ([(0, .ref a0), (1, .int i1), (2, .int i2), (3, .int i3), (4, .int i4), (5, .int i5), (6, .int i6), (7, .int i7)], [.int (1 : Int32), .ref a0]))) rfl ?_
    refine go_le (lv1 := [(0, .ref a0), (2, .int i2), (3, .int i3), (4, .int i4), (5, .int i5), (6, .int i6), (7, .int i7)]) (aLe_of (show (List.map (fun q => q.1) ([(0, .ref a0), (2, .int i2), (3, .int i3), (4, .int i4), (5, .int i5), (6, .int i6), (7, .int i7)] : ALv)).Nodup from (by show ([0, 2, 3, 4, 5, 6, 7] : List Nat).Nodup; decide)) (aSubL_cons rfl (aSubL_cons rfl (aSubL_cons rfl (aSubL_cons rfl (aSubL_cons rfl (aSubL_cons rfl (aSubL_cons rfl aSubL_nil)))))))) ?_
    exact Tf190_b23 hd a0 ha0 i2 i3 i4 i5 i6 i7 (1 : Int32) I _ h
-- KernelGymModel.section (I)I
def f191 (kad : Nat → Nat) (N : Nat) (Z : AZ) (a0 : Nat) (i1 : Int32) (I : AI) : Option (Int32 × AI) :=
  (f186 kad N Z i1 (0 : Int32) (1 : Int32) I).bind fun r4_1 =>
  (f190 kad N Z a0 r4_1.1 (0 : Int32) i1 (0 : Int32) (0 : Int32) (0 : Int32) (0 : Int32) r4_1.2).bind fun r13_2 =>
  some (r13_2.1, r13_2.2)
set_option maxRecDepth 20000 in
theorem Tf191 {kad : Nat → Nat} {N : Nat} {Z : AZ} {d : Nat} {t : Option Nat × (Nat × Nat)} (hd : 2 ≤ d) : ∀ (a0 : Nat) (ha0 : sh11 kad Z a0) (i1 : Int32) (I : AI) (r : Int32 × AI), f191 kad N Z a0 i1 I = some r → aGo kad d 191 (0, ([(0, .ref a0), (1, .int i1)], [])) (aMem Z I, t) (qI Z t r) := by
  intro a0 ha0 i1 I r h
  unfold f191 at h
  refine go_ops aMi191 4 _ (f1 := (4, ([(0, .ref a0), (1, .int i1)], [.int (1 : Int32), .int (0 : Int32), .int i1, .ref a0]))) rfl ?_
  obtain ⟨r4_1, hxr4_1, h⟩ := Option.bind_eq_some_iff.mp h
  refine gg_cs (as := [.int i1, .int (0 : Int32), .int (1 : Int32)]) (r := [.ref a0]) aMi191 rfl rfl rfl aMi186 rfl (Nat.le_of_ble_eq_true rfl) (Nat.le_of_ble_eq_true rfl) (by omega) (Tf186 (by omega) i1 (0 : Int32) (1 : Int32) I _ hxr4_1) ?_
  show aGo kad d 191 (7, ([(0, .ref a0), (1, .int i1)], [.int r4_1.1, .ref a0])) (aMem Z r4_1.2, t) _
  refine go_ops aMi191 6 _ (f1 := (13, ([(0, .ref a0), (1, .int i1)], [.int (0 : Int32), .int (0 : Int32), .int (0 : Int32), .int (0 : Int32), .int i1, .int (0 : Int32), .int r4_1.1, .ref a0]))) rfl ?_
  obtain ⟨r13_2, hxr13_2, h⟩ := Option.bind_eq_some_iff.mp h
  refine gg_cv (as := [.int r4_1.1, .int (0 : Int32), .int i1, .int (0 : Int32), .int (0 : Int32), .int (0 : Int32), .int (0 : Int32)]) (r := []) aMi191 rfl rfl rfl aMi190 (Nat.le_of_ble_eq_true rfl) rfl (Nat.le_of_ble_eq_true rfl) (Nat.le_of_ble_eq_true rfl) (by omega) (isK_of (sh11_z ha0)) (Tf190 (by omega) a0 ha0 r4_1.1 (0 : Int32) i1 (0 : Int32) (0 : Int32) (0 : Int32) (0 : Int32) r4_1.2 _ hxr13_2) ?_
  show aGo kad d 191 (16, ([(0, .ref a0), (1, .int i1)], [.int r13_2.1])) (aMem Z r13_2.2, t) _
  cases h
  exact go_ret aMi191 rfl aRetI ⟨rfl, rfl⟩
-- KernelGymModel.label (I)I
def f192 (kad : Nat → Nat) (N : Nat) (Z : AZ) (a0 : Nat) (i1 : Int32) (I : AI) : Option (Int32 × AI) :=
  (f186 kad N Z i1 (0 : Int32) (19 : Int32) I).bind fun r5_1 =>
  (f190 kad N Z a0 r5_1.1 (1 : Int32) i1 (0 : Int32) (0 : Int32) (0 : Int32) (0 : Int32) r5_1.2).bind fun r14_2 =>
  some (r14_2.1, r14_2.2)
set_option maxRecDepth 20000 in
theorem Tf192 {kad : Nat → Nat} {N : Nat} {Z : AZ} {d : Nat} {t : Option Nat × (Nat × Nat)} (hd : 2 ≤ d) : ∀ (a0 : Nat) (ha0 : sh11 kad Z a0) (i1 : Int32) (I : AI) (r : Int32 × AI), f192 kad N Z a0 i1 I = some r → aGo kad d 192 (0, ([(0, .ref a0), (1, .int i1)], [])) (aMem Z I, t) (qI Z t r) := by
  intro a0 ha0 i1 I r h
  unfold f192 at h
  refine go_ops aMi192 4 _ (f1 := (5, ([(0, .ref a0), (1, .int i1)], [.int (19 : Int32), .int (0 : Int32), .int i1, .ref a0]))) rfl ?_
  obtain ⟨r5_1, hxr5_1, h⟩ := Option.bind_eq_some_iff.mp h
  refine gg_cs (as := [.int i1, .int (0 : Int32), .int (19 : Int32)]) (r := [.ref a0]) aMi192 rfl rfl rfl aMi186 rfl (Nat.le_of_ble_eq_true rfl) (Nat.le_of_ble_eq_true rfl) (by omega) (Tf186 (by omega) i1 (0 : Int32) (19 : Int32) I _ hxr5_1) ?_
  show aGo kad d 192 (8, ([(0, .ref a0), (1, .int i1)], [.int r5_1.1, .ref a0])) (aMem Z r5_1.2, t) _
  refine go_ops aMi192 6 _ (f1 := (14, ([(0, .ref a0), (1, .int i1)], [.int (0 : Int32), .int (0 : Int32), .int (0 : Int32), .int (0 : Int32), .int i1, .int (1 : Int32), .int r5_1.1, .ref a0]))) rfl ?_
  obtain ⟨r14_2, hxr14_2, h⟩ := Option.bind_eq_some_iff.mp h
  refine gg_cv (as := [.int r5_1.1, .int (1 : Int32), .int i1, .int (0 : Int32), .int (0 : Int32), .int (0 : Int32), .int (0 : Int32)]) (r := []) aMi192 rfl rfl rfl aMi190 (Nat.le_of_ble_eq_true rfl) rfl (Nat.le_of_ble_eq_true rfl) (Nat.le_of_ble_eq_true rfl) (by omega) (isK_of (sh11_z ha0)) (Tf190 (by omega) a0 ha0 r5_1.1 (1 : Int32) i1 (0 : Int32) (0 : Int32) (0 : Int32) (0 : Int32) r5_1.2 _ hxr14_2) ?_
  show aGo kad d 192 (17, ([(0, .ref a0), (1, .int i1)], [.int r14_2.1])) (aMem Z r14_2.2, t) _
  cases h
  exact go_ret aMi192 rfl aRetI ⟨rfl, rfl⟩
-- KernelGymModel.code (IIIII)I
def f193_b43 (kad : Nat → Nat) (N : Nat) (Z : AZ) (a0 : Nat) (i1 : Int32) (i2 : Int32) (i3 : Int32) (i4 : Int32) (i5 : Int32) (s0 : Int32) (I : AI) : Option (Int32 × AI) :=
  (f190 kad N Z a0 s0 (2 : Int32) i4 i5 ((((16 : Int32) * i1) + ((4 : Int32) * i2)) + i3) (0 : Int32) (0 : Int32) I).bind fun r65_1 =>
  some (r65_1.1, r65_1.2)
set_option maxRecDepth 20000 in
theorem Tf193_b43 {kad : Nat → Nat} {N : Nat} {Z : AZ} {d : Nat} {t : Option Nat × (Nat × Nat)} (hd : 2 ≤ d) : ∀ (a0 : Nat) (ha0 : sh11 kad Z a0) (i1 : Int32) (i2 : Int32) (i3 : Int32) (i4 : Int32) (i5 : Int32) (s0 : Int32) (I : AI) (r : Int32 × AI), f193_b43 kad N Z a0 i1 i2 i3 i4 i5 s0 I = some r → aGo kad d 193 (43, ([(0, .ref a0), (1, .int i1), (2, .int i2), (3, .int i3), (4, .int i4), (5, .int i5)], [.int s0])) (aMem Z I, t) (qI Z t r) := by
  intro a0 ha0 i1 i2 i3 i4 i5 s0 I r h
  unfold f193_b43 at h
  refine go_ops aMi193 17 _ (f1 := (65, ([(6, .int s0), (0, .ref a0), (1, .int i1), (2, .int i2), (3, .int i3), (4, .int i4), (5, .int i5)], [.int (0 : Int32), .int (0 : Int32), .int ((((16 : Int32) * i1) + ((4 : Int32) * i2)) + i3), .int i5, .int i4, .int (2 : Int32), .int s0, .ref a0]))) rfl ?_
  obtain ⟨r65_1, hxr65_1, h⟩ := Option.bind_eq_some_iff.mp h
  refine gg_cv (as := [.int s0, .int (2 : Int32), .int i4, .int i5, .int ((((16 : Int32) * i1) + ((4 : Int32) * i2)) + i3), .int (0 : Int32), .int (0 : Int32)]) (r := []) aMi193 rfl rfl rfl aMi190 (Nat.le_of_ble_eq_true rfl) rfl (Nat.le_of_ble_eq_true rfl) (Nat.le_of_ble_eq_true rfl) (by omega) (isK_of (sh11_z ha0)) (Tf190 (by omega) a0 ha0 s0 (2 : Int32) i4 i5 ((((16 : Int32) * i1) + ((4 : Int32) * i2)) + i3) (0 : Int32) (0 : Int32) I _ hxr65_1) ?_
  show aGo kad d 193 (68, ([(6, .int s0), (0, .ref a0), (1, .int i1), (2, .int i2), (3, .int i3), (4, .int i4), (5, .int i5)], [.int r65_1.1])) (aMem Z r65_1.2, t) _
  cases h
  exact go_ret aMi193 rfl aRetI ⟨rfl, rfl⟩
def f193_b42 (kad : Nat → Nat) (N : Nat) (Z : AZ) (a0 : Nat) (i1 : Int32) (i2 : Int32) (i3 : Int32) (i4 : Int32) (i5 : Int32) (I : AI) : Option (Int32 × AI) :=
  f193_b43 kad N Z a0 i1 i2 i3 i4 i5 (0 : Int32) I
set_option maxRecDepth 20000 in
theorem Tf193_b42 {kad : Nat → Nat} {N : Nat} {Z : AZ} {d : Nat} {t : Option Nat × (Nat × Nat)} (hd : 2 ≤ d) : ∀ (a0 : Nat) (ha0 : sh11 kad Z a0) (i1 : Int32) (i2 : Int32) (i3 : Int32) (i4 : Int32) (i5 : Int32) (I : AI) (r : Int32 × AI), f193_b42 kad N Z a0 i1 i2 i3 i4 i5 I = some r → aGo kad d 193 (42, ([(0, .ref a0), (1, .int i1), (2, .int i2), (3, .int i3), (4, .int i4), (5, .int i5)], [])) (aMem Z I, t) (qI Z t r) := by
  intro a0 ha0 i1 i2 i3 i4 i5 I r h
  unfold f193_b42 at h
  refine go_ops aMi193 1 _ (f1 := (43, ([(0, .ref a0), (1, .int i1), (2, .int i2), (3, .int i3), (4, .int i4), (5, .int i5)], [.int (0 : Int32)]))) rfl ?_
  exact Tf193_b43 hd a0 ha0 i1 i2 i3 i4 i5 (0 : Int32) I _ h
def f193 (kad : Nat → Nat) (N : Nat) (Z : AZ) (a0 : Nat) (i1 : Int32) (i2 : Int32) (i3 : Int32) (i4 : Int32) (i5 : Int32) (I : AI) : Option (Int32 × AI) :=
  (f186 kad N Z i1 (0 : Int32) (26 : Int32) I).bind fun r4_1 =>
  if r4_1.1 = 0 then
    f193_b42 kad N Z a0 i1 i2 i3 i4 i5 r4_1.2
  else
    (f186 kad N Z i2 (0 : Int32) (3 : Int32) r4_1.2).bind fun r13_2 =>
    if r13_2.1 = 0 then
      f193_b42 kad N Z a0 i1 i2 i3 i4 i5 r13_2.2
    else
      (f186 kad N Z i3 (0 : Int32) (3 : Int32) r13_2.2).bind fun r22_3 =>
      if r22_3.1 = 0 then
        f193_b42 kad N Z a0 i1 i2 i3 i4 i5 r22_3.2
      else
        (f189 kad N Z i4 i5 r22_3.2).bind fun r32_4 =>
        if r32_4.1 = 0 then
          f193_b42 kad N Z a0 i1 i2 i3 i4 i5 r32_4.2
        else
          f193_b43 kad N Z a0 i1 i2 i3 i4 i5 (1 : Int32) r32_4.2
set_option maxRecDepth 20000 in
theorem Tf193 {kad : Nat → Nat} {N : Nat} {Z : AZ} {d : Nat} {t : Option Nat × (Nat × Nat)} (hd : 2 ≤ d) : ∀ (a0 : Nat) (ha0 : sh11 kad Z a0) (i1 : Int32) (i2 : Int32) (i3 : Int32) (i4 : Int32) (i5 : Int32) (I : AI) (r : Int32 × AI), f193 kad N Z a0 i1 i2 i3 i4 i5 I = some r → aGo kad d 193 (0, ([(0, .ref a0), (1, .int i1), (2, .int i2), (3, .int i3), (4, .int i4), (5, .int i5)], [])) (aMem Z I, t) (qI Z t r) := by
  intro a0 ha0 i1 i2 i3 i4 i5 I r h
  unfold f193 at h
  refine go_ops aMi193 3 _ (f1 := (4, ([(0, .ref a0), (1, .int i1), (2, .int i2), (3, .int i3), (4, .int i4), (5, .int i5)], [.int (26 : Int32), .int (0 : Int32), .int i1]))) rfl ?_
  obtain ⟨r4_1, hxr4_1, h⟩ := Option.bind_eq_some_iff.mp h
  refine gg_cs (as := [.int i1, .int (0 : Int32), .int (26 : Int32)]) (r := []) aMi193 rfl rfl rfl aMi186 rfl (Nat.le_of_ble_eq_true rfl) (Nat.le_of_ble_eq_true rfl) (by omega) (Tf186 (by omega) i1 (0 : Int32) (26 : Int32) I _ hxr4_1) ?_
  show aGo kad d 193 (7, ([(0, .ref a0), (1, .int i1), (2, .int i2), (3, .int i3), (4, .int i4), (5, .int i5)], [.int r4_1.1])) (aMem Z r4_1.2, t) _
  refine gg_br (b := decide (r4_1.1 = 0)) (tg := 42) (off := 35) aMi193 rfl rfl rfl rfl (fun hb => ?_) (fun hb => ?_)
  · rw [if_pos (of_decide_eq_true hb)] at h
    exact Tf193_b42 hd a0 ha0 i1 i2 i3 i4 i5 r4_1.2 _ h
  · rw [if_neg (of_decide_eq_false hb)] at h
    refine go_ops aMi193 3 _ (f1 := (13, ([(0, .ref a0), (1, .int i1), (2, .int i2), (3, .int i3), (4, .int i4), (5, .int i5)], [.int (3 : Int32), .int (0 : Int32), .int i2]))) rfl ?_
    obtain ⟨r13_2, hxr13_2, h⟩ := Option.bind_eq_some_iff.mp h
    refine gg_cs (as := [.int i2, .int (0 : Int32), .int (3 : Int32)]) (r := []) aMi193 rfl rfl rfl aMi186 rfl (Nat.le_of_ble_eq_true rfl) (Nat.le_of_ble_eq_true rfl) (by omega) (Tf186 (by omega) i2 (0 : Int32) (3 : Int32) r4_1.2 _ hxr13_2) ?_
    show aGo kad d 193 (16, ([(0, .ref a0), (1, .int i1), (2, .int i2), (3, .int i3), (4, .int i4), (5, .int i5)], [.int r13_2.1])) (aMem Z r13_2.2, t) _
    refine gg_br (b := decide (r13_2.1 = 0)) (tg := 42) (off := 26) aMi193 rfl rfl rfl rfl (fun hb => ?_) (fun hb => ?_)
    · rw [if_pos (of_decide_eq_true hb)] at h
      exact Tf193_b42 hd a0 ha0 i1 i2 i3 i4 i5 r13_2.2 _ h
    · rw [if_neg (of_decide_eq_false hb)] at h
      refine go_ops aMi193 3 _ (f1 := (22, ([(0, .ref a0), (1, .int i1), (2, .int i2), (3, .int i3), (4, .int i4), (5, .int i5)], [.int (3 : Int32), .int (0 : Int32), .int i3]))) rfl ?_
      obtain ⟨r22_3, hxr22_3, h⟩ := Option.bind_eq_some_iff.mp h
      refine gg_cs (as := [.int i3, .int (0 : Int32), .int (3 : Int32)]) (r := []) aMi193 rfl rfl rfl aMi186 rfl (Nat.le_of_ble_eq_true rfl) (Nat.le_of_ble_eq_true rfl) (by omega) (Tf186 (by omega) i3 (0 : Int32) (3 : Int32) r13_2.2 _ hxr22_3) ?_
      show aGo kad d 193 (25, ([(0, .ref a0), (1, .int i1), (2, .int i2), (3, .int i3), (4, .int i4), (5, .int i5)], [.int r22_3.1])) (aMem Z r22_3.2, t) _
      refine gg_br (b := decide (r22_3.1 = 0)) (tg := 42) (off := 17) aMi193 rfl rfl rfl rfl (fun hb => ?_) (fun hb => ?_)
      · rw [if_pos (of_decide_eq_true hb)] at h
        exact Tf193_b42 hd a0 ha0 i1 i2 i3 i4 i5 r22_3.2 _ h
      · rw [if_neg (of_decide_eq_false hb)] at h
        refine go_ops aMi193 2 _ (f1 := (32, ([(0, .ref a0), (1, .int i1), (2, .int i2), (3, .int i3), (4, .int i4), (5, .int i5)], [.int i5, .int i4]))) rfl ?_
        obtain ⟨r32_4, hxr32_4, h⟩ := Option.bind_eq_some_iff.mp h
        refine gg_cs (as := [.int i4, .int i5]) (r := []) aMi193 rfl rfl rfl aMi189 rfl (Nat.le_of_ble_eq_true rfl) (Nat.le_of_ble_eq_true rfl) (by omega) (Tf189 (by omega) i4 i5 r22_3.2 _ hxr32_4) ?_
        show aGo kad d 193 (35, ([(0, .ref a0), (1, .int i1), (2, .int i2), (3, .int i3), (4, .int i4), (5, .int i5)], [.int r32_4.1])) (aMem Z r32_4.2, t) _
        refine gg_br (b := decide (r32_4.1 = 0)) (tg := 42) (off := 7) aMi193 rfl rfl rfl rfl (fun hb => ?_) (fun hb => ?_)
        · rw [if_pos (of_decide_eq_true hb)] at h
          exact Tf193_b42 hd a0 ha0 i1 i2 i3 i4 i5 r32_4.2 _ h
        · rw [if_neg (of_decide_eq_false hb)] at h
          refine go_ops aMi193 2 _ (f1 := (43, ([(0, .ref a0), (1, .int i1), (2, .int i2), (3, .int i3), (4, .int i4), (5, .int i5)], [.int (1 : Int32)]))) rfl ?_
          exact Tf193_b43 hd a0 ha0 i1 i2 i3 i4 i5 (1 : Int32) r32_4.2 _ h
-- KernelGymModel.word (II)I
def f194 (kad : Nat → Nat) (N : Nat) (Z : AZ) (a0 : Nat) (i1 : Int32) (i2 : Int32) (I : AI) : Option (Int32 × AI) :=
  (f189 kad N Z i1 i2 I).bind fun r3_1 =>
  (f190 kad N Z a0 r3_1.1 (3 : Int32) i1 i2 (0 : Int32) (0 : Int32) (0 : Int32) r3_1.2).bind fun r12_2 =>
  some (r12_2.1, r12_2.2)
set_option maxRecDepth 20000 in
theorem Tf194 {kad : Nat → Nat} {N : Nat} {Z : AZ} {d : Nat} {t : Option Nat × (Nat × Nat)} (hd : 2 ≤ d) : ∀ (a0 : Nat) (ha0 : sh11 kad Z a0) (i1 : Int32) (i2 : Int32) (I : AI) (r : Int32 × AI), f194 kad N Z a0 i1 i2 I = some r → aGo kad d 194 (0, ([(0, .ref a0), (1, .int i1), (2, .int i2)], [])) (aMem Z I, t) (qI Z t r) := by
  intro a0 ha0 i1 i2 I r h
  unfold f194 at h
  refine go_ops aMi194 3 _ (f1 := (3, ([(0, .ref a0), (1, .int i1), (2, .int i2)], [.int i2, .int i1, .ref a0]))) rfl ?_
  obtain ⟨r3_1, hxr3_1, h⟩ := Option.bind_eq_some_iff.mp h
  refine gg_cs (as := [.int i1, .int i2]) (r := [.ref a0]) aMi194 rfl rfl rfl aMi189 rfl (Nat.le_of_ble_eq_true rfl) (Nat.le_of_ble_eq_true rfl) (by omega) (Tf189 (by omega) i1 i2 I _ hxr3_1) ?_
  show aGo kad d 194 (6, ([(0, .ref a0), (1, .int i1), (2, .int i2)], [.int r3_1.1, .ref a0])) (aMem Z r3_1.2, t) _
  refine go_ops aMi194 6 _ (f1 := (12, ([(0, .ref a0), (1, .int i1), (2, .int i2)], [.int (0 : Int32), .int (0 : Int32), .int (0 : Int32), .int i2, .int i1, .int (3 : Int32), .int r3_1.1, .ref a0]))) rfl ?_
  obtain ⟨r12_2, hxr12_2, h⟩ := Option.bind_eq_some_iff.mp h
  refine gg_cv (as := [.int r3_1.1, .int (3 : Int32), .int i1, .int i2, .int (0 : Int32), .int (0 : Int32), .int (0 : Int32)]) (r := []) aMi194 rfl rfl rfl aMi190 (Nat.le_of_ble_eq_true rfl) rfl (Nat.le_of_ble_eq_true rfl) (Nat.le_of_ble_eq_true rfl) (by omega) (isK_of (sh11_z ha0)) (Tf190 (by omega) a0 ha0 r3_1.1 (3 : Int32) i1 i2 (0 : Int32) (0 : Int32) (0 : Int32) r3_1.2 _ hxr12_2) ?_
  show aGo kad d 194 (15, ([(0, .ref a0), (1, .int i1), (2, .int i2)], [.int r12_2.1])) (aMem Z r12_2.2, t) _
  cases h
  exact go_ret aMi194 rfl aRetI ⟨rfl, rfl⟩
-- KernelGymModel.space (I)I
def f195 (kad : Nat → Nat) (N : Nat) (Z : AZ) (a0 : Nat) (i1 : Int32) (I : AI) : Option (Int32 × AI) :=
  (f186 kad N Z i1 (1 : Int32) (32 : Int32) I).bind fun r5_1 =>
  (f190 kad N Z a0 r5_1.1 (4 : Int32) i1 (0 : Int32) (0 : Int32) (0 : Int32) (0 : Int32) r5_1.2).bind fun r14_2 =>
  some (r14_2.1, r14_2.2)
set_option maxRecDepth 20000 in
theorem Tf195 {kad : Nat → Nat} {N : Nat} {Z : AZ} {d : Nat} {t : Option Nat × (Nat × Nat)} (hd : 2 ≤ d) : ∀ (a0 : Nat) (ha0 : sh11 kad Z a0) (i1 : Int32) (I : AI) (r : Int32 × AI), f195 kad N Z a0 i1 I = some r → aGo kad d 195 (0, ([(0, .ref a0), (1, .int i1)], [])) (aMem Z I, t) (qI Z t r) := by
  intro a0 ha0 i1 I r h
  unfold f195 at h
  refine go_ops aMi195 4 _ (f1 := (5, ([(0, .ref a0), (1, .int i1)], [.int (32 : Int32), .int (1 : Int32), .int i1, .ref a0]))) rfl ?_
  obtain ⟨r5_1, hxr5_1, h⟩ := Option.bind_eq_some_iff.mp h
  refine gg_cs (as := [.int i1, .int (1 : Int32), .int (32 : Int32)]) (r := [.ref a0]) aMi195 rfl rfl rfl aMi186 rfl (Nat.le_of_ble_eq_true rfl) (Nat.le_of_ble_eq_true rfl) (by omega) (Tf186 (by omega) i1 (1 : Int32) (32 : Int32) I _ hxr5_1) ?_
  show aGo kad d 195 (8, ([(0, .ref a0), (1, .int i1)], [.int r5_1.1, .ref a0])) (aMem Z r5_1.2, t) _
  refine go_ops aMi195 6 _ (f1 := (14, ([(0, .ref a0), (1, .int i1)], [.int (0 : Int32), .int (0 : Int32), .int (0 : Int32), .int (0 : Int32), .int i1, .int (4 : Int32), .int r5_1.1, .ref a0]))) rfl ?_
  obtain ⟨r14_2, hxr14_2, h⟩ := Option.bind_eq_some_iff.mp h
  refine gg_cv (as := [.int r5_1.1, .int (4 : Int32), .int i1, .int (0 : Int32), .int (0 : Int32), .int (0 : Int32), .int (0 : Int32)]) (r := []) aMi195 rfl rfl rfl aMi190 (Nat.le_of_ble_eq_true rfl) rfl (Nat.le_of_ble_eq_true rfl) (Nat.le_of_ble_eq_true rfl) (by omega) (isK_of (sh11_z ha0)) (Tf190 (by omega) a0 ha0 r5_1.1 (4 : Int32) i1 (0 : Int32) (0 : Int32) (0 : Int32) (0 : Int32) r5_1.2 _ hxr14_2) ?_
  show aGo kad d 195 (17, ([(0, .ref a0), (1, .int i1)], [.int r14_2.1])) (aMem Z r14_2.2, t) _
  cases h
  exact go_ret aMi195 rfl aRetI ⟨rfl, rfl⟩
-- KernelGymModel.vector (III)I
def f196_b23 (kad : Nat → Nat) (N : Nat) (Z : AZ) (a0 : Nat) (i1 : Int32) (i2 : Int32) (i3 : Int32) (s0 : Int32) (I : AI) : Option (Int32 × AI) :=
  (f190 kad N Z a0 s0 (5 : Int32) i2 i3 i1 (0 : Int32) (0 : Int32) I).bind fun r29_1 =>
  some (r29_1.1, r29_1.2)
set_option maxRecDepth 20000 in
theorem Tf196_b23 {kad : Nat → Nat} {N : Nat} {Z : AZ} {d : Nat} {t : Option Nat × (Nat × Nat)} (hd : 2 ≤ d) : ∀ (a0 : Nat) (ha0 : sh11 kad Z a0) (i1 : Int32) (i2 : Int32) (i3 : Int32) (s0 : Int32) (I : AI) (r : Int32 × AI), f196_b23 kad N Z a0 i1 i2 i3 s0 I = some r → aGo kad d 196 (23, ([(1, .int i1), (2, .int i2), (3, .int i3)], [.int s0, .ref a0])) (aMem Z I, t) (qI Z t r) := by
  intro a0 ha0 i1 i2 i3 s0 I r h
  unfold f196_b23 at h
  refine go_ops aMi196 6 _ (f1 := (29, ([(1, .int i1), (2, .int i2), (3, .int i3)], [.int (0 : Int32), .int (0 : Int32), .int i1, .int i3, .int i2, .int (5 : Int32), .int s0, .ref a0]))) rfl ?_
  obtain ⟨r29_1, hxr29_1, h⟩ := Option.bind_eq_some_iff.mp h
  refine gg_cv (as := [.int s0, .int (5 : Int32), .int i2, .int i3, .int i1, .int (0 : Int32), .int (0 : Int32)]) (r := []) aMi196 rfl rfl rfl aMi190 (Nat.le_of_ble_eq_true rfl) rfl (Nat.le_of_ble_eq_true rfl) (Nat.le_of_ble_eq_true rfl) (by omega) (isK_of (sh11_z ha0)) (Tf190 (by omega) a0 ha0 s0 (5 : Int32) i2 i3 i1 (0 : Int32) (0 : Int32) I _ hxr29_1) ?_
  show aGo kad d 196 (32, ([(1, .int i1), (2, .int i2), (3, .int i3)], [.int r29_1.1])) (aMem Z r29_1.2, t) _
  cases h
  exact go_ret aMi196 rfl aRetI ⟨rfl, rfl⟩
def f196_b22 (kad : Nat → Nat) (N : Nat) (Z : AZ) (a0 : Nat) (i1 : Int32) (i2 : Int32) (i3 : Int32) (I : AI) : Option (Int32 × AI) :=
  f196_b23 kad N Z a0 i1 i2 i3 (0 : Int32) I
set_option maxRecDepth 20000 in
theorem Tf196_b22 {kad : Nat → Nat} {N : Nat} {Z : AZ} {d : Nat} {t : Option Nat × (Nat × Nat)} (hd : 2 ≤ d) : ∀ (a0 : Nat) (ha0 : sh11 kad Z a0) (i1 : Int32) (i2 : Int32) (i3 : Int32) (I : AI) (r : Int32 × AI), f196_b22 kad N Z a0 i1 i2 i3 I = some r → aGo kad d 196 (22, ([(1, .int i1), (2, .int i2), (3, .int i3)], [.ref a0])) (aMem Z I, t) (qI Z t r) := by
  intro a0 ha0 i1 i2 i3 I r h
  unfold f196_b22 at h
  refine go_ops aMi196 1 _ (f1 := (23, ([(1, .int i1), (2, .int i2), (3, .int i3)], [.int (0 : Int32), .ref a0]))) rfl ?_
  exact Tf196_b23 hd a0 ha0 i1 i2 i3 (0 : Int32) I _ h
def f196 (kad : Nat → Nat) (N : Nat) (Z : AZ) (a0 : Nat) (i1 : Int32) (i2 : Int32) (i3 : Int32) (I : AI) : Option (Int32 × AI) :=
  (f186 kad N Z i1 (0 : Int32) (1 : Int32) I).bind fun r4_1 =>
  if r4_1.1 = 0 then
    f196_b22 kad N Z a0 i1 i2 i3 r4_1.2
  else
    (f189 kad N Z i2 i3 r4_1.2).bind fun r12_2 =>
    if r12_2.1 = 0 then
      f196_b22 kad N Z a0 i1 i2 i3 r12_2.2
    else
      f196_b23 kad N Z a0 i1 i2 i3 (1 : Int32) r12_2.2
set_option maxRecDepth 20000 in
theorem Tf196 {kad : Nat → Nat} {N : Nat} {Z : AZ} {d : Nat} {t : Option Nat × (Nat × Nat)} (hd : 2 ≤ d) : ∀ (a0 : Nat) (ha0 : sh11 kad Z a0) (i1 : Int32) (i2 : Int32) (i3 : Int32) (I : AI) (r : Int32 × AI), f196 kad N Z a0 i1 i2 i3 I = some r → aGo kad d 196 (0, ([(0, .ref a0), (1, .int i1), (2, .int i2), (3, .int i3)], [])) (aMem Z I, t) (qI Z t r) := by
  intro a0 ha0 i1 i2 i3 I r h
  unfold f196 at h
  refine go_ops aMi196 4 _ (f1 := (4, ([(0, .ref a0), (1, .int i1), (2, .int i2), (3, .int i3)], [.int (1 : Int32), .int (0 : Int32), .int i1, .ref a0]))) rfl ?_
  obtain ⟨r4_1, hxr4_1, h⟩ := Option.bind_eq_some_iff.mp h
  refine gg_cs (as := [.int i1, .int (0 : Int32), .int (1 : Int32)]) (r := [.ref a0]) aMi196 rfl rfl rfl aMi186 rfl (Nat.le_of_ble_eq_true rfl) (Nat.le_of_ble_eq_true rfl) (by omega) (Tf186 (by omega) i1 (0 : Int32) (1 : Int32) I _ hxr4_1) ?_
  show aGo kad d 196 (7, ([(0, .ref a0), (1, .int i1), (2, .int i2), (3, .int i3)], [.int r4_1.1, .ref a0])) (aMem Z r4_1.2, t) _
  refine gg_br (b := decide (r4_1.1 = 0)) (tg := 22) (off := 15) aMi196 rfl rfl rfl rfl (fun hb => ?_) (fun hb => ?_)
  · rw [if_pos (of_decide_eq_true hb)] at h
    refine go_le (lv1 := [(1, .int i1), (2, .int i2), (3, .int i3)]) (aLe_of (show (List.map (fun q => q.1) ([(1, .int i1), (2, .int i2), (3, .int i3)] : ALv)).Nodup from (by show ([1, 2, 3] : List Nat).Nodup; decide)) (aSubL_cons rfl (aSubL_cons rfl (aSubL_cons rfl aSubL_nil)))) ?_
    exact Tf196_b22 hd a0 ha0 i1 i2 i3 r4_1.2 _ h
  · rw [if_neg (of_decide_eq_false hb)] at h
    refine go_ops aMi196 2 _ (f1 := (12, ([(0, .ref a0), (1, .int i1), (2, .int i2), (3, .int i3)], [.int i3, .int i2, .ref a0]))) rfl ?_
    obtain ⟨r12_2, hxr12_2, h⟩ := Option.bind_eq_some_iff.mp h
    refine gg_cs (as := [.int i2, .int i3]) (r := [.ref a0]) aMi196 rfl rfl rfl aMi189 rfl (Nat.le_of_ble_eq_true rfl) (Nat.le_of_ble_eq_true rfl) (by omega) (Tf189 (by omega) i2 i3 r4_1.2 _ hxr12_2) ?_
    show aGo kad d 196 (15, ([(0, .ref a0), (1, .int i1), (2, .int i2), (3, .int i3)], [.int r12_2.1, .ref a0])) (aMem Z r12_2.2, t) _
    refine gg_br (b := decide (r12_2.1 = 0)) (tg := 22) (off := 7) aMi196 rfl rfl rfl rfl (fun hb => ?_) (fun hb => ?_)
    · rw [if_pos (of_decide_eq_true hb)] at h
      refine go_le (lv1 := [(1, .int i1), (2, .int i2), (3, .int i3)]) (aLe_of (show (List.map (fun q => q.1) ([(1, .int i1), (2, .int i2), (3, .int i3)] : ALv)).Nodup from (by show ([1, 2, 3] : List Nat).Nodup; decide)) (aSubL_cons rfl (aSubL_cons rfl (aSubL_cons rfl aSubL_nil)))) ?_
      exact Tf196_b22 hd a0 ha0 i1 i2 i3 r12_2.2 _ h
    · rw [if_neg (of_decide_eq_false hb)] at h
      refine go_ops aMi196 2 _ (f1 := (23, ([(0, .ref a0), (1, .int i1), (2, .int i2), (3, .int i3)], [.int (1 : Int32), .ref a0]))) rfl ?_
      refine go_le (lv1 := [(1, .int i1), (2, .int i2), (3, .int i3)]) (aLe_of (show (List.map (fun q => q.1) ([(1, .int i1), (2, .int i2), (3, .int i3)] : ALv)).Nodup from (by show ([1, 2, 3] : List Nat).Nodup; decide)) (aSubL_cons rfl (aSubL_cons rfl (aSubL_cons rfl aSubL_nil)))) ?_
      exact Tf196_b23 hd a0 ha0 i1 i2 i3 (1 : Int32) r12_2.2 _ h
-- KernelGymModel.macro (I)I
def f197 (kad : Nat → Nat) (N : Nat) (Z : AZ) (a0 : Nat) (i1 : Int32) (I : AI) : Option (Int32 × AI) :=
  (f186 kad N Z i1 (0 : Int32) (4 : Int32) I).bind fun r4_1 =>
  (f190 kad N Z a0 r4_1.1 (6 : Int32) i1 (0 : Int32) (0 : Int32) (0 : Int32) (0 : Int32) r4_1.2).bind fun r14_2 =>
  some (r14_2.1, r14_2.2)
set_option maxRecDepth 20000 in
theorem Tf197 {kad : Nat → Nat} {N : Nat} {Z : AZ} {d : Nat} {t : Option Nat × (Nat × Nat)} (hd : 2 ≤ d) : ∀ (a0 : Nat) (ha0 : sh11 kad Z a0) (i1 : Int32) (I : AI) (r : Int32 × AI), f197 kad N Z a0 i1 I = some r → aGo kad d 197 (0, ([(0, .ref a0), (1, .int i1)], [])) (aMem Z I, t) (qI Z t r) := by
  intro a0 ha0 i1 I r h
  unfold f197 at h
  refine go_ops aMi197 4 _ (f1 := (4, ([(0, .ref a0), (1, .int i1)], [.int (4 : Int32), .int (0 : Int32), .int i1, .ref a0]))) rfl ?_
  obtain ⟨r4_1, hxr4_1, h⟩ := Option.bind_eq_some_iff.mp h
  refine gg_cs (as := [.int i1, .int (0 : Int32), .int (4 : Int32)]) (r := [.ref a0]) aMi197 rfl rfl rfl aMi186 rfl (Nat.le_of_ble_eq_true rfl) (Nat.le_of_ble_eq_true rfl) (by omega) (Tf186 (by omega) i1 (0 : Int32) (4 : Int32) I _ hxr4_1) ?_
  show aGo kad d 197 (7, ([(0, .ref a0), (1, .int i1)], [.int r4_1.1, .ref a0])) (aMem Z r4_1.2, t) _
  refine go_ops aMi197 6 _ (f1 := (14, ([(0, .ref a0), (1, .int i1)], [.int (0 : Int32), .int (0 : Int32), .int (0 : Int32), .int (0 : Int32), .int i1, .int (6 : Int32), .int r4_1.1, .ref a0]))) rfl ?_
  obtain ⟨r14_2, hxr14_2, h⟩ := Option.bind_eq_some_iff.mp h
  refine gg_cv (as := [.int r4_1.1, .int (6 : Int32), .int i1, .int (0 : Int32), .int (0 : Int32), .int (0 : Int32), .int (0 : Int32)]) (r := []) aMi197 rfl rfl rfl aMi190 (Nat.le_of_ble_eq_true rfl) rfl (Nat.le_of_ble_eq_true rfl) (Nat.le_of_ble_eq_true rfl) (by omega) (isK_of (sh11_z ha0)) (Tf190 (by omega) a0 ha0 r4_1.1 (6 : Int32) i1 (0 : Int32) (0 : Int32) (0 : Int32) (0 : Int32) r4_1.2 _ hxr14_2) ?_
  show aGo kad d 197 (17, ([(0, .ref a0), (1, .int i1)], [.int r14_2.1])) (aMem Z r14_2.2, t) _
  cases h
  exact go_ret aMi197 rfl aRetI ⟨rfl, rfl⟩
-- KernelGymModel.endMacro ()I
def f198_b15 (kad : Nat → Nat) (N : Nat) (Z : AZ) (a0 : Nat) (s0 : Int32) (I : AI) : Option (Int32 × AI) :=
  (f185 kad N Z a0 s0 I).bind fun r15_1 =>
  if ¬ r15_1.1 = 0 then
    (f190 kad N Z a0 (1 : Int32) (7 : Int32) (0 : Int32) (0 : Int32) (0 : Int32) (0 : Int32) (0 : Int32) r15_1.2).bind fun r32_2 =>
    some (r32_2.1, r32_2.2)
  else
    some ((0 : Int32), r15_1.2)
set_option maxRecDepth 20000 in
theorem Tf198_b15 {kad : Nat → Nat} {N : Nat} {Z : AZ} {d : Nat} {t : Option Nat × (Nat × Nat)} (hd : 2 ≤ d) : ∀ (a0 : Nat) (ha0 : sh11 kad Z a0) (s0 : Int32) (I : AI) (r : Int32 × AI), f198_b15 kad N Z a0 s0 I = some r → aGo kad d 198 (15, ([(0, .ref a0)], [.int s0, .ref a0])) (aMem Z I, t) (qI Z t r) := by
  intro a0 ha0 s0 I r h
  unfold f198_b15 at h
  obtain ⟨r15_1, hxr15_1, h⟩ := Option.bind_eq_some_iff.mp h
  refine gg_cv (as := [.int s0]) (r := []) aMi198 rfl rfl rfl aMi185 (Nat.le_of_ble_eq_true rfl) rfl (Nat.le_of_ble_eq_true rfl) (Nat.le_of_ble_eq_true rfl) (by omega) (isK_of (sh11_z ha0)) (Tf185 (by omega) a0 ha0 s0 I _ hxr15_1) ?_
  show aGo kad d 198 (18, ([(0, .ref a0)], [.int r15_1.1])) (aMem Z r15_1.2, t) _
  refine gg_br (b := decide (¬ r15_1.1 = 0)) (tg := 23) (off := 5) aMi198 rfl rfl rfl rfl (fun hb => ?_) (fun hb => ?_)
  · rw [if_pos (of_decide_eq_true hb)] at h
    refine go_ops aMi198 8 _ (f1 := (32, ([(0, .ref a0)], [.int (0 : Int32), .int (0 : Int32), .int (0 : Int32), .int (0 : Int32), .int (0 : Int32), .int (7 : Int32), .int (1 : Int32), .ref a0]))) rfl ?_
    obtain ⟨r32_2, hxr32_2, h⟩ := Option.bind_eq_some_iff.mp h
    refine gg_cv (as := [.int (1 : Int32), .int (7 : Int32), .int (0 : Int32), .int (0 : Int32), .int (0 : Int32), .int (0 : Int32), .int (0 : Int32)]) (r := []) aMi198 rfl rfl rfl aMi190 (Nat.le_of_ble_eq_true rfl) rfl (Nat.le_of_ble_eq_true rfl) (Nat.le_of_ble_eq_true rfl) (by omega) (isK_of (sh11_z ha0)) (Tf190 (by omega) a0 ha0 (1 : Int32) (7 : Int32) (0 : Int32) (0 : Int32) (0 : Int32) (0 : Int32) (0 : Int32) r15_1.2 _ hxr32_2) ?_
    show aGo kad d 198 (35, ([(0, .ref a0)], [.int r32_2.1])) (aMem Z r32_2.2, t) _
    cases h
    exact go_ret aMi198 rfl aRetI ⟨rfl, rfl⟩
  · rw [if_neg (of_decide_eq_false hb)] at h
    refine go_ops aMi198 1 _ (f1 := (22, ([(0, .ref a0)], [.int (0 : Int32)]))) rfl ?_
    cases h
    exact go_ret aMi198 rfl aRetI ⟨rfl, rfl⟩
def f198 (kad : Nat → Nat) (N : Nat) (Z : AZ) (a0 : Nat) (I : AI) : Option (Int32 × AI) :=
  if ¬ (I a0 1) = (100 : Int32) then
    f198_b15 kad N Z a0 (0 : Int32) I
  else
    f198_b15 kad N Z a0 (1 : Int32) I
set_option maxRecDepth 20000 in
theorem Tf198 {kad : Nat → Nat} {N : Nat} {Z : AZ} {d : Nat} {t : Option Nat × (Nat × Nat)} (hd : 2 ≤ d) : ∀ (a0 : Nat) (ha0 : sh11 kad Z a0) (I : AI) (r : Int32 × AI), f198 kad N Z a0 I = some r → aGo kad d 198 (0, ([(0, .ref a0)], [])) (aMem Z I, t) (qI Z t r) := by
  intro a0 ha0 I r h
  unfold f198 at h
  refine go_ops aMi198 2 _ (f1 := (2, ([(0, .ref a0)], [.ref a0, .ref a0]))) rfl ?_
  refine gg_gI aMi198 rfl rfl rfl (gI_of (sh11_z ha0)) ?_
  refine go_ops aMi198 1 _ (f1 := (7, ([(0, .ref a0)], [.int (100 : Int32), .int (I a0 1), .ref a0]))) rfl ?_
  refine gg_br (b := decide (¬ (I a0 1) = (100 : Int32))) (tg := 14) (off := 7) aMi198 rfl rfl rfl rfl (fun hb => ?_) (fun hb => ?_)
  · rw [if_pos (of_decide_eq_true hb)] at h
    refine go_ops aMi198 1 _ (f1 := (15, ([(0, .ref a0)], [.int (0 : Int32), .ref a0]))) rfl ?_
    exact Tf198_b15 hd a0 ha0 (0 : Int32) I _ h
  · rw [if_neg (of_decide_eq_false hb)] at h
    refine go_ops aMi198 2 _ (f1 := (15, ([(0, .ref a0)], [.int (1 : Int32), .ref a0]))) rfl ?_
    exact Tf198_b15 hd a0 ha0 (1 : Int32) I _ h
-- KernelGymModel.use (IIIII)I
def f199_b32 (kad : Nat → Nat) (N : Nat) (Z : AZ) (a0 : Nat) (i1 : Int32) (i2 : Int32) (i3 : Int32) (i4 : Int32) (i5 : Int32) (s0 : Int32) (I : AI) : Option (Int32 × AI) :=
  (f190 kad N Z a0 s0 (8 : Int32) i2 i3 i4 i5 i1 I).bind fun r46_1 =>
  some (r46_1.1, r46_1.2)
set_option maxRecDepth 20000 in
theorem Tf199_b32 {kad : Nat → Nat} {N : Nat} {Z : AZ} {d : Nat} {t : Option Nat × (Nat × Nat)} (hd : 2 ≤ d) : ∀ (a0 : Nat) (ha0 : sh11 kad Z a0) (i1 : Int32) (i2 : Int32) (i3 : Int32) (i4 : Int32) (i5 : Int32) (s0 : Int32) (I : AI) (r : Int32 × AI), f199_b32 kad N Z a0 i1 i2 i3 i4 i5 s0 I = some r → aGo kad d 199 (32, ([(0, .ref a0), (1, .int i1), (2, .int i2), (3, .int i3), (4, .int i4), (5, .int i5)], [.int s0])) (aMem Z I, t) (qI Z t r) := by
  intro a0 ha0 i1 i2 i3 i4 i5 s0 I r h
  unfold f199_b32 at h
  refine go_ops aMi199 9 _ (f1 := (46, ([(6, .int s0), (0, .ref a0), (1, .int i1), (2, .int i2), (3, .int i3), (4, .int i4), (5, .int i5)], [.int i1, .int i5, .int i4, .int i3, .int i2, .int (8 : Int32), .int s0, .ref a0]))) rfl ?_
  obtain ⟨r46_1, hxr46_1, h⟩ := Option.bind_eq_some_iff.mp h
  refine gg_cv (as := [.int s0, .int (8 : Int32), .int i2, .int i3, .int i4, .int i5, .int i1]) (r := []) aMi199 rfl rfl rfl aMi190 (Nat.le_of_ble_eq_true rfl) rfl (Nat.le_of_ble_eq_true rfl) (Nat.le_of_ble_eq_true rfl) (by omega) (isK_of (sh11_z ha0)) (Tf190 (by omega) a0 ha0 s0 (8 : Int32) i2 i3 i4 i5 i1 I _ hxr46_1) ?_
  show aGo kad d 199 (49, ([(6, .int s0), (0, .ref a0), (1, .int i1), (2, .int i2), (3, .int i3), (4, .int i4), (5, .int i5)], [.int r46_1.1])) (aMem Z r46_1.2, t) _
  cases h
  exact go_ret aMi199 rfl aRetI ⟨rfl, rfl⟩
def f199_b31 (kad : Nat → Nat) (N : Nat) (Z : AZ) (a0 : Nat) (i1 : Int32) (i2 : Int32) (i3 : Int32) (i4 : Int32) (i5 : Int32) (I : AI) : Option (Int32 × AI) :=
  f199_b32 kad N Z a0 i1 i2 i3 i4 i5 (0 : Int32) I
set_option maxRecDepth 20000 in
theorem Tf199_b31 {kad : Nat → Nat} {N : Nat} {Z : AZ} {d : Nat} {t : Option Nat × (Nat × Nat)} (hd : 2 ≤ d) : ∀ (a0 : Nat) (ha0 : sh11 kad Z a0) (i1 : Int32) (i2 : Int32) (i3 : Int32) (i4 : Int32) (i5 : Int32) (I : AI) (r : Int32 × AI), f199_b31 kad N Z a0 i1 i2 i3 i4 i5 I = some r → aGo kad d 199 (31, ([(0, .ref a0), (1, .int i1), (2, .int i2), (3, .int i3), (4, .int i4), (5, .int i5)], [])) (aMem Z I, t) (qI Z t r) := by
  intro a0 ha0 i1 i2 i3 i4 i5 I r h
  unfold f199_b31 at h
  refine go_ops aMi199 1 _ (f1 := (32, ([(0, .ref a0), (1, .int i1), (2, .int i2), (3, .int i3), (4, .int i4), (5, .int i5)], [.int (0 : Int32)]))) rfl ?_
  exact Tf199_b32 hd a0 ha0 i1 i2 i3 i4 i5 (0 : Int32) I _ h
def f199 (kad : Nat → Nat) (N : Nat) (Z : AZ) (a0 : Nat) (i1 : Int32) (i2 : Int32) (i3 : Int32) (i4 : Int32) (i5 : Int32) (I : AI) : Option (Int32 × AI) :=
  (f186 kad N Z i1 (0 : Int32) (4 : Int32) I).bind fun r3_1 =>
  if r3_1.1 = 0 then
    f199_b31 kad N Z a0 i1 i2 i3 i4 i5 r3_1.2
  else
    (f189 kad N Z i2 i3 r3_1.2).bind fun r11_2 =>
    if r11_2.1 = 0 then
      f199_b31 kad N Z a0 i1 i2 i3 i4 i5 r11_2.2
    else
      (f189 kad N Z i4 i5 r11_2.2).bind fun r21_3 =>
      if r21_3.1 = 0 then
        f199_b31 kad N Z a0 i1 i2 i3 i4 i5 r21_3.2
      else
        f199_b32 kad N Z a0 i1 i2 i3 i4 i5 (1 : Int32) r21_3.2
set_option maxRecDepth 20000 in
theorem Tf199 {kad : Nat → Nat} {N : Nat} {Z : AZ} {d : Nat} {t : Option Nat × (Nat × Nat)} (hd : 2 ≤ d) : ∀ (a0 : Nat) (ha0 : sh11 kad Z a0) (i1 : Int32) (i2 : Int32) (i3 : Int32) (i4 : Int32) (i5 : Int32) (I : AI) (r : Int32 × AI), f199 kad N Z a0 i1 i2 i3 i4 i5 I = some r → aGo kad d 199 (0, ([(0, .ref a0), (1, .int i1), (2, .int i2), (3, .int i3), (4, .int i4), (5, .int i5)], [])) (aMem Z I, t) (qI Z t r) := by
  intro a0 ha0 i1 i2 i3 i4 i5 I r h
  unfold f199 at h
  refine go_ops aMi199 3 _ (f1 := (3, ([(0, .ref a0), (1, .int i1), (2, .int i2), (3, .int i3), (4, .int i4), (5, .int i5)], [.int (4 : Int32), .int (0 : Int32), .int i1]))) rfl ?_
  obtain ⟨r3_1, hxr3_1, h⟩ := Option.bind_eq_some_iff.mp h
  refine gg_cs (as := [.int i1, .int (0 : Int32), .int (4 : Int32)]) (r := []) aMi199 rfl rfl rfl aMi186 rfl (Nat.le_of_ble_eq_true rfl) (Nat.le_of_ble_eq_true rfl) (by omega) (Tf186 (by omega) i1 (0 : Int32) (4 : Int32) I _ hxr3_1) ?_
  show aGo kad d 199 (6, ([(0, .ref a0), (1, .int i1), (2, .int i2), (3, .int i3), (4, .int i4), (5, .int i5)], [.int r3_1.1])) (aMem Z r3_1.2, t) _
  refine gg_br (b := decide (r3_1.1 = 0)) (tg := 31) (off := 25) aMi199 rfl rfl rfl rfl (fun hb => ?_) (fun hb => ?_)
  · rw [if_pos (of_decide_eq_true hb)] at h
    exact Tf199_b31 hd a0 ha0 i1 i2 i3 i4 i5 r3_1.2 _ h
  · rw [if_neg (of_decide_eq_false hb)] at h
    refine go_ops aMi199 2 _ (f1 := (11, ([(0, .ref a0), (1, .int i1), (2, .int i2), (3, .int i3), (4, .int i4), (5, .int i5)], [.int i3, .int i2]))) rfl ?_
    obtain ⟨r11_2, hxr11_2, h⟩ := Option.bind_eq_some_iff.mp h
    refine gg_cs (as := [.int i2, .int i3]) (r := []) aMi199 rfl rfl rfl aMi189 rfl (Nat.le_of_ble_eq_true rfl) (Nat.le_of_ble_eq_true rfl) (by omega) (Tf189 (by omega) i2 i3 r3_1.2 _ hxr11_2) ?_
    show aGo kad d 199 (14, ([(0, .ref a0), (1, .int i1), (2, .int i2), (3, .int i3), (4, .int i4), (5, .int i5)], [.int r11_2.1])) (aMem Z r11_2.2, t) _
    refine gg_br (b := decide (r11_2.1 = 0)) (tg := 31) (off := 17) aMi199 rfl rfl rfl rfl (fun hb => ?_) (fun hb => ?_)
    · rw [if_pos (of_decide_eq_true hb)] at h
      exact Tf199_b31 hd a0 ha0 i1 i2 i3 i4 i5 r11_2.2 _ h
    · rw [if_neg (of_decide_eq_false hb)] at h
      refine go_ops aMi199 2 _ (f1 := (21, ([(0, .ref a0), (1, .int i1), (2, .int i2), (3, .int i3), (4, .int i4), (5, .int i5)], [.int i5, .int i4]))) rfl ?_
      obtain ⟨r21_3, hxr21_3, h⟩ := Option.bind_eq_some_iff.mp h
      refine gg_cs (as := [.int i4, .int i5]) (r := []) aMi199 rfl rfl rfl aMi189 rfl (Nat.le_of_ble_eq_true rfl) (Nat.le_of_ble_eq_true rfl) (by omega) (Tf189 (by omega) i4 i5 r11_2.2 _ hxr21_3) ?_
      show aGo kad d 199 (24, ([(0, .ref a0), (1, .int i1), (2, .int i2), (3, .int i3), (4, .int i4), (5, .int i5)], [.int r21_3.1])) (aMem Z r21_3.2, t) _
      refine gg_br (b := decide (r21_3.1 = 0)) (tg := 31) (off := 7) aMi199 rfl rfl rfl rfl (fun hb => ?_) (fun hb => ?_)
      · rw [if_pos (of_decide_eq_true hb)] at h
        exact Tf199_b31 hd a0 ha0 i1 i2 i3 i4 i5 r21_3.2 _ h
      · rw [if_neg (of_decide_eq_false hb)] at h
        refine go_ops aMi199 2 _ (f1 := (32, ([(0, .ref a0), (1, .int i1), (2, .int i2), (3, .int i3), (4, .int i4), (5, .int i5)], [.int (1 : Int32)]))) rfl ?_
        exact Tf199_b32 hd a0 ha0 i1 i2 i3 i4 i5 (1 : Int32) r21_3.2 _ h
-- KernelGymModel.placeOf (I)I
def f200_b36 (kad : Nat → Nat) (N : Nat) (Z : AZ) (a0 : Nat) (s0 : Int32) (I : AI) : Option (Int32 × AI) :=
  some (s0, I)
set_option maxRecDepth 20000 in
theorem Tf200_b36 {kad : Nat → Nat} {N : Nat} {Z : AZ} {d : Nat} {t : Option Nat × (Nat × Nat)} (hd : 0 ≤ d) : ∀ (a0 : Nat) (ha0 : sh11 kad Z a0) (s0 : Int32) (I : AI) (r : Int32 × AI), f200_b36 kad N Z a0 s0 I = some r → aGo kad d 200 (36, ([], [.int s0])) (aMem Z I, t) (qI Z t r) := by
  intro a0 ha0 s0 I r h
  unfold f200_b36 at h
  cases h
  exact go_ret aMi200 rfl aRetI ⟨rfl, rfl⟩
def f200_b13 (kad : Nat → Nat) (N : Nat) (Z : AZ) (a0 : Nat) (i1 : Int32) (I : AI) : Option (Int32 × AI) :=
  f200_b36 kad N Z a0 i1 I
set_option maxRecDepth 20000 in
theorem Tf200_b13 {kad : Nat → Nat} {N : Nat} {Z : AZ} {d : Nat} {t : Option Nat × (Nat × Nat)} (hd : 0 ≤ d) : ∀ (a0 : Nat) (ha0 : sh11 kad Z a0) (i1 : Int32) (I : AI) (r : Int32 × AI), f200_b13 kad N Z a0 i1 I = some r → aGo kad d 200 (13, ([(1, .int i1)], [])) (aMem Z I, t) (qI Z t r) := by
  intro a0 ha0 i1 I r h
  unfold f200_b13 at h
  refine go_ops aMi200 2 _ (f1 := (36, ([(1, .int i1)], [.int i1]))) rfl ?_
  refine go_le (lv1 := []) (aLe_of (show (List.map (fun q => q.1) ([] : ALv)).Nodup from (by show ([] : List Nat).Nodup; decide)) aSubL_nil) ?_
  exact Tf200_b36 hd a0 ha0 i1 I _ h
def f200 (kad : Nat → Nat) (N : Nat) (Z : AZ) (a0 : Nat) (i1 : Int32) (I : AI) : Option (Int32 × AI) :=
  if i1 < (16 : Int32) then
    f200_b13 kad N Z a0 i1 I
  else
    if ¬ (I a0 14) = 0 then
      (ixA 6 (I a0 14)).bind fun j28_1 =>
      f200_b36 kad N Z a0 ((((20 : Int32) + ((4 : Int32) * (I (a0 + 9) j28_1))) + i1) - (16 : Int32)) I
    else
      f200_b13 kad N Z a0 i1 I
set_option maxRecDepth 20000 in
theorem Tf200 {kad : Nat → Nat} {N : Nat} {Z : AZ} {d : Nat} {t : Option Nat × (Nat × Nat)} (hd : 0 ≤ d) : ∀ (a0 : Nat) (ha0 : sh11 kad Z a0) (i1 : Int32) (I : AI) (r : Int32 × AI), f200 kad N Z a0 i1 I = some r → aGo kad d 200 (0, ([(0, .ref a0), (1, .int i1)], [])) (aMem Z I, t) (qI Z t r) := by
  intro a0 ha0 i1 I r h
  unfold f200 at h
  refine go_ops aMi200 2 _ (f1 := (3, ([(0, .ref a0), (1, .int i1)], [.int (16 : Int32), .int i1]))) rfl ?_
  refine gg_br (b := decide (i1 < (16 : Int32))) (tg := 13) (off := 10) aMi200 rfl rfl rfl rfl (fun hb => ?_) (fun hb => ?_)
  · rw [if_pos (of_decide_eq_true hb)] at h
    refine go_le (lv1 := [(1, .int i1)]) (aLe_of (show (List.map (fun q => q.1) ([(1, .int i1)] : ALv)).Nodup from (by show ([1] : List Nat).Nodup; decide)) (aSubL_cons rfl aSubL_nil)) ?_
    exact Tf200_b13 hd a0 ha0 i1 I _ h
  · rw [if_neg (of_decide_eq_false hb)] at h
    refine go_ops aMi200 1 _ (f1 := (7, ([(0, .ref a0), (1, .int i1)], [.ref a0]))) rfl ?_
    refine gg_gI aMi200 rfl rfl rfl (gI_of (sh11_z ha0)) ?_
    refine gg_br (b := decide (¬ (I a0 14) = 0)) (tg := 17) (off := 7) aMi200 rfl rfl rfl rfl (fun hb => ?_) (fun hb => ?_)
    · rw [if_pos (of_decide_eq_true hb)] at h
      refine go_ops aMi200 3 _ (f1 := (21, ([(0, .ref a0), (1, .int i1)], [.ref a0, .int (4 : Int32), .int (20 : Int32)]))) rfl ?_
      refine gg_gR (b := (a0 + 9)) aMi200 rfl rfl rfl (gR_of (sh11_z ha0) (sh11_r10 ha0)) ?_
      refine go_ops aMi200 1 _ (f1 := (25, ([(0, .ref a0), (1, .int i1)], [.ref a0, .ref (a0 + 9), .int (4 : Int32), .int (20 : Int32)]))) rfl ?_
      refine gg_gI aMi200 rfl rfl rfl (gI_of (sh11_z ha0)) ?_
      obtain ⟨j28_1, hxj28_1, h⟩ := Option.bind_eq_some_iff.mp h
      refine gg_lI (Or.inl ⟨rfl, rfl⟩) aMi200 rfl (lI_of (sh11_a10 ha0) hxj28_1) ?_
      refine go_ops aMi200 6 _ (f1 := (36, ([(0, .ref a0), (1, .int i1)], [.int ((((20 : Int32) + ((4 : Int32) * (I (a0 + 9) j28_1))) + i1) - (16 : Int32))]))) rfl ?_
      refine go_le (lv1 := []) (aLe_of (show (List.map (fun q => q.1) ([] : ALv)).Nodup from (by show ([] : List Nat).Nodup; decide)) aSubL_nil) ?_
      exact Tf200_b36 hd a0 ha0 ((((20 : Int32) + ((4 : Int32) * (I (a0 + 9) j28_1))) + i1) - (16 : Int32)) I _ h
    · rw [if_neg (of_decide_eq_false hb)] at h
      refine go_le (lv1 := [(1, .int i1)]) (aLe_of (show (List.map (fun q => q.1) ([(1, .int i1)] : ALv)).Nodup from (by show ([1] : List Nat).Nodup; decide)) (aSubL_cons rfl aSubL_nil)) ?_
      exact Tf200_b13 hd a0 ha0 i1 I _ h
-- KernelGymModel.wordsOf (I)I
def f201_b42 (kad : Nat → Nat) (N : Nat) (Z : AZ) (a0 : Nat) (s0 : Int32) (I : AI) : Option (Int32 × AI) :=
  some (s0, I)
set_option maxRecDepth 20000 in
theorem Tf201_b42 {kad : Nat → Nat} {N : Nat} {Z : AZ} {d : Nat} {t : Option Nat × (Nat × Nat)} (hd : 0 ≤ d) : ∀ (a0 : Nat) (ha0 : sh11 kad Z a0) (s0 : Int32) (I : AI) (r : Int32 × AI), f201_b42 kad N Z a0 s0 I = some r → aGo kad d 201 (42, ([], [.int s0])) (aMem Z I, t) (qI Z t r) := by
  intro a0 ha0 s0 I r h
  unfold f201_b42 at h
  cases h
  exact go_ret aMi201 rfl aRetI ⟨rfl, rfl⟩
def f201 (kad : Nat → Nat) (N : Nat) (Z : AZ) (a0 : Nat) (i1 : Int32) (I : AI) : Option (Int32 × AI) :=
  (ixA 100 i1).bind fun j5_1 =>
  if ¬ (I (a0 + 1) j5_1) = (2 : Int32) then
    if ¬ (I (a0 + 1) j5_1) = (3 : Int32) then
      if ¬ (I (a0 + 1) j5_1) = (4 : Int32) then
        f201_b42 kad N Z a0 (0 : Int32) I
      else
        (ixA 500 ((5 : Int32) * i1)).bind fun j37_2 =>
        f201_b42 kad N Z a0 (I (a0 + 2) j37_2) I
    else
      f201_b42 kad N Z a0 (1 : Int32) I
  else
    f201_b42 kad N Z a0 (2 : Int32) I
set_option maxRecDepth 20000 in
theorem Tf201 {kad : Nat → Nat} {N : Nat} {Z : AZ} {d : Nat} {t : Option Nat × (Nat × Nat)} (hd : 0 ≤ d) : ∀ (a0 : Nat) (ha0 : sh11 kad Z a0) (i1 : Int32) (I : AI) (r : Int32 × AI), f201 kad N Z a0 i1 I = some r → aGo kad d 201 (0, ([(0, .ref a0), (1, .int i1)], [])) (aMem Z I, t) (qI Z t r) := by
  intro a0 ha0 i1 I r h
  unfold f201 at h
  refine go_ops aMi201 1 _ (f1 := (1, ([(0, .ref a0), (1, .int i1)], [.ref a0]))) rfl ?_
  refine gg_gR (b := (a0 + 1)) aMi201 rfl rfl rfl (gR_of (sh11_z ha0) (sh11_r2 ha0)) ?_
  refine go_ops aMi201 1 _ (f1 := (5, ([(0, .ref a0), (1, .int i1)], [.int i1, .ref (a0 + 1)]))) rfl ?_
  obtain ⟨j5_1, hxj5_1, h⟩ := Option.bind_eq_some_iff.mp h
  refine gg_lI (Or.inl ⟨rfl, rfl⟩) aMi201 rfl (lI_of (sh11_a2 ha0) hxj5_1) ?_
  refine go_ops aMi201 3 _ (f1 := (9, ([(2, .int (I (a0 + 1) j5_1)), (0, .ref a0), (1, .int i1)], [.int (2 : Int32), .int (I (a0 + 1) j5_1)]))) rfl ?_
  refine gg_br (b := decide (¬ (I (a0 + 1) j5_1) = (2 : Int32))) (tg := 16) (off := 7) aMi201 rfl rfl rfl rfl (fun hb => ?_) (fun hb => ?_)
  · rw [if_pos (of_decide_eq_true hb)] at h
    refine go_ops aMi201 2 _ (f1 := (18, ([(2, .int (I (a0 + 1) j5_1)), (0, .ref a0), (1, .int i1)], [.int (3 : Int32), .int (I (a0 + 1) j5_1)]))) rfl ?_
    refine gg_br (b := decide (¬ (I (a0 + 1) j5_1) = (3 : Int32))) (tg := 25) (off := 7) aMi201 rfl rfl rfl rfl (fun hb => ?_) (fun hb => ?_)
    · rw [if_pos (of_decide_eq_true hb)] at h
      refine go_ops aMi201 2 _ (f1 := (27, ([(2, .int (I (a0 + 1) j5_1)), (0, .ref a0), (1, .int i1)], [.int (4 : Int32), .int (I (a0 + 1) j5_1)]))) rfl ?_
      refine gg_br (b := decide (¬ (I (a0 + 1) j5_1) = (4 : Int32))) (tg := 41) (off := 14) aMi201 rfl rfl rfl rfl (fun hb => ?_) (fun hb => ?_)
      · rw [if_pos (of_decide_eq_true hb)] at h
        refine go_ops aMi201 1 _ (f1 := (42, ([(2, .int (I (a0 + 1) j5_1)), (0, .ref a0), (1, .int i1)], [.int (0 : Int32)]))) rfl ?_
        refine go_le (lv1 := []) (aLe_of (show (List.map (fun q => q.1) ([] : ALv)).Nodup from (by show ([] : List Nat).Nodup; decide)) aSubL_nil) ?_
        exact Tf201_b42 hd a0 ha0 (0 : Int32) I _ h
      · rw [if_neg (of_decide_eq_false hb)] at h
        refine go_ops aMi201 1 _ (f1 := (31, ([(2, .int (I (a0 + 1) j5_1)), (0, .ref a0), (1, .int i1)], [.ref a0]))) rfl ?_
        refine gg_gR (b := (a0 + 2)) aMi201 rfl rfl rfl (gR_of (sh11_z ha0) (sh11_r3 ha0)) ?_
        refine go_ops aMi201 3 _ (f1 := (37, ([(2, .int (I (a0 + 1) j5_1)), (0, .ref a0), (1, .int i1)], [.int ((5 : Int32) * i1), .ref (a0 + 2)]))) rfl ?_
        obtain ⟨j37_2, hxj37_2, h⟩ := Option.bind_eq_some_iff.mp h
        refine gg_lI (Or.inl ⟨rfl, rfl⟩) aMi201 rfl (lI_of (sh11_a3 ha0) hxj37_2) ?_
        refine go_ops aMi201 1 _ (f1 := (42, ([(2, .int (I (a0 + 1) j5_1)), (0, .ref a0), (1, .int i1)], [.int (I (a0 + 2) j37_2)]))) rfl ?_
        refine go_le (lv1 := []) (aLe_of (show (List.map (fun q => q.1) ([] : ALv)).Nodup from (by show ([] : List Nat).Nodup; decide)) aSubL_nil) ?_
        exact Tf201_b42 hd a0 ha0 (I (a0 + 2) j37_2) I _ h
    · rw [if_neg (of_decide_eq_false hb)] at h
      refine go_ops aMi201 2 _ (f1 := (42, ([(2, .int (I (a0 + 1) j5_1)), (0, .ref a0), (1, .int i1)], [.int (1 : Int32)]))) rfl ?_
      refine go_le (lv1 := []) (aLe_of (show (List.map (fun q => q.1) ([] : ALv)).Nodup from (by show ([] : List Nat).Nodup; decide)) aSubL_nil) ?_
      exact Tf201_b42 hd a0 ha0 (1 : Int32) I _ h
  · rw [if_neg (of_decide_eq_false hb)] at h
    refine go_ops aMi201 2 _ (f1 := (42, ([(2, .int (I (a0 + 1) j5_1)), (0, .ref a0), (1, .int i1)], [.int (2 : Int32)]))) rfl ?_
    refine go_le (lv1 := []) (aLe_of (show (List.map (fun q => q.1) ([] : ALv)).Nodup from (by show ([] : List Nat).Nodup; decide)) aSubL_nil) ?_
    exact Tf201_b42 hd a0 ha0 (2 : Int32) I _ h
-- KernelGymModel.nextOf (I)I
def f202_b34 (kad : Nat → Nat) (N : Nat) (Z : AZ) (a0 : Nat) (i2 : Int32) (I : AI) : Option (Int32 × AI) :=
  some (i2, I)
set_option maxRecDepth 20000 in
theorem Tf202_b34 {kad : Nat → Nat} {N : Nat} {Z : AZ} {d : Nat} {t : Option Nat × (Nat × Nat)} (hd : 0 ≤ d) : ∀ (a0 : Nat) (ha0 : sh11 kad Z a0) (i2 : Int32) (I : AI) (r : Int32 × AI), f202_b34 kad N Z a0 i2 I = some r → aGo kad d 202 (34, ([(2, .int i2)], [])) (aMem Z I, t) (qI Z t r) := by
  intro a0 ha0 i2 I r h
  unfold f202_b34 at h
  refine go_ops aMi202 1 _ (f1 := (35, ([(2, .int i2)], [.int i2]))) rfl ?_
  cases h
  exact go_ret aMi202 rfl aRetI ⟨rfl, rfl⟩
def f202_b4 (kad : Nat → Nat) (N : Nat) (Z : AZ) : Nat → Nat → Int32 → AI → Option (Int32 × AI)
  | 0, _, _, _ => none
  | F + 1, a0, i2, I =>
    if (I a0 1) ≤ i2 then
      some ((Int32.ofInt (-1)), I)
    else
      (ixA 100 i2).bind fun j17_1 =>
      if (I (a0 + 1) j17_1) = (7 : Int32) then
        f202_b34 kad N Z a0 i2 I
      else
        (ixA 100 i2).bind fun j28_2 =>
        if ¬ (I (a0 + 1) j28_2) = (6 : Int32) then
          f202_b4 kad N Z F a0 (i2 + (1 : Int32)) I
        else
          f202_b34 kad N Z a0 i2 I
set_option maxRecDepth 20000 in
theorem Tf202_b4 {kad : Nat → Nat} {N : Nat} {Z : AZ} {d : Nat} {t : Option Nat × (Nat × Nat)} (hd : 0 ≤ d) : ∀ (F : Nat) (a0 : Nat) (ha0 : sh11 kad Z a0) (i2 : Int32) (I : AI) (r : Int32 × AI), f202_b4 kad N Z F a0 i2 I = some r → aGo kad d 202 (4, ([(0, .ref a0), (2, .int i2)], [])) (aMem Z I, t) (qI Z t r) := by
  intro F
  induction F with
  | zero => intro a0 ha0 i2 I r h; cases h
  | succ F ih =>
    intro a0 ha0 i2 I r h
    unfold f202_b4 at h
    refine go_ops aMi202 2 _ (f1 := (6, ([(0, .ref a0), (2, .int i2)], [.ref a0, .int i2]))) rfl ?_
    refine gg_gI aMi202 rfl rfl rfl (gI_of (sh11_z ha0)) ?_
    refine gg_br (b := decide ((I a0 1) ≤ i2)) (tg := 42) (off := 33) aMi202 rfl rfl rfl rfl (fun hb => ?_) (fun hb => ?_)
    · rw [if_pos (of_decide_eq_true hb)] at h
      refine go_ops aMi202 1 _ (f1 := (43, ([(0, .ref a0), (2, .int i2)], [.int (Int32.ofInt (-1))]))) rfl ?_
      cases h
      exact go_ret aMi202 rfl aRetI ⟨rfl, rfl⟩
    · rw [if_neg (of_decide_eq_false hb)] at h
      refine go_ops aMi202 1 _ (f1 := (13, ([(0, .ref a0), (2, .int i2)], [.ref a0]))) rfl ?_
      refine gg_gR (b := (a0 + 1)) aMi202 rfl rfl rfl (gR_of (sh11_z ha0) (sh11_r2 ha0)) ?_
      refine go_ops aMi202 1 _ (f1 := (17, ([(0, .ref a0), (2, .int i2)], [.int i2, .ref (a0 + 1)]))) rfl ?_
      obtain ⟨j17_1, hxj17_1, h⟩ := Option.bind_eq_some_iff.mp h
      refine gg_lI (Or.inl ⟨rfl, rfl⟩) aMi202 rfl (lI_of (sh11_a2 ha0) hxj17_1) ?_
      refine go_ops aMi202 1 _ (f1 := (20, ([(0, .ref a0), (2, .int i2)], [.int (7 : Int32), .int (I (a0 + 1) j17_1)]))) rfl ?_
      refine gg_br (b := decide ((I (a0 + 1) j17_1) = (7 : Int32))) (tg := 34) (off := 14) aMi202 rfl rfl rfl rfl (fun hb => ?_) (fun hb => ?_)
      · rw [if_pos (of_decide_eq_true hb)] at h
        refine go_le (lv1 := [(2, .int i2)]) (aLe_of (show (List.map (fun q => q.1) ([(2, .int i2)] : ALv)).Nodup from (by show ([2] : List Nat).Nodup; decide)) (aSubL_cons rfl aSubL_nil)) ?_
        exact Tf202_b34 hd a0 ha0 i2 I _ h
      · rw [if_neg (of_decide_eq_false hb)] at h
        refine go_ops aMi202 1 _ (f1 := (24, ([(0, .ref a0), (2, .int i2)], [.ref a0]))) rfl ?_
        refine gg_gR (b := (a0 + 1)) aMi202 rfl rfl rfl (gR_of (sh11_z ha0) (sh11_r2 ha0)) ?_
        refine go_ops aMi202 1 _ (f1 := (28, ([(0, .ref a0), (2, .int i2)], [.int i2, .ref (a0 + 1)]))) rfl ?_
        obtain ⟨j28_2, hxj28_2, h⟩ := Option.bind_eq_some_iff.mp h
        refine gg_lI (Or.inl ⟨rfl, rfl⟩) aMi202 rfl (lI_of (sh11_a2 ha0) hxj28_2) ?_
        refine go_ops aMi202 1 _ (f1 := (31, ([(0, .ref a0), (2, .int i2)], [.int (6 : Int32), .int (I (a0 + 1) j28_2)]))) rfl ?_
        refine gg_br (b := decide (¬ (I (a0 + 1) j28_2) = (6 : Int32))) (tg := 36) (off := 5) aMi202 rfl rfl rfl rfl (fun hb => ?_) (fun hb => ?_)
        · rw [if_pos (of_decide_eq_true hb)] at h
          refine go_ops aMi202 2 _ (f1 := (4, ([(2, .int (i2 + (1 : Int32))), (0, .ref a0)], []))) rfl ?_
          refine go_le (lv1 := [(0, .ref a0), (2, .int (i2 + (1 : Int32)))]) (aLe_of (show (List.map (fun q => q.1) ([(0, .ref a0), (2, .int (i2 + (1 : Int32)))] : ALv)).Nodup from (by show ([0, 2] : List Nat).Nodup; decide)) (aSubL_cons rfl (aSubL_cons rfl aSubL_nil))) ?_
          exact ih a0 ha0 (i2 + (1 : Int32)) I _ h
        · rw [if_neg (of_decide_eq_false hb)] at h
          refine go_le (lv1 := [(2, .int i2)]) (aLe_of (show (List.map (fun q => q.1) ([(2, .int i2)] : ALv)).Nodup from (by show ([2] : List Nat).Nodup; decide)) (aSubL_cons rfl aSubL_nil)) ?_
          exact Tf202_b34 hd a0 ha0 i2 I _ h
def f202 (kad : Nat → Nat) (N : Nat) (Z : AZ) (a0 : Nat) (i1 : Int32) (I : AI) : Option (Int32 × AI) :=
  f202_b4 kad N Z N a0 (i1 + (1 : Int32)) I
set_option maxRecDepth 20000 in
theorem Tf202 {kad : Nat → Nat} {N : Nat} {Z : AZ} {d : Nat} {t : Option Nat × (Nat × Nat)} (hd : 0 ≤ d) : ∀ (a0 : Nat) (ha0 : sh11 kad Z a0) (i1 : Int32) (I : AI) (r : Int32 × AI), f202 kad N Z a0 i1 I = some r → aGo kad d 202 (0, ([(0, .ref a0), (1, .int i1)], [])) (aMem Z I, t) (qI Z t r) := by
  intro a0 ha0 i1 I r h
  unfold f202 at h
  refine go_ops aMi202 4 _ (f1 := (4, ([(2, .int (i1 + (1 : Int32))), (0, .ref a0), (1, .int i1)], []))) rfl ?_
  refine go_le (lv1 := [(0, .ref a0), (2, .int (i1 + (1 : Int32)))]) (aLe_of (show (List.map (fun q => q.1) ([(0, .ref a0), (2, .int (i1 + (1 : Int32)))] : ALv)).Nodup from (by show ([0, 2] : List Nat).Nodup; decide)) (aSubL_cons rfl (aSubL_cons rfl aSubL_nil))) ?_
  exact Tf202_b4 hd N a0 ha0 (i1 + (1 : Int32)) I _ h
-- KernelGymModel.begins (I)I
def f203_b60 (kad : Nat → Nat) (N : Nat) (Z : AZ) (a0 : Nat) (s0 : Int32) (s1 : Int32) (I : AI) : Option (Int32 × AI) :=
  some ((s1 + s0), I)
set_option maxRecDepth 20000 in
theorem Tf203_b60 {kad : Nat → Nat} {N : Nat} {Z : AZ} {d : Nat} {t : Option Nat × (Nat × Nat)} (hd : 1 ≤ d) : ∀ (a0 : Nat) (ha0 : sh11 kad Z a0) (s0 : Int32) (s1 : Int32) (I : AI) (r : Int32 × AI), f203_b60 kad N Z a0 s0 s1 I = some r → aGo kad d 203 (60, ([], [.int s0, .int s1])) (aMem Z I, t) (qI Z t r) := by
  intro a0 ha0 s0 s1 I r h
  unfold f203_b60 at h
  refine go_ops aMi203 1 _ (f1 := (61, ([], [.int (s1 + s0)]))) rfl ?_
  cases h
  exact go_ret aMi203 rfl aRetI ⟨rfl, rfl⟩
def f203_b47 (kad : Nat → Nat) (N : Nat) (Z : AZ) (a0 : Nat) (i1 : Int32) (i3 : Int32) (I : AI) : Option (Int32 × AI) :=
  if ¬ i3 = (Int32.ofInt (-1)) then
    f203_b60 kad N Z a0 i3 (400 : Int32) I
  else
    f203_b60 kad N Z a0 i1 (400 : Int32) I
set_option maxRecDepth 20000 in
theorem Tf203_b47 {kad : Nat → Nat} {N : Nat} {Z : AZ} {d : Nat} {t : Option Nat × (Nat × Nat)} (hd : 1 ≤ d) : ∀ (a0 : Nat) (ha0 : sh11 kad Z a0) (i1 : Int32) (i3 : Int32) (I : AI) (r : Int32 × AI), f203_b47 kad N Z a0 i1 i3 I = some r → aGo kad d 203 (47, ([(1, .int i1), (3, .int i3)], [])) (aMem Z I, t) (qI Z t r) := by
  intro a0 ha0 i1 i3 I r h
  unfold f203_b47 at h
  refine go_ops aMi203 3 _ (f1 := (52, ([(1, .int i1), (3, .int i3)], [.int (Int32.ofInt (-1)), .int i3, .int (400 : Int32)]))) rfl ?_
  refine gg_br (b := decide (¬ i3 = (Int32.ofInt (-1)))) (tg := 59) (off := 7) aMi203 rfl rfl rfl rfl (fun hb => ?_) (fun hb => ?_)
  · rw [if_pos (of_decide_eq_true hb)] at h
    refine go_ops aMi203 1 _ (f1 := (60, ([(1, .int i1), (3, .int i3)], [.int i3, .int (400 : Int32)]))) rfl ?_
    refine go_le (lv1 := []) (aLe_of (show (List.map (fun q => q.1) ([] : ALv)).Nodup from (by show ([] : List Nat).Nodup; decide)) aSubL_nil) ?_
    exact Tf203_b60 hd a0 ha0 i3 (400 : Int32) I _ h
  · rw [if_neg (of_decide_eq_false hb)] at h
    refine go_ops aMi203 2 _ (f1 := (60, ([(1, .int i1), (3, .int i3)], [.int i1, .int (400 : Int32)]))) rfl ?_
    refine go_le (lv1 := []) (aLe_of (show (List.map (fun q => q.1) ([] : ALv)).Nodup from (by show ([] : List Nat).Nodup; decide)) aSubL_nil) ?_
    exact Tf203_b60 hd a0 ha0 i1 (400 : Int32) I _ h
def f203 (kad : Nat → Nat) (N : Nat) (Z : AZ) (a0 : Nat) (i1 : Int32) (I : AI) : Option (Int32 × AI) :=
  (ixA 500 ((5 : Int32) * i1)).bind fun j7_1 =>
  (ixA 5 (I (a0 + 2) j7_1)).bind fun j14_2 =>
  if (I (a0 + 5) j14_2) = (Int32.ofInt (-1)) then
    (f202 kad N Z a0 i1 I).bind fun r27_3 =>
    if r27_3.1 = (Int32.ofInt (-1)) then
      f203_b47 kad N Z a0 i1 r27_3.1 r27_3.2
    else
      (ixA 100 r27_3.1).bind fun j41_4 =>
      if ¬ (r27_3.2 (a0 + 1) j41_4) = (6 : Int32) then
        (ixA 5 (I (a0 + 2) j7_1)).bind fun j70_6 =>
        (wI r27_3.2 (a0 + 5) j70_6 (i1 + (1 : Int32))).bind fun I70_5 =>
        (ixA 5 (I (a0 + 2) j7_1)).bind fun j77_8 =>
        (wI I70_5 (a0 + 6) j77_8 r27_3.1).bind fun I77_7 =>
        (ixA 6 (I77_7 a0 14)).bind fun j89_10 =>
        (wI I77_7 (a0 + 7) j89_10 (r27_3.1 + (1 : Int32))).bind fun I89_9 =>
        some ((0 : Int32), I89_9)
      else
        f203_b47 kad N Z a0 i1 r27_3.1 r27_3.2
  else
    some (((300 : Int32) + i1), I)
set_option maxRecDepth 20000 in
theorem Tf203 {kad : Nat → Nat} {N : Nat} {Z : AZ} {d : Nat} {t : Option Nat × (Nat × Nat)} (hd : 1 ≤ d) : ∀ (a0 : Nat) (ha0 : sh11 kad Z a0) (i1 : Int32) (I : AI) (r : Int32 × AI), f203 kad N Z a0 i1 I = some r → aGo kad d 203 (0, ([(0, .ref a0), (1, .int i1)], [])) (aMem Z I, t) (qI Z t r) := by
  intro a0 ha0 i1 I r h
  unfold f203 at h
  refine go_ops aMi203 1 _ (f1 := (1, ([(0, .ref a0), (1, .int i1)], [.ref a0]))) rfl ?_
  refine gg_gR (b := (a0 + 2)) aMi203 rfl rfl rfl (gR_of (sh11_z ha0) (sh11_r3 ha0)) ?_
  refine go_ops aMi203 3 _ (f1 := (7, ([(0, .ref a0), (1, .int i1)], [.int ((5 : Int32) * i1), .ref (a0 + 2)]))) rfl ?_
  obtain ⟨j7_1, hxj7_1, h⟩ := Option.bind_eq_some_iff.mp h
  refine gg_lI (Or.inl ⟨rfl, rfl⟩) aMi203 rfl (lI_of (sh11_a3 ha0) hxj7_1) ?_
  refine go_ops aMi203 2 _ (f1 := (10, ([(2, .int (I (a0 + 2) j7_1)), (0, .ref a0), (1, .int i1)], [.ref a0]))) rfl ?_
  refine gg_gR (b := (a0 + 5)) aMi203 rfl rfl rfl (gR_of (sh11_z ha0) (sh11_r6 ha0)) ?_
  refine go_ops aMi203 1 _ (f1 := (14, ([(2, .int (I (a0 + 2) j7_1)), (0, .ref a0), (1, .int i1)], [.int (I (a0 + 2) j7_1), .ref (a0 + 5)]))) rfl ?_
  obtain ⟨j14_2, hxj14_2, h⟩ := Option.bind_eq_some_iff.mp h
  refine gg_lI (Or.inl ⟨rfl, rfl⟩) aMi203 rfl (lI_of (sh11_a6 ha0) hxj14_2) ?_
  refine go_ops aMi203 1 _ (f1 := (16, ([(2, .int (I (a0 + 2) j7_1)), (0, .ref a0), (1, .int i1)], [.int (Int32.ofInt (-1)), .int (I (a0 + 5) j14_2)]))) rfl ?_
  refine gg_br (b := decide ((I (a0 + 5) j14_2) = (Int32.ofInt (-1)))) (tg := 25) (off := 9) aMi203 rfl rfl rfl rfl (fun hb => ?_) (fun hb => ?_)
  · rw [if_pos (of_decide_eq_true hb)] at h
    refine go_ops aMi203 2 _ (f1 := (27, ([(2, .int (I (a0 + 2) j7_1)), (0, .ref a0), (1, .int i1)], [.int i1, .ref a0]))) rfl ?_
    obtain ⟨r27_3, hxr27_3, h⟩ := Option.bind_eq_some_iff.mp h
    refine gg_cv (as := [.int i1]) (r := []) aMi203 rfl rfl rfl aMi202 (Nat.le_of_ble_eq_true rfl) rfl (Nat.le_of_ble_eq_true rfl) (Nat.le_of_ble_eq_true rfl) (by omega) (isK_of (sh11_z ha0)) (Tf202 (by omega) a0 ha0 i1 I _ hxr27_3) ?_
    show aGo kad d 203 (30, ([(2, .int (I (a0 + 2) j7_1)), (0, .ref a0), (1, .int i1)], [.int r27_3.1])) (aMem Z r27_3.2, t) _
    refine go_ops aMi203 3 _ (f1 := (33, ([(3, .int r27_3.1), (2, .int (I (a0 + 2) j7_1)), (0, .ref a0), (1, .int i1)], [.int (Int32.ofInt (-1)), .int r27_3.1]))) rfl ?_
    refine gg_br (b := decide (r27_3.1 = (Int32.ofInt (-1)))) (tg := 47) (off := 14) aMi203 rfl rfl rfl rfl (fun hb => ?_) (fun hb => ?_)
    · rw [if_pos (of_decide_eq_true hb)] at h
      refine go_le (lv1 := [(1, .int i1), (3, .int r27_3.1)]) (aLe_of (show (List.map (fun q => q.1) ([(1, .int i1), (3, .int r27_3.1)] : ALv)).Nodup from (by show ([1, 3] : List Nat).Nodup; decide)) (aSubL_cons rfl (aSubL_cons rfl aSubL_nil))) ?_
      exact Tf203_b47 hd a0 ha0 i1 r27_3.1 r27_3.2 _ h
    · rw [if_neg (of_decide_eq_false hb)] at h
      refine go_ops aMi203 1 _ (f1 := (37, ([(3, .int r27_3.1), (2, .int (I (a0 + 2) j7_1)), (0, .ref a0), (1, .int i1)], [.ref a0]))) rfl ?_
      refine gg_gR (b := (a0 + 1)) aMi203 rfl rfl rfl (gR_of (sh11_z ha0) (sh11_r2 ha0)) ?_
      refine go_ops aMi203 1 _ (f1 := (41, ([(3, .int r27_3.1), (2, .int (I (a0 + 2) j7_1)), (0, .ref a0), (1, .int i1)], [.int r27_3.1, .ref (a0 + 1)]))) rfl ?_
      obtain ⟨j41_4, hxj41_4, h⟩ := Option.bind_eq_some_iff.mp h
      refine gg_lI (Or.inl ⟨rfl, rfl⟩) aMi203 rfl (lI_of (sh11_a2 ha0) hxj41_4) ?_
      refine go_ops aMi203 1 _ (f1 := (44, ([(3, .int r27_3.1), (2, .int (I (a0 + 2) j7_1)), (0, .ref a0), (1, .int i1)], [.int (6 : Int32), .int (r27_3.2 (a0 + 1) j41_4)]))) rfl ?_
      refine gg_br (b := decide (¬ (r27_3.2 (a0 + 1) j41_4) = (6 : Int32))) (tg := 62) (off := 18) aMi203 rfl rfl rfl rfl (fun hb => ?_) (fun hb => ?_)
      · rw [if_pos (of_decide_eq_true hb)] at h
        refine go_ops aMi203 1 _ (f1 := (63, ([(3, .int r27_3.1), (2, .int (I (a0 + 2) j7_1)), (0, .ref a0), (1, .int i1)], [.ref a0]))) rfl ?_
        refine gg_gR (b := (a0 + 5)) aMi203 rfl rfl rfl (gR_of (sh11_z ha0) (sh11_r6 ha0)) ?_
        refine go_ops aMi203 4 _ (f1 := (70, ([(3, .int r27_3.1), (2, .int (I (a0 + 2) j7_1)), (0, .ref a0), (1, .int i1)], [.int (i1 + (1 : Int32)), .int (I (a0 + 2) j7_1), .ref (a0 + 5)]))) rfl ?_
        obtain ⟨j70_6, hxj70_6, h⟩ := Option.bind_eq_some_iff.mp h
        obtain ⟨I70_5, hxI70_5, h⟩ := Option.bind_eq_some_iff.mp h
        refine gg_sI (Or.inl ⟨rfl, rfl⟩) aMi203 rfl (sI_of (sh11_a6 ha0) hxj70_6 hxI70_5) ?_
        refine go_ops aMi203 1 _ (f1 := (72, ([(3, .int r27_3.1), (2, .int (I (a0 + 2) j7_1)), (0, .ref a0), (1, .int i1)], [.ref a0]))) rfl ?_
        refine gg_gR (b := (a0 + 6)) aMi203 rfl rfl rfl (gR_of (sh11_z ha0) (sh11_r7 ha0)) ?_
        refine go_ops aMi203 2 _ (f1 := (77, ([(3, .int r27_3.1), (2, .int (I (a0 + 2) j7_1)), (0, .ref a0), (1, .int i1)], [.int r27_3.1, .int (I (a0 + 2) j7_1), .ref (a0 + 6)]))) rfl ?_
        obtain ⟨j77_8, hxj77_8, h⟩ := Option.bind_eq_some_iff.mp h
        obtain ⟨I77_7, hxI77_7, h⟩ := Option.bind_eq_some_iff.mp h
        refine gg_sI (Or.inl ⟨rfl, rfl⟩) aMi203 rfl (sI_of (sh11_a7 ha0) hxj77_8 hxI77_7) ?_
        refine go_ops aMi203 1 _ (f1 := (79, ([(3, .int r27_3.1), (2, .int (I (a0 + 2) j7_1)), (0, .ref a0), (1, .int i1)], [.ref a0]))) rfl ?_
        refine gg_gR (b := (a0 + 7)) aMi203 rfl rfl rfl (gR_of (sh11_z ha0) (sh11_r8 ha0)) ?_
        refine go_ops aMi203 1 _ (f1 := (83, ([(3, .int r27_3.1), (2, .int (I (a0 + 2) j7_1)), (0, .ref a0), (1, .int i1)], [.ref a0, .ref (a0 + 7)]))) rfl ?_
        refine gg_gI aMi203 rfl rfl rfl (gI_of (sh11_z ha0)) ?_
        refine go_ops aMi203 3 _ (f1 := (89, ([(3, .int r27_3.1), (2, .int (I (a0 + 2) j7_1)), (0, .ref a0), (1, .int i1)], [.int (r27_3.1 + (1 : Int32)), .int (I77_7 a0 14), .ref (a0 + 7)]))) rfl ?_
        obtain ⟨j89_10, hxj89_10, h⟩ := Option.bind_eq_some_iff.mp h
        obtain ⟨I89_9, hxI89_9, h⟩ := Option.bind_eq_some_iff.mp h
        refine gg_sI (Or.inl ⟨rfl, rfl⟩) aMi203 rfl (sI_of (sh11_a8 ha0) hxj89_10 hxI89_9) ?_
        refine go_ops aMi203 1 _ (f1 := (91, ([(3, .int r27_3.1), (2, .int (I (a0 + 2) j7_1)), (0, .ref a0), (1, .int i1)], [.int (0 : Int32)]))) rfl ?_
        cases h
        exact go_ret aMi203 rfl aRetI ⟨rfl, rfl⟩
      · rw [if_neg (of_decide_eq_false hb)] at h
        refine go_le (lv1 := [(1, .int i1), (3, .int r27_3.1)]) (aLe_of (show (List.map (fun q => q.1) ([(1, .int i1), (3, .int r27_3.1)] : ALv)).Nodup from (by show ([1, 3] : List Nat).Nodup; decide)) (aSubL_cons rfl (aSubL_cons rfl aSubL_nil))) ?_
        exact Tf203_b47 hd a0 ha0 i1 r27_3.1 r27_3.2 _ h
  · rw [if_neg (of_decide_eq_false hb)] at h
    refine go_ops aMi203 3 _ (f1 := (24, ([(2, .int (I (a0 + 2) j7_1)), (0, .ref a0), (1, .int i1)], [.int ((300 : Int32) + i1)]))) rfl ?_
    cases h
    exact go_ret aMi203 rfl aRetI ⟨rfl, rfl⟩
-- KernelGymModel.isGoneThrough (I)Z
def f204_b2 (kad : Nat → Nat) (N : Nat) (Z : AZ) : Nat → Nat → Int32 → Int32 → AI → Option (Int32 × AI)
  | 0, _, _, _, _ => none
  | F + 1, a0, i1, i2, I =>
    if (I a0 14) < i2 then
      some ((0 : Int32), I)
    else
      (ixA 6 i2).bind fun j15_1 =>
      if ¬ (I (a0 + 10) j15_1) = i1 then
        f204_b2 kad N Z F a0 i1 (i2 + (1 : Int32)) I
      else
        some ((1 : Int32), I)
set_option maxRecDepth 20000 in
theorem Tf204_b2 {kad : Nat → Nat} {N : Nat} {Z : AZ} {d : Nat} {t : Option Nat × (Nat × Nat)} (hd : 0 ≤ d) : ∀ (F : Nat) (a0 : Nat) (ha0 : sh11 kad Z a0) (i1 : Int32) (i2 : Int32) (I : AI) (r : Int32 × AI), f204_b2 kad N Z F a0 i1 i2 I = some r → aGo kad d 204 (2, ([(0, .ref a0), (1, .int i1), (2, .int i2)], [])) (aMem Z I, t) (qI Z t r) := by
  intro F
  induction F with
  | zero => intro a0 ha0 i1 i2 I r h; cases h
  | succ F ih =>
    intro a0 ha0 i1 i2 I r h
    unfold f204_b2 at h
    refine go_ops aMi204 2 _ (f1 := (4, ([(0, .ref a0), (1, .int i1), (2, .int i2)], [.ref a0, .int i2]))) rfl ?_
    refine gg_gI aMi204 rfl rfl rfl (gI_of (sh11_z ha0)) ?_
    refine gg_br (b := decide ((I a0 14) < i2)) (tg := 28) (off := 21) aMi204 rfl rfl rfl rfl (fun hb => ?_) (fun hb => ?_)
    · rw [if_pos (of_decide_eq_true hb)] at h
      refine go_ops aMi204 1 _ (f1 := (29, ([(0, .ref a0), (1, .int i1), (2, .int i2)], [.int (0 : Int32)]))) rfl ?_
      cases h
      exact go_ret aMi204 rfl (aRetZ (Or.inl rfl)) ⟨rfl, rfl⟩
    · rw [if_neg (of_decide_eq_false hb)] at h
      refine go_ops aMi204 1 _ (f1 := (11, ([(0, .ref a0), (1, .int i1), (2, .int i2)], [.ref a0]))) rfl ?_
      refine gg_gR (b := (a0 + 10)) aMi204 rfl rfl rfl (gR_of (sh11_z ha0) (sh11_r11 ha0)) ?_
      refine go_ops aMi204 1 _ (f1 := (15, ([(0, .ref a0), (1, .int i1), (2, .int i2)], [.int i2, .ref (a0 + 10)]))) rfl ?_
      obtain ⟨j15_1, hxj15_1, h⟩ := Option.bind_eq_some_iff.mp h
      refine gg_lI (Or.inl ⟨rfl, rfl⟩) aMi204 rfl (lI_of (sh11_a11 ha0) hxj15_1) ?_
      refine go_ops aMi204 1 _ (f1 := (17, ([(0, .ref a0), (1, .int i1), (2, .int i2)], [.int i1, .int (I (a0 + 10) j15_1)]))) rfl ?_
      refine gg_br (b := decide (¬ (I (a0 + 10) j15_1) = i1)) (tg := 22) (off := 5) aMi204 rfl rfl rfl rfl (fun hb => ?_) (fun hb => ?_)
      · rw [if_pos (of_decide_eq_true hb)] at h
        refine go_ops aMi204 2 _ (f1 := (2, ([(2, .int (i2 + (1 : Int32))), (0, .ref a0), (1, .int i1)], []))) rfl ?_
        refine go_le (lv1 := [(0, .ref a0), (1, .int i1), (2, .int (i2 + (1 : Int32)))]) (aLe_of (show (List.map (fun q => q.1) ([(0, .ref a0), (1, .int i1), (2, .int (i2 + (1 : Int32)))] : ALv)).Nodup from (by show ([0, 1, 2] : List Nat).Nodup; decide)) (aSubL_cons rfl (aSubL_cons rfl (aSubL_cons rfl aSubL_nil)))) ?_
        exact ih a0 ha0 i1 (i2 + (1 : Int32)) I _ h
      · rw [if_neg (of_decide_eq_false hb)] at h
        refine go_ops aMi204 1 _ (f1 := (21, ([(0, .ref a0), (1, .int i1), (2, .int i2)], [.int (1 : Int32)]))) rfl ?_
        cases h
        exact go_ret aMi204 rfl (aRetZ (Or.inr rfl)) ⟨rfl, rfl⟩
def f204 (kad : Nat → Nat) (N : Nat) (Z : AZ) (a0 : Nat) (i1 : Int32) (I : AI) : Option (Int32 × AI) :=
  f204_b2 kad N Z N a0 i1 (1 : Int32) I
set_option maxRecDepth 20000 in
theorem Tf204 {kad : Nat → Nat} {N : Nat} {Z : AZ} {d : Nat} {t : Option Nat × (Nat × Nat)} (hd : 0 ≤ d) : ∀ (a0 : Nat) (ha0 : sh11 kad Z a0) (i1 : Int32) (I : AI) (r : Int32 × AI), f204 kad N Z a0 i1 I = some r → aGo kad d 204 (0, ([(0, .ref a0), (1, .int i1)], [])) (aMem Z I, t) (qI Z t r) := by
  intro a0 ha0 i1 I r h
  unfold f204 at h
  refine go_ops aMi204 2 _ (f1 := (2, ([(2, .int (1 : Int32)), (0, .ref a0), (1, .int i1)], []))) rfl ?_
  refine go_le (lv1 := [(0, .ref a0), (1, .int i1), (2, .int (1 : Int32))]) (aLe_of (show (List.map (fun q => q.1) ([(0, .ref a0), (1, .int i1), (2, .int (1 : Int32))] : ALv)).Nodup from (by show ([0, 1, 2] : List Nat).Nodup; decide)) (aSubL_cons rfl (aSubL_cons rfl (aSubL_cons rfl aSubL_nil)))) ?_
  exact Tf204_b2 hd N a0 ha0 i1 (1 : Int32) I _ h
-- KernelGymModel.value (II)I
def f205_b67 (kad : Nat → Nat) (N : Nat) (Z : AZ) (a0 : Nat) (s0 : Int32) (I : AI) : Option (Int32 × AI) :=
  some (s0, I)
set_option maxRecDepth 20000 in
theorem Tf205_b67 {kad : Nat → Nat} {N : Nat} {Z : AZ} {d : Nat} {t : Option Nat × (Nat × Nat)} (hd : 1 ≤ d) : ∀ (a0 : Nat) (ha0 : sh11 kad Z a0) (s0 : Int32) (I : AI) (r : Int32 × AI), f205_b67 kad N Z a0 s0 I = some r → aGo kad d 205 (67, ([], [.int s0])) (aMem Z I, t) (qI Z t r) := by
  intro a0 ha0 s0 I r h
  unfold f205_b67 at h
  cases h
  exact go_ret aMi205 rfl aRetI ⟨rfl, rfl⟩
def f205_b66 (kad : Nat → Nat) (N : Nat) (Z : AZ) (a0 : Nat) (s0 : Int32) (s1 : Int32) (I : AI) : Option (Int32 × AI) :=
  f205_b67 kad N Z a0 (s1 + s0) I
set_option maxRecDepth 20000 in
theorem Tf205_b66 {kad : Nat → Nat} {N : Nat} {Z : AZ} {d : Nat} {t : Option Nat × (Nat × Nat)} (hd : 1 ≤ d) : ∀ (a0 : Nat) (ha0 : sh11 kad Z a0) (s0 : Int32) (s1 : Int32) (I : AI) (r : Int32 × AI), f205_b66 kad N Z a0 s0 s1 I = some r → aGo kad d 205 (66, ([], [.int s0, .int s1])) (aMem Z I, t) (qI Z t r) := by
  intro a0 ha0 s0 s1 I r h
  unfold f205_b66 at h
  refine go_ops aMi205 1 _ (f1 := (67, ([], [.int (s1 + s0)]))) rfl ?_
  exact Tf205_b67 hd a0 ha0 (s1 + s0) I _ h
def f205_b33 (kad : Nat → Nat) (N : Nat) (Z : AZ) (a0 : Nat) (i3 : Int32) (s0 : Int32) (I : AI) : Option (Int32 × AI) :=
  (wI I a0 19 s0).bind fun I33_1 =>
  if ¬ i3 = (Int32.ofInt (-1)) then
    if (1000 : Int32) ≤ i3 then
      f205_b66 kad N Z a0 (I33_1 a0 18) (i3 - i3 / (1000 : Int32) * (1000 : Int32)) I33_1
    else
      f205_b66 kad N Z a0 (8 : Int32) (i3 - i3 / (1000 : Int32) * (1000 : Int32)) I33_1
  else
    f205_b67 kad N Z a0 (0 : Int32) I33_1
set_option maxRecDepth 20000 in
theorem Tf205_b33 {kad : Nat → Nat} {N : Nat} {Z : AZ} {d : Nat} {t : Option Nat × (Nat × Nat)} (hd : 1 ≤ d) : ∀ (a0 : Nat) (ha0 : sh11 kad Z a0) (i3 : Int32) (s0 : Int32) (I : AI) (r : Int32 × AI), f205_b33 kad N Z a0 i3 s0 I = some r → aGo kad d 205 (33, ([(0, .ref a0), (3, .int i3)], [.int s0, .ref a0])) (aMem Z I, t) (qI Z t r) := by
  intro a0 ha0 i3 s0 I r h
  unfold f205_b33 at h
  obtain ⟨I33_1, hxI33_1, h⟩ := Option.bind_eq_some_iff.mp h
  refine gg_pI aMi205 rfl rfl rfl rfl (by decide) (pI_of (sh11_z ha0) hxI33_1) ?_
  refine go_ops aMi205 2 _ (f1 := (38, ([(0, .ref a0), (3, .int i3)], [.int (Int32.ofInt (-1)), .int i3]))) rfl ?_
  refine gg_br (b := decide (¬ i3 = (Int32.ofInt (-1)))) (tg := 45) (off := 7) aMi205 rfl rfl rfl rfl (fun hb => ?_) (fun hb => ?_)
  · rw [if_pos (of_decide_eq_true hb)] at h
    refine go_ops aMi205 5 _ (f1 := (54, ([(0, .ref a0), (3, .int i3)], [.int (1000 : Int32), .int i3, .int (i3 - i3 / (1000 : Int32) * (1000 : Int32))]))) rfl ?_
    refine gg_br (b := decide ((1000 : Int32) ≤ i3)) (tg := 62) (off := 8) aMi205 rfl rfl rfl rfl (fun hb => ?_) (fun hb => ?_)
    · rw [if_pos (of_decide_eq_true hb)] at h
      refine go_ops aMi205 1 _ (f1 := (63, ([(0, .ref a0), (3, .int i3)], [.ref a0, .int (i3 - i3 / (1000 : Int32) * (1000 : Int32))]))) rfl ?_
      refine gg_gI aMi205 rfl rfl rfl (gI_of (sh11_z ha0)) ?_
      refine go_le (lv1 := []) (aLe_of (show (List.map (fun q => q.1) ([] : ALv)).Nodup from (by show ([] : List Nat).Nodup; decide)) aSubL_nil) ?_
      exact Tf205_b66 hd a0 ha0 (I33_1 a0 18) (i3 - i3 / (1000 : Int32) * (1000 : Int32)) I33_1 _ h
    · rw [if_neg (of_decide_eq_false hb)] at h
      refine go_ops aMi205 2 _ (f1 := (66, ([(0, .ref a0), (3, .int i3)], [.int (8 : Int32), .int (i3 - i3 / (1000 : Int32) * (1000 : Int32))]))) rfl ?_
      refine go_le (lv1 := []) (aLe_of (show (List.map (fun q => q.1) ([] : ALv)).Nodup from (by show ([] : List Nat).Nodup; decide)) aSubL_nil) ?_
      exact Tf205_b66 hd a0 ha0 (8 : Int32) (i3 - i3 / (1000 : Int32) * (1000 : Int32)) I33_1 _ h
  · rw [if_neg (of_decide_eq_false hb)] at h
    refine go_ops aMi205 2 _ (f1 := (67, ([(0, .ref a0), (3, .int i3)], [.int (0 : Int32)]))) rfl ?_
    refine go_le (lv1 := []) (aLe_of (show (List.map (fun q => q.1) ([] : ALv)).Nodup from (by show ([] : List Nat).Nodup; decide)) aSubL_nil) ?_
    exact Tf205_b67 hd a0 ha0 (0 : Int32) I33_1 _ h
def f205_b134 (kad : Nat → Nat) (N : Nat) (Z : AZ) (a0 : Nat) (s0 : Int32) (I : AI) : Option (Int32 × AI) :=
  some (s0, I)
set_option maxRecDepth 20000 in
theorem Tf205_b134 {kad : Nat → Nat} {N : Nat} {Z : AZ} {d : Nat} {t : Option Nat × (Nat × Nat)} (hd : 1 ≤ d) : ∀ (a0 : Nat) (ha0 : sh11 kad Z a0) (s0 : Int32) (I : AI) (r : Int32 × AI), f205_b134 kad N Z a0 s0 I = some r → aGo kad d 205 (134, ([], [.int s0])) (aMem Z I, t) (qI Z t r) := by
  intro a0 ha0 s0 I r h
  unfold f205_b134 at h
  cases h
  exact go_ret aMi205 rfl aRetI ⟨rfl, rfl⟩
def f205_b129 (kad : Nat → Nat) (N : Nat) (Z : AZ) (a0 : Nat) (i2 : Int32) (s0 : Int32) (I : AI) : Option (Int32 × AI) :=
  f205_b134 kad N Z a0 ((s0 + i2) - (s0 + i2) / (65536 : Int32) * (65536 : Int32)) I
set_option maxRecDepth 20000 in
theorem Tf205_b129 {kad : Nat → Nat} {N : Nat} {Z : AZ} {d : Nat} {t : Option Nat × (Nat × Nat)} (hd : 1 ≤ d) : ∀ (a0 : Nat) (ha0 : sh11 kad Z a0) (i2 : Int32) (s0 : Int32) (I : AI) (r : Int32 × AI), f205_b129 kad N Z a0 i2 s0 I = some r → aGo kad d 205 (129, ([(2, .int i2)], [.int s0])) (aMem Z I, t) (qI Z t r) := by
  intro a0 ha0 i2 s0 I r h
  unfold f205_b129 at h
  refine go_ops aMi205 2 _ (f1 := (131, ([(2, .int i2)], [.int (s0 + i2)]))) rfl ?_
  refine gg_kI (Or.inl ⟨rfl, rfl⟩) aMi205 rfl rfl ?_
  refine go_ops aMi205 1 _ (f1 := (134, ([(2, .int i2)], [.int ((s0 + i2) - (s0 + i2) / (65536 : Int32) * (65536 : Int32))]))) rfl ?_
  refine go_le (lv1 := []) (aLe_of (show (List.map (fun q => q.1) ([] : ALv)).Nodup from (by show ([] : List Nat).Nodup; decide)) aSubL_nil) ?_
  exact Tf205_b134 hd a0 ha0 ((s0 + i2) - (s0 + i2) / (65536 : Int32) * (65536 : Int32)) I _ h
def f205_b89 (kad : Nat → Nat) (N : Nat) (Z : AZ) (a0 : Nat) (i1 : Int32) (i2 : Int32) (s0 : Int32) (I : AI) : Option (Int32 × AI) :=
  (wI I a0 19 s0).bind fun I89_1 =>
  if ¬ (I89_1 a0 14) = 0 then
    if ¬ i1 = (2 : Int32) then
      (ixA 6 (I89_1 a0 14)).bind fun j128_2 =>
      f205_b129 kad N Z a0 i2 (I89_1 (a0 + 12) j128_2) I89_1
    else
      (ixA 6 (I89_1 a0 14)).bind fun j116_3 =>
      f205_b129 kad N Z a0 i2 (I89_1 (a0 + 11) j116_3) I89_1
  else
    f205_b134 kad N Z a0 (0 : Int32) I89_1
set_option maxRecDepth 20000 in
theorem Tf205_b89 {kad : Nat → Nat} {N : Nat} {Z : AZ} {d : Nat} {t : Option Nat × (Nat × Nat)} (hd : 1 ≤ d) : ∀ (a0 : Nat) (ha0 : sh11 kad Z a0) (i1 : Int32) (i2 : Int32) (s0 : Int32) (I : AI) (r : Int32 × AI), f205_b89 kad N Z a0 i1 i2 s0 I = some r → aGo kad d 205 (89, ([(0, .ref a0), (1, .int i1), (2, .int i2)], [.int s0, .ref a0])) (aMem Z I, t) (qI Z t r) := by
  intro a0 ha0 i1 i2 s0 I r h
  unfold f205_b89 at h
  obtain ⟨I89_1, hxI89_1, h⟩ := Option.bind_eq_some_iff.mp h
  refine gg_pI aMi205 rfl rfl rfl rfl (by decide) (pI_of (sh11_z ha0) hxI89_1) ?_
  refine go_ops aMi205 1 _ (f1 := (93, ([(0, .ref a0), (1, .int i1), (2, .int i2)], [.ref a0]))) rfl ?_
  refine gg_gI aMi205 rfl rfl rfl (gI_of (sh11_z ha0)) ?_
  refine gg_br (b := decide (¬ (I89_1 a0 14) = 0)) (tg := 103) (off := 7) aMi205 rfl rfl rfl rfl (fun hb => ?_) (fun hb => ?_)
  · rw [if_pos (of_decide_eq_true hb)] at h
    refine go_ops aMi205 2 _ (f1 := (105, ([(0, .ref a0), (1, .int i1), (2, .int i2)], [.int (2 : Int32), .int i1]))) rfl ?_
    refine gg_br (b := decide (¬ i1 = (2 : Int32))) (tg := 120) (off := 15) aMi205 rfl rfl rfl rfl (fun hb => ?_) (fun hb => ?_)
    · rw [if_pos (of_decide_eq_true hb)] at h
      refine go_ops aMi205 1 _ (f1 := (121, ([(0, .ref a0), (1, .int i1), (2, .int i2)], [.ref a0]))) rfl ?_
      refine gg_gR (b := (a0 + 12)) aMi205 rfl rfl rfl (gR_of (sh11_z ha0) (sh11_r13 ha0)) ?_
      refine go_ops aMi205 1 _ (f1 := (125, ([(0, .ref a0), (1, .int i1), (2, .int i2)], [.ref a0, .ref (a0 + 12)]))) rfl ?_
      refine gg_gI aMi205 rfl rfl rfl (gI_of (sh11_z ha0)) ?_
      obtain ⟨j128_2, hxj128_2, h⟩ := Option.bind_eq_some_iff.mp h
      refine gg_lI (Or.inl ⟨rfl, rfl⟩) aMi205 rfl (lI_of (sh11_a13 ha0) hxj128_2) ?_
      refine go_le (lv1 := [(2, .int i2)]) (aLe_of (show (List.map (fun q => q.1) ([(2, .int i2)] : ALv)).Nodup from (by show ([2] : List Nat).Nodup; decide)) (aSubL_cons rfl aSubL_nil)) ?_
      exact Tf205_b129 hd a0 ha0 i2 (I89_1 (a0 + 12) j128_2) I89_1 _ h
    · rw [if_neg (of_decide_eq_false hb)] at h
      refine go_ops aMi205 1 _ (f1 := (109, ([(0, .ref a0), (1, .int i1), (2, .int i2)], [.ref a0]))) rfl ?_
      refine gg_gR (b := (a0 + 11)) aMi205 rfl rfl rfl (gR_of (sh11_z ha0) (sh11_r12 ha0)) ?_
      refine go_ops aMi205 1 _ (f1 := (113, ([(0, .ref a0), (1, .int i1), (2, .int i2)], [.ref a0, .ref (a0 + 11)]))) rfl ?_
      refine gg_gI aMi205 rfl rfl rfl (gI_of (sh11_z ha0)) ?_
      obtain ⟨j116_3, hxj116_3, h⟩ := Option.bind_eq_some_iff.mp h
      refine gg_lI (Or.inl ⟨rfl, rfl⟩) aMi205 rfl (lI_of (sh11_a12 ha0) hxj116_3) ?_
      refine go_ops aMi205 1 _ (f1 := (129, ([(0, .ref a0), (1, .int i1), (2, .int i2)], [.int (I89_1 (a0 + 11) j116_3)]))) rfl ?_
      refine go_le (lv1 := [(2, .int i2)]) (aLe_of (show (List.map (fun q => q.1) ([(2, .int i2)] : ALv)).Nodup from (by show ([2] : List Nat).Nodup; decide)) (aSubL_cons rfl aSubL_nil)) ?_
      exact Tf205_b129 hd a0 ha0 i2 (I89_1 (a0 + 11) j116_3) I89_1 _ h
  · rw [if_neg (of_decide_eq_false hb)] at h
    refine go_ops aMi205 2 _ (f1 := (134, ([(0, .ref a0), (1, .int i1), (2, .int i2)], [.int (0 : Int32)]))) rfl ?_
    refine go_le (lv1 := []) (aLe_of (show (List.map (fun q => q.1) ([] : ALv)).Nodup from (by show ([] : List Nat).Nodup; decide)) aSubL_nil) ?_
    exact Tf205_b134 hd a0 ha0 (0 : Int32) I89_1 _ h
def f205 (kad : Nat → Nat) (N : Nat) (Z : AZ) (a0 : Nat) (i1 : Int32) (i2 : Int32) (I : AI) : Option (Int32 × AI) :=
  (wI I a0 19 (0 : Int32)).bind fun I2_1 =>
  if ¬ i1 = (1 : Int32) then
    if (2 : Int32) ≤ i1 then
      if ¬ (I2_1 a0 14) = 0 then
        f205_b89 kad N Z a0 i1 i2 (0 : Int32) I2_1
      else
        f205_b89 kad N Z a0 i1 i2 (7 : Int32) I2_1
    else
      some (i2, I2_1)
  else
    (f200 kad N Z a0 i2 I2_1).bind fun r16_2 =>
    (ixA 1220 r16_2.1).bind fun j19_3 =>
    if ¬ (r16_2.2 (a0 + 3) j19_3) = (Int32.ofInt (-1)) then
      f205_b33 kad N Z a0 (r16_2.2 (a0 + 3) j19_3) (0 : Int32) r16_2.2
    else
      f205_b33 kad N Z a0 (r16_2.2 (a0 + 3) j19_3) (6 : Int32) r16_2.2
set_option maxRecDepth 20000 in
theorem Tf205 {kad : Nat → Nat} {N : Nat} {Z : AZ} {d : Nat} {t : Option Nat × (Nat × Nat)} (hd : 1 ≤ d) : ∀ (a0 : Nat) (ha0 : sh11 kad Z a0) (i1 : Int32) (i2 : Int32) (I : AI) (r : Int32 × AI), f205 kad N Z a0 i1 i2 I = some r → aGo kad d 205 (0, ([(0, .ref a0), (1, .int i1), (2, .int i2)], [])) (aMem Z I, t) (qI Z t r) := by
  intro a0 ha0 i1 i2 I r h
  unfold f205 at h
  refine go_ops aMi205 2 _ (f1 := (2, ([(0, .ref a0), (1, .int i1), (2, .int i2)], [.int (0 : Int32), .ref a0]))) rfl ?_
  obtain ⟨I2_1, hxI2_1, h⟩ := Option.bind_eq_some_iff.mp h
  refine gg_pI aMi205 rfl rfl rfl rfl (by decide) (pI_of (sh11_z ha0) hxI2_1) ?_
  refine go_ops aMi205 2 _ (f1 := (7, ([(0, .ref a0), (1, .int i1), (2, .int i2)], [.int (1 : Int32), .int i1]))) rfl ?_
  refine gg_br (b := decide (¬ i1 = (1 : Int32))) (tg := 68) (off := 61) aMi205 rfl rfl rfl rfl (fun hb => ?_) (fun hb => ?_)
  · rw [if_pos (of_decide_eq_true hb)] at h
    refine go_ops aMi205 2 _ (f1 := (70, ([(0, .ref a0), (1, .int i1), (2, .int i2)], [.int (2 : Int32), .int i1]))) rfl ?_
    refine gg_br (b := decide ((2 : Int32) ≤ i1)) (tg := 75) (off := 5) aMi205 rfl rfl rfl rfl (fun hb => ?_) (fun hb => ?_)
    · rw [if_pos (of_decide_eq_true hb)] at h
      refine go_ops aMi205 2 _ (f1 := (77, ([(0, .ref a0), (1, .int i1), (2, .int i2)], [.ref a0, .ref a0]))) rfl ?_
      refine gg_gI aMi205 rfl rfl rfl (gI_of (sh11_z ha0)) ?_
      refine gg_br (b := decide (¬ (I2_1 a0 14) = 0)) (tg := 88) (off := 8) aMi205 rfl rfl rfl rfl (fun hb => ?_) (fun hb => ?_)
      · rw [if_pos (of_decide_eq_true hb)] at h
        refine go_ops aMi205 1 _ (f1 := (89, ([(0, .ref a0), (1, .int i1), (2, .int i2)], [.int (0 : Int32), .ref a0]))) rfl ?_
        exact Tf205_b89 hd a0 ha0 i1 i2 (0 : Int32) I2_1 _ h
      · rw [if_neg (of_decide_eq_false hb)] at h
        refine go_ops aMi205 2 _ (f1 := (89, ([(0, .ref a0), (1, .int i1), (2, .int i2)], [.int (7 : Int32), .ref a0]))) rfl ?_
        exact Tf205_b89 hd a0 ha0 i1 i2 (7 : Int32) I2_1 _ h
    · rw [if_neg (of_decide_eq_false hb)] at h
      refine go_ops aMi205 1 _ (f1 := (74, ([(0, .ref a0), (1, .int i1), (2, .int i2)], [.int i2]))) rfl ?_
      cases h
      exact go_ret aMi205 rfl aRetI ⟨rfl, rfl⟩
  · rw [if_neg (of_decide_eq_false hb)] at h
    refine go_ops aMi205 1 _ (f1 := (11, ([(0, .ref a0), (1, .int i1), (2, .int i2)], [.ref a0]))) rfl ?_
    refine gg_gR (b := (a0 + 3)) aMi205 rfl rfl rfl (gR_of (sh11_z ha0) (sh11_r4 ha0)) ?_
    refine go_ops aMi205 2 _ (f1 := (16, ([(0, .ref a0), (1, .int i1), (2, .int i2)], [.int i2, .ref a0, .ref (a0 + 3)]))) rfl ?_
    obtain ⟨r16_2, hxr16_2, h⟩ := Option.bind_eq_some_iff.mp h
    refine gg_cv (as := [.int i2]) (r := [.ref (a0 + 3)]) aMi205 rfl rfl rfl aMi200 (Nat.le_of_ble_eq_true rfl) rfl (Nat.le_of_ble_eq_true rfl) (Nat.le_of_ble_eq_true rfl) (by omega) (isK_of (sh11_z ha0)) (Tf200 (by omega) a0 ha0 i2 I2_1 _ hxr16_2) ?_
    show aGo kad d 205 (19, ([(0, .ref a0), (1, .int i1), (2, .int i2)], [.int r16_2.1, .ref (a0 + 3)])) (aMem Z r16_2.2, t) _
    obtain ⟨j19_3, hxj19_3, h⟩ := Option.bind_eq_some_iff.mp h
    refine gg_lI (Or.inl ⟨rfl, rfl⟩) aMi205 rfl (lI_of (sh11_a4 ha0) hxj19_3) ?_
    refine go_ops aMi205 4 _ (f1 := (24, ([(3, .int (r16_2.2 (a0 + 3) j19_3)), (0, .ref a0), (1, .int i1), (2, .int i2)], [.int (Int32.ofInt (-1)), .int (r16_2.2 (a0 + 3) j19_3), .ref a0]))) rfl ?_
    refine gg_br (b := decide (¬ (r16_2.2 (a0 + 3) j19_3) = (Int32.ofInt (-1)))) (tg := 32) (off := 8) aMi205 rfl rfl rfl rfl (fun hb => ?_) (fun hb => ?_)
    · rw [if_pos (of_decide_eq_true hb)] at h
      refine go_ops aMi205 1 _ (f1 := (33, ([(3, .int (r16_2.2 (a0 + 3) j19_3)), (0, .ref a0), (1, .int i1), (2, .int i2)], [.int (0 : Int32), .ref a0]))) rfl ?_
      refine go_le (lv1 := [(0, .ref a0), (3, .int (r16_2.2 (a0 + 3) j19_3))]) (aLe_of (show (List.map (fun q => q.1) ([(0, .ref a0), (3, .int (r16_2.2 (a0 + 3) j19_3))] : ALv)).Nodup from (by show ([0, 3] : List Nat).Nodup; decide)) (aSubL_cons rfl (aSubL_cons rfl aSubL_nil))) ?_
      exact Tf205_b33 hd a0 ha0 (r16_2.2 (a0 + 3) j19_3) (0 : Int32) r16_2.2 _ h
    · rw [if_neg (of_decide_eq_false hb)] at h
      refine go_ops aMi205 2 _ (f1 := (33, ([(3, .int (r16_2.2 (a0 + 3) j19_3)), (0, .ref a0), (1, .int i1), (2, .int i2)], [.int (6 : Int32), .ref a0]))) rfl ?_
      refine go_le (lv1 := [(0, .ref a0), (3, .int (r16_2.2 (a0 + 3) j19_3))]) (aLe_of (show (List.map (fun q => q.1) ([(0, .ref a0), (3, .int (r16_2.2 (a0 + 3) j19_3))] : ALv)).Nodup from (by show ([0, 3] : List Nat).Nodup; decide)) (aSubL_cons rfl (aSubL_cons rfl aSubL_nil))) ?_
      exact Tf205_b33 hd a0 ha0 (r16_2.2 (a0 + 3) j19_3) (6 : Int32) r16_2.2 _ h
-- KernelGymModel.usesMacro (IZ)I
def f206_b38 (kad : Nat → Nat) (N : Nat) (Z : AZ) (a0 : Nat) (i1 : Int32) (I : AI) : Option (Int32 × AI) :=
  some (((500 : Int32) + i1), I)
set_option maxRecDepth 20000 in
theorem Tf206_b38 {kad : Nat → Nat} {N : Nat} {Z : AZ} {d : Nat} {t : Option Nat × (Nat × Nat)} (hd : 2 ≤ d) : ∀ (a0 : Nat) (ha0 : sh11 kad Z a0) (i1 : Int32) (I : AI) (r : Int32 × AI), f206_b38 kad N Z a0 i1 I = some r → aGo kad d 206 (38, ([(1, .int i1)], [])) (aMem Z I, t) (qI Z t r) := by
  intro a0 ha0 i1 I r h
  unfold f206_b38 at h
  refine go_ops aMi206 3 _ (f1 := (43, ([(1, .int i1)], [.int ((500 : Int32) + i1)]))) rfl ?_
  cases h
  exact go_ret aMi206 rfl aRetI ⟨rfl, rfl⟩
def f206_b250 (kad : Nat → Nat) (N : Nat) (Z : AZ) (a0 : Nat) (s0 : Int32) (I : AI) : Option (Int32 × AI) :=
  some (s0, I)
set_option maxRecDepth 20000 in
theorem Tf206_b250 {kad : Nat → Nat} {N : Nat} {Z : AZ} {d : Nat} {t : Option Nat × (Nat × Nat)} (hd : 2 ≤ d) : ∀ (a0 : Nat) (ha0 : sh11 kad Z a0) (s0 : Int32) (I : AI) (r : Int32 × AI), f206_b250 kad N Z a0 s0 I = some r → aGo kad d 206 (250, ([], [.int s0])) (aMem Z I, t) (qI Z t r) := by
  intro a0 ha0 s0 I r h
  unfold f206_b250 at h
  cases h
  exact go_ret aMi206 rfl aRetI ⟨rfl, rfl⟩
def f206_b134 (kad : Nat → Nat) (N : Nat) (Z : AZ) (a0 : Nat) (i1 : Int32) (i4 : Int32) (i5 : Int32) (i7 : Int32) (s0 : Int32) (I : AI) : Option (Int32 × AI) :=
  (wI I a0 14 ((I a0 14) + (1 : Int32))).bind fun I143_1 =>
  (ixA 5 i4).bind fun j160_2 =>
  (ixA 6 (I143_1 a0 14)).bind fun j161_4 =>
  (wI I143_1 (a0 + 7) j161_4 (I143_1 (a0 + 5) j160_2)).bind fun I161_3 =>
  (ixA 5 i4).bind fun j176_5 =>
  (ixA 6 (I161_3 a0 14)).bind fun j177_7 =>
  (wI I161_3 (a0 + 8) j177_7 (I161_3 (a0 + 6) j176_5)).bind fun I177_6 =>
  (ixA 6 (I177_6 a0 14)).bind fun j190_9 =>
  (wI I177_6 (a0 + 9) j190_9 (I177_6 a0 17)).bind fun I190_8 =>
  (ixA 6 (I190_8 a0 14)).bind fun j201_11 =>
  (wI I190_8 (a0 + 10) j201_11 i4).bind fun I201_10 =>
  (ixA 6 (I201_10 a0 14)).bind fun j212_13 =>
  (wI I201_10 (a0 + 11) j212_13 i5).bind fun I212_12 =>
  (ixA 6 (I212_12 a0 14)).bind fun j223_15 =>
  (wI I212_12 (a0 + 12) j223_15 i7).bind fun I223_14 =>
  (wI I223_14 a0 17 ((I223_14 a0 17) + (1 : Int32))).bind fun I231_16 =>
  if ¬ s0 = 0 then
    f206_b250 kad N Z a0 (((100 : Int32) * s0) + i1) I231_16
  else
    f206_b250 kad N Z a0 (0 : Int32) I231_16
set_option maxRecDepth 20000 in
theorem Tf206_b134 {kad : Nat → Nat} {N : Nat} {Z : AZ} {d : Nat} {t : Option Nat × (Nat × Nat)} (hd : 2 ≤ d) : ∀ (a0 : Nat) (ha0 : sh11 kad Z a0) (i1 : Int32) (i4 : Int32) (i5 : Int32) (i7 : Int32) (s0 : Int32) (I : AI) (r : Int32 × AI), f206_b134 kad N Z a0 i1 i4 i5 i7 s0 I = some r → aGo kad d 206 (134, ([(0, .ref a0), (1, .int i1), (4, .int i4), (5, .int i5), (7, .int i7)], [.int s0])) (aMem Z I, t) (qI Z t r) := by
  intro a0 ha0 i1 i4 i5 i7 s0 I r h
  unfold f206_b134 at h
  refine go_ops aMi206 3 _ (f1 := (138, ([(6, .int s0), (0, .ref a0), (1, .int i1), (4, .int i4), (5, .int i5), (7, .int i7)], [.ref a0, .ref a0]))) rfl ?_
  refine gg_gI aMi206 rfl rfl rfl (gI_of (sh11_z ha0)) ?_
  refine go_ops aMi206 2 _ (f1 := (143, ([(6, .int s0), (0, .ref a0), (1, .int i1), (4, .int i4), (5, .int i5), (7, .int i7)], [.int ((I a0 14) + (1 : Int32)), .ref a0]))) rfl ?_
  obtain ⟨I143_1, hxI143_1, h⟩ := Option.bind_eq_some_iff.mp h
  refine gg_pI aMi206 rfl rfl rfl rfl (by decide) (pI_of (sh11_z ha0) hxI143_1) ?_
  refine go_ops aMi206 1 _ (f1 := (147, ([(6, .int s0), (0, .ref a0), (1, .int i1), (4, .int i4), (5, .int i5), (7, .int i7)], [.ref a0]))) rfl ?_
  refine gg_gR (b := (a0 + 7)) aMi206 rfl rfl rfl (gR_of (sh11_z ha0) (sh11_r8 ha0)) ?_
  refine go_ops aMi206 1 _ (f1 := (151, ([(6, .int s0), (0, .ref a0), (1, .int i1), (4, .int i4), (5, .int i5), (7, .int i7)], [.ref a0, .ref (a0 + 7)]))) rfl ?_
  refine gg_gI aMi206 rfl rfl rfl (gI_of (sh11_z ha0)) ?_
  refine go_ops aMi206 1 _ (f1 := (155, ([(6, .int s0), (0, .ref a0), (1, .int i1), (4, .int i4), (5, .int i5), (7, .int i7)], [.ref a0, .int (I143_1 a0 14), .ref (a0 + 7)]))) rfl ?_
  refine gg_gR (b := (a0 + 5)) aMi206 rfl rfl rfl (gR_of (sh11_z ha0) (sh11_r6 ha0)) ?_
  refine go_ops aMi206 1 _ (f1 := (160, ([(6, .int s0), (0, .ref a0), (1, .int i1), (4, .int i4), (5, .int i5), (7, .int i7)], [.int i4, .ref (a0 + 5), .int (I143_1 a0 14), .ref (a0 + 7)]))) rfl ?_
  obtain ⟨j160_2, hxj160_2, h⟩ := Option.bind_eq_some_iff.mp h
  refine gg_lI (Or.inl ⟨rfl, rfl⟩) aMi206 rfl (lI_of (sh11_a6 ha0) hxj160_2) ?_
  obtain ⟨j161_4, hxj161_4, h⟩ := Option.bind_eq_some_iff.mp h
  obtain ⟨I161_3, hxI161_3, h⟩ := Option.bind_eq_some_iff.mp h
  refine gg_sI (Or.inl ⟨rfl, rfl⟩) aMi206 rfl (sI_of (sh11_a8 ha0) hxj161_4 hxI161_3) ?_
  refine go_ops aMi206 1 _ (f1 := (163, ([(6, .int s0), (0, .ref a0), (1, .int i1), (4, .int i4), (5, .int i5), (7, .int i7)], [.ref a0]))) rfl ?_
  refine gg_gR (b := (a0 + 8)) aMi206 rfl rfl rfl (gR_of (sh11_z ha0) (sh11_r9 ha0)) ?_
  refine go_ops aMi206 1 _ (f1 := (167, ([(6, .int s0), (0, .ref a0), (1, .int i1), (4, .int i4), (5, .int i5), (7, .int i7)], [.ref a0, .ref (a0 + 8)]))) rfl ?_
  refine gg_gI aMi206 rfl rfl rfl (gI_of (sh11_z ha0)) ?_
  refine go_ops aMi206 1 _ (f1 := (171, ([(6, .int s0), (0, .ref a0), (1, .int i1), (4, .int i4), (5, .int i5), (7, .int i7)], [.ref a0, .int (I161_3 a0 14), .ref (a0 + 8)]))) rfl ?_
  refine gg_gR (b := (a0 + 6)) aMi206 rfl rfl rfl (gR_of (sh11_z ha0) (sh11_r7 ha0)) ?_
  refine go_ops aMi206 1 _ (f1 := (176, ([(6, .int s0), (0, .ref a0), (1, .int i1), (4, .int i4), (5, .int i5), (7, .int i7)], [.int i4, .ref (a0 + 6), .int (I161_3 a0 14), .ref (a0 + 8)]))) rfl ?_
  obtain ⟨j176_5, hxj176_5, h⟩ := Option.bind_eq_some_iff.mp h
  refine gg_lI (Or.inl ⟨rfl, rfl⟩) aMi206 rfl (lI_of (sh11_a7 ha0) hxj176_5) ?_
  obtain ⟨j177_7, hxj177_7, h⟩ := Option.bind_eq_some_iff.mp h
  obtain ⟨I177_6, hxI177_6, h⟩ := Option.bind_eq_some_iff.mp h
  refine gg_sI (Or.inl ⟨rfl, rfl⟩) aMi206 rfl (sI_of (sh11_a9 ha0) hxj177_7 hxI177_6) ?_
  refine go_ops aMi206 1 _ (f1 := (179, ([(6, .int s0), (0, .ref a0), (1, .int i1), (4, .int i4), (5, .int i5), (7, .int i7)], [.ref a0]))) rfl ?_
  refine gg_gR (b := (a0 + 9)) aMi206 rfl rfl rfl (gR_of (sh11_z ha0) (sh11_r10 ha0)) ?_
  refine go_ops aMi206 1 _ (f1 := (183, ([(6, .int s0), (0, .ref a0), (1, .int i1), (4, .int i4), (5, .int i5), (7, .int i7)], [.ref a0, .ref (a0 + 9)]))) rfl ?_
  refine gg_gI aMi206 rfl rfl rfl (gI_of (sh11_z ha0)) ?_
  refine go_ops aMi206 1 _ (f1 := (187, ([(6, .int s0), (0, .ref a0), (1, .int i1), (4, .int i4), (5, .int i5), (7, .int i7)], [.ref a0, .int (I177_6 a0 14), .ref (a0 + 9)]))) rfl ?_
  refine gg_gI aMi206 rfl rfl rfl (gI_of (sh11_z ha0)) ?_
  obtain ⟨j190_9, hxj190_9, h⟩ := Option.bind_eq_some_iff.mp h
  obtain ⟨I190_8, hxI190_8, h⟩ := Option.bind_eq_some_iff.mp h
  refine gg_sI (Or.inl ⟨rfl, rfl⟩) aMi206 rfl (sI_of (sh11_a10 ha0) hxj190_9 hxI190_8) ?_
  refine go_ops aMi206 1 _ (f1 := (192, ([(6, .int s0), (0, .ref a0), (1, .int i1), (4, .int i4), (5, .int i5), (7, .int i7)], [.ref a0]))) rfl ?_
  refine gg_gR (b := (a0 + 10)) aMi206 rfl rfl rfl (gR_of (sh11_z ha0) (sh11_r11 ha0)) ?_
  refine go_ops aMi206 1 _ (f1 := (196, ([(6, .int s0), (0, .ref a0), (1, .int i1), (4, .int i4), (5, .int i5), (7, .int i7)], [.ref a0, .ref (a0 + 10)]))) rfl ?_
  refine gg_gI aMi206 rfl rfl rfl (gI_of (sh11_z ha0)) ?_
  refine go_ops aMi206 1 _ (f1 := (201, ([(6, .int s0), (0, .ref a0), (1, .int i1), (4, .int i4), (5, .int i5), (7, .int i7)], [.int i4, .int (I190_8 a0 14), .ref (a0 + 10)]))) rfl ?_
  obtain ⟨j201_11, hxj201_11, h⟩ := Option.bind_eq_some_iff.mp h
  obtain ⟨I201_10, hxI201_10, h⟩ := Option.bind_eq_some_iff.mp h
  refine gg_sI (Or.inl ⟨rfl, rfl⟩) aMi206 rfl (sI_of (sh11_a11 ha0) hxj201_11 hxI201_10) ?_
  refine go_ops aMi206 1 _ (f1 := (203, ([(6, .int s0), (0, .ref a0), (1, .int i1), (4, .int i4), (5, .int i5), (7, .int i7)], [.ref a0]))) rfl ?_
  refine gg_gR (b := (a0 + 11)) aMi206 rfl rfl rfl (gR_of (sh11_z ha0) (sh11_r12 ha0)) ?_
  refine go_ops aMi206 1 _ (f1 := (207, ([(6, .int s0), (0, .ref a0), (1, .int i1), (4, .int i4), (5, .int i5), (7, .int i7)], [.ref a0, .ref (a0 + 11)]))) rfl ?_
  refine gg_gI aMi206 rfl rfl rfl (gI_of (sh11_z ha0)) ?_
  refine go_ops aMi206 1 _ (f1 := (212, ([(6, .int s0), (0, .ref a0), (1, .int i1), (4, .int i4), (5, .int i5), (7, .int i7)], [.int i5, .int (I201_10 a0 14), .ref (a0 + 11)]))) rfl ?_
  obtain ⟨j212_13, hxj212_13, h⟩ := Option.bind_eq_some_iff.mp h
  obtain ⟨I212_12, hxI212_12, h⟩ := Option.bind_eq_some_iff.mp h
  refine gg_sI (Or.inl ⟨rfl, rfl⟩) aMi206 rfl (sI_of (sh11_a12 ha0) hxj212_13 hxI212_12) ?_
  refine go_ops aMi206 1 _ (f1 := (214, ([(6, .int s0), (0, .ref a0), (1, .int i1), (4, .int i4), (5, .int i5), (7, .int i7)], [.ref a0]))) rfl ?_
  refine gg_gR (b := (a0 + 12)) aMi206 rfl rfl rfl (gR_of (sh11_z ha0) (sh11_r13 ha0)) ?_
  refine go_ops aMi206 1 _ (f1 := (218, ([(6, .int s0), (0, .ref a0), (1, .int i1), (4, .int i4), (5, .int i5), (7, .int i7)], [.ref a0, .ref (a0 + 12)]))) rfl ?_
  refine gg_gI aMi206 rfl rfl rfl (gI_of (sh11_z ha0)) ?_
  refine go_ops aMi206 1 _ (f1 := (223, ([(6, .int s0), (0, .ref a0), (1, .int i1), (4, .int i4), (5, .int i5), (7, .int i7)], [.int i7, .int (I212_12 a0 14), .ref (a0 + 12)]))) rfl ?_
  obtain ⟨j223_15, hxj223_15, h⟩ := Option.bind_eq_some_iff.mp h
  obtain ⟨I223_14, hxI223_14, h⟩ := Option.bind_eq_some_iff.mp h
  refine gg_sI (Or.inl ⟨rfl, rfl⟩) aMi206 rfl (sI_of (sh11_a13 ha0) hxj223_15 hxI223_14) ?_
  refine go_ops aMi206 2 _ (f1 := (226, ([(6, .int s0), (0, .ref a0), (1, .int i1), (4, .int i4), (5, .int i5), (7, .int i7)], [.ref a0, .ref a0]))) rfl ?_
  refine gg_gI aMi206 rfl rfl rfl (gI_of (sh11_z ha0)) ?_
  refine go_ops aMi206 2 _ (f1 := (231, ([(6, .int s0), (0, .ref a0), (1, .int i1), (4, .int i4), (5, .int i5), (7, .int i7)], [.int ((I223_14 a0 17) + (1 : Int32)), .ref a0]))) rfl ?_
  obtain ⟨I231_16, hxI231_16, h⟩ := Option.bind_eq_some_iff.mp h
  refine gg_pI aMi206 rfl rfl rfl rfl (by decide) (pI_of (sh11_z ha0) hxI231_16) ?_
  refine go_ops aMi206 1 _ (f1 := (236, ([(6, .int s0), (0, .ref a0), (1, .int i1), (4, .int i4), (5, .int i5), (7, .int i7)], [.int s0]))) rfl ?_
  refine gg_br (b := decide (¬ s0 = 0)) (tg := 243) (off := 7) aMi206 rfl rfl rfl rfl (fun hb => ?_) (fun hb => ?_)
  · rw [if_pos (of_decide_eq_true hb)] at h
    refine go_ops aMi206 5 _ (f1 := (250, ([(6, .int s0), (0, .ref a0), (1, .int i1), (4, .int i4), (5, .int i5), (7, .int i7)], [.int (((100 : Int32) * s0) + i1)]))) rfl ?_
    refine go_le (lv1 := []) (aLe_of (show (List.map (fun q => q.1) ([] : ALv)).Nodup from (by show ([] : List Nat).Nodup; decide)) aSubL_nil) ?_
    exact Tf206_b250 hd a0 ha0 (((100 : Int32) * s0) + i1) I231_16 _ h
  · rw [if_neg (of_decide_eq_false hb)] at h
    refine go_ops aMi206 2 _ (f1 := (250, ([(6, .int s0), (0, .ref a0), (1, .int i1), (4, .int i4), (5, .int i5), (7, .int i7)], [.int (0 : Int32)]))) rfl ?_
    refine go_le (lv1 := []) (aLe_of (show (List.map (fun q => q.1) ([] : ALv)).Nodup from (by show ([] : List Nat).Nodup; decide)) aSubL_nil) ?_
    exact Tf206_b250 hd a0 ha0 (0 : Int32) I231_16 _ h
def f206_b132 (kad : Nat → Nat) (N : Nat) (Z : AZ) (a0 : Nat) (i1 : Int32) (i4 : Int32) (i5 : Int32) (i6 : Int32) (i7 : Int32) (I : AI) : Option (Int32 × AI) :=
  f206_b134 kad N Z a0 i1 i4 i5 i7 i6 I
set_option maxRecDepth 20000 in
theorem Tf206_b132 {kad : Nat → Nat} {N : Nat} {Z : AZ} {d : Nat} {t : Option Nat × (Nat × Nat)} (hd : 2 ≤ d) : ∀ (a0 : Nat) (ha0 : sh11 kad Z a0) (i1 : Int32) (i4 : Int32) (i5 : Int32) (i6 : Int32) (i7 : Int32) (I : AI) (r : Int32 × AI), f206_b132 kad N Z a0 i1 i4 i5 i6 i7 I = some r → aGo kad d 206 (132, ([(0, .ref a0), (1, .int i1), (4, .int i4), (5, .int i5), (6, .int i6), (7, .int i7)], [])) (aMem Z I, t) (qI Z t r) := by
  intro a0 ha0 i1 i4 i5 i6 i7 I r h
  unfold f206_b132 at h
  refine go_ops aMi206 1 _ (f1 := (134, ([(0, .ref a0), (1, .int i1), (4, .int i4), (5, .int i5), (6, .int i6), (7, .int i7)], [.int i6]))) rfl ?_
  refine go_le (lv1 := [(0, .ref a0), (1, .int i1), (4, .int i4), (5, .int i5), (7, .int i7)]) (aLe_of (show (List.map (fun q => q.1) ([(0, .ref a0), (1, .int i1), (4, .int i4), (5, .int i5), (7, .int i7)] : ALv)).Nodup from (by show ([0, 1, 4, 5, 7] : List Nat).Nodup; decide)) (aSubL_cons rfl (aSubL_cons rfl (aSubL_cons rfl (aSubL_cons rfl (aSubL_cons rfl aSubL_nil)))))) ?_
  exact Tf206_b134 hd a0 ha0 i1 i4 i5 i7 i6 I _ h
def f206_b114 (kad : Nat → Nat) (N : Nat) (Z : AZ) (a0 : Nat) (i1 : Int32) (i2 : Int32) (i4 : Int32) (i5 : Int32) (i6 : Int32) (s0 : Int32) (I : AI) : Option (Int32 × AI) :=
  if i2 = 0 then
    f206_b132 kad N Z a0 i1 i4 i5 i6 s0 I
  else
    if ¬ i6 = 0 then
      f206_b132 kad N Z a0 i1 i4 i5 i6 s0 I
    else
      f206_b134 kad N Z a0 i1 i4 i5 s0 (I a0 19) I
set_option maxRecDepth 20000 in
theorem Tf206_b114 {kad : Nat → Nat} {N : Nat} {Z : AZ} {d : Nat} {t : Option Nat × (Nat × Nat)} (hd : 2 ≤ d) : ∀ (a0 : Nat) (ha0 : sh11 kad Z a0) (i1 : Int32) (i2 : Int32) (i4 : Int32) (i5 : Int32) (i6 : Int32) (s0 : Int32) (I : AI) (r : Int32 × AI), f206_b114 kad N Z a0 i1 i2 i4 i5 i6 s0 I = some r → aGo kad d 206 (114, ([(0, .ref a0), (1, .int i1), (2, .int i2), (4, .int i4), (5, .int i5), (6, .int i6)], [.int s0])) (aMem Z I, t) (qI Z t r) := by
  intro a0 ha0 i1 i2 i4 i5 i6 s0 I r h
  unfold f206_b114 at h
  refine go_ops aMi206 2 _ (f1 := (117, ([(7, .int s0), (0, .ref a0), (1, .int i1), (2, .int i2), (4, .int i4), (5, .int i5), (6, .int i6)], [.int i2]))) rfl ?_
  refine gg_br (b := decide (i2 = 0)) (tg := 132) (off := 15) aMi206 rfl rfl rfl rfl (fun hb => ?_) (fun hb => ?_)
  · rw [if_pos (of_decide_eq_true hb)] at h
    refine go_le (lv1 := [(0, .ref a0), (1, .int i1), (4, .int i4), (5, .int i5), (6, .int i6), (7, .int s0)]) (aLe_of (show (List.map (fun q => q.1) ([(0, .ref a0), (1, .int i1), (4, .int i4), (5, .int i5), (6, .int i6), (7, .int s0)] : ALv)).Nodup from (by show ([0, 1, 4, 5, 6, 7] : List Nat).Nodup; decide)) (aSubL_cons rfl (aSubL_cons rfl (aSubL_cons rfl (aSubL_cons rfl (aSubL_cons rfl (aSubL_cons rfl aSubL_nil))))))) ?_
    exact Tf206_b132 hd a0 ha0 i1 i4 i5 i6 s0 I _ h
  · rw [if_neg (of_decide_eq_false hb)] at h
    refine go_ops aMi206 1 _ (f1 := (122, ([(7, .int s0), (0, .ref a0), (1, .int i1), (2, .int i2), (4, .int i4), (5, .int i5), (6, .int i6)], [.int i6]))) rfl ?_
    refine gg_br (b := decide (¬ i6 = 0)) (tg := 132) (off := 10) aMi206 rfl rfl rfl rfl (fun hb => ?_) (fun hb => ?_)
    · rw [if_pos (of_decide_eq_true hb)] at h
      refine go_le (lv1 := [(0, .ref a0), (1, .int i1), (4, .int i4), (5, .int i5), (6, .int i6), (7, .int s0)]) (aLe_of (show (List.map (fun q => q.1) ([(0, .ref a0), (1, .int i1), (4, .int i4), (5, .int i5), (6, .int i6), (7, .int s0)] : ALv)).Nodup from (by show ([0, 1, 4, 5, 6, 7] : List Nat).Nodup; decide)) (aSubL_cons rfl (aSubL_cons rfl (aSubL_cons rfl (aSubL_cons rfl (aSubL_cons rfl (aSubL_cons rfl aSubL_nil))))))) ?_
      exact Tf206_b132 hd a0 ha0 i1 i4 i5 i6 s0 I _ h
    · rw [if_neg (of_decide_eq_false hb)] at h
      refine go_ops aMi206 1 _ (f1 := (126, ([(7, .int s0), (0, .ref a0), (1, .int i1), (2, .int i2), (4, .int i4), (5, .int i5), (6, .int i6)], [.ref a0]))) rfl ?_
      refine gg_gI aMi206 rfl rfl rfl (gI_of (sh11_z ha0)) ?_
      refine go_ops aMi206 1 _ (f1 := (134, ([(7, .int s0), (0, .ref a0), (1, .int i1), (2, .int i2), (4, .int i4), (5, .int i5), (6, .int i6)], [.int (I a0 19)]))) rfl ?_
      refine go_le (lv1 := [(0, .ref a0), (1, .int i1), (4, .int i4), (5, .int i5), (7, .int s0)]) (aLe_of (show (List.map (fun q => q.1) ([(0, .ref a0), (1, .int i1), (4, .int i4), (5, .int i5), (7, .int s0)] : ALv)).Nodup from (by show ([0, 1, 4, 5, 7] : List Nat).Nodup; decide)) (aSubL_cons rfl (aSubL_cons rfl (aSubL_cons rfl (aSubL_cons rfl (aSubL_cons rfl aSubL_nil)))))) ?_
      exact Tf206_b134 hd a0 ha0 i1 i4 i5 s0 (I a0 19) I _ h
def f206_b84 (kad : Nat → Nat) (N : Nat) (Z : AZ) (a0 : Nat) (i1 : Int32) (i2 : Int32) (i3 : Int32) (i4 : Int32) (i5 : Int32) (s0 : Int32) (I : AI) : Option (Int32 × AI) :=
  if i2 = 0 then
    f206_b114 kad N Z a0 i1 i2 i4 i5 s0 (0 : Int32) I
  else
    (ixA 500 (i3 + (2 : Int32))).bind fun j98_1 =>
    (ixA 500 (i3 + (3 : Int32))).bind fun j106_2 =>
    (f205 kad N Z a0 (I (a0 + 2) j98_1) (I (a0 + 2) j106_2) I).bind fun r107_3 =>
    f206_b114 kad N Z a0 i1 i2 i4 i5 s0 r107_3.1 r107_3.2
set_option maxRecDepth 20000 in
theorem Tf206_b84 {kad : Nat → Nat} {N : Nat} {Z : AZ} {d : Nat} {t : Option Nat × (Nat × Nat)} (hd : 2 ≤ d) : ∀ (a0 : Nat) (ha0 : sh11 kad Z a0) (i1 : Int32) (i2 : Int32) (i3 : Int32) (i4 : Int32) (i5 : Int32) (s0 : Int32) (I : AI) (r : Int32 × AI), f206_b84 kad N Z a0 i1 i2 i3 i4 i5 s0 I = some r → aGo kad d 206 (84, ([(0, .ref a0), (1, .int i1), (2, .int i2), (3, .int i3), (4, .int i4), (5, .int i5)], [.int s0])) (aMem Z I, t) (qI Z t r) := by
  intro a0 ha0 i1 i2 i3 i4 i5 s0 I r h
  unfold f206_b84 at h
  refine go_ops aMi206 2 _ (f1 := (87, ([(6, .int s0), (0, .ref a0), (1, .int i1), (2, .int i2), (3, .int i3), (4, .int i4), (5, .int i5)], [.int i2]))) rfl ?_
  refine gg_br (b := decide (i2 = 0)) (tg := 113) (off := 26) aMi206 rfl rfl rfl rfl (fun hb => ?_) (fun hb => ?_)
  · rw [if_pos (of_decide_eq_true hb)] at h
    refine go_ops aMi206 1 _ (f1 := (114, ([(6, .int s0), (0, .ref a0), (1, .int i1), (2, .int i2), (3, .int i3), (4, .int i4), (5, .int i5)], [.int (0 : Int32)]))) rfl ?_
    refine go_le (lv1 := [(0, .ref a0), (1, .int i1), (2, .int i2), (4, .int i4), (5, .int i5), (6, .int s0)]) (aLe_of (show (List.map (fun q => q.1) ([(0, .ref a0), (1, .int i1), (2, .int i2), (4, .int i4), (5, .int i5), (6, .int s0)] : ALv)).Nodup from (by show ([0, 1, 2, 4, 5, 6] : List Nat).Nodup; decide)) (aSubL_cons rfl (aSubL_cons rfl (aSubL_cons rfl (aSubL_cons rfl (aSubL_cons rfl (aSubL_cons rfl aSubL_nil))))))) ?_
    exact Tf206_b114 hd a0 ha0 i1 i2 i4 i5 s0 (0 : Int32) I _ h
  · rw [if_neg (of_decide_eq_false hb)] at h
    refine go_ops aMi206 2 _ (f1 := (92, ([(6, .int s0), (0, .ref a0), (1, .int i1), (2, .int i2), (3, .int i3), (4, .int i4), (5, .int i5)], [.ref a0, .ref a0]))) rfl ?_
    refine gg_gR (b := (a0 + 2)) aMi206 rfl rfl rfl (gR_of (sh11_z ha0) (sh11_r3 ha0)) ?_
    refine go_ops aMi206 3 _ (f1 := (98, ([(6, .int s0), (0, .ref a0), (1, .int i1), (2, .int i2), (3, .int i3), (4, .int i4), (5, .int i5)], [.int (i3 + (2 : Int32)), .ref (a0 + 2), .ref a0]))) rfl ?_
    obtain ⟨j98_1, hxj98_1, h⟩ := Option.bind_eq_some_iff.mp h
    refine gg_lI (Or.inl ⟨rfl, rfl⟩) aMi206 rfl (lI_of (sh11_a3 ha0) hxj98_1) ?_
    refine go_ops aMi206 1 _ (f1 := (100, ([(6, .int s0), (0, .ref a0), (1, .int i1), (2, .int i2), (3, .int i3), (4, .int i4), (5, .int i5)], [.ref a0, .int (I (a0 + 2) j98_1), .ref a0]))) rfl ?_
    refine gg_gR (b := (a0 + 2)) aMi206 rfl rfl rfl (gR_of (sh11_z ha0) (sh11_r3 ha0)) ?_
    refine go_ops aMi206 3 _ (f1 := (106, ([(6, .int s0), (0, .ref a0), (1, .int i1), (2, .int i2), (3, .int i3), (4, .int i4), (5, .int i5)], [.int (i3 + (3 : Int32)), .ref (a0 + 2), .int (I (a0 + 2) j98_1), .ref a0]))) rfl ?_
    obtain ⟨j106_2, hxj106_2, h⟩ := Option.bind_eq_some_iff.mp h
    refine gg_lI (Or.inl ⟨rfl, rfl⟩) aMi206 rfl (lI_of (sh11_a3 ha0) hxj106_2) ?_
    obtain ⟨r107_3, hxr107_3, h⟩ := Option.bind_eq_some_iff.mp h
    refine gg_cv (as := [.int (I (a0 + 2) j98_1), .int (I (a0 + 2) j106_2)]) (r := []) aMi206 rfl rfl rfl aMi205 (Nat.le_of_ble_eq_true rfl) rfl (Nat.le_of_ble_eq_true rfl) (Nat.le_of_ble_eq_true rfl) (by omega) (isK_of (sh11_z ha0)) (Tf205 (by omega) a0 ha0 (I (a0 + 2) j98_1) (I (a0 + 2) j106_2) I _ hxr107_3) ?_
    show aGo kad d 206 (110, ([(6, .int s0), (0, .ref a0), (1, .int i1), (2, .int i2), (3, .int i3), (4, .int i4), (5, .int i5)], [.int r107_3.1])) (aMem Z r107_3.2, t) _
    refine go_ops aMi206 1 _ (f1 := (114, ([(6, .int s0), (0, .ref a0), (1, .int i1), (2, .int i2), (3, .int i3), (4, .int i4), (5, .int i5)], [.int r107_3.1]))) rfl ?_
    refine go_le (lv1 := [(0, .ref a0), (1, .int i1), (2, .int i2), (4, .int i4), (5, .int i5), (6, .int s0)]) (aLe_of (show (List.map (fun q => q.1) ([(0, .ref a0), (1, .int i1), (2, .int i2), (4, .int i4), (5, .int i5), (6, .int s0)] : ALv)).Nodup from (by show ([0, 1, 2, 4, 5, 6] : List Nat).Nodup; decide)) (aSubL_cons rfl (aSubL_cons rfl (aSubL_cons rfl (aSubL_cons rfl (aSubL_cons rfl (aSubL_cons rfl aSubL_nil))))))) ?_
    exact Tf206_b114 hd a0 ha0 i1 i2 i4 i5 s0 r107_3.1 r107_3.2 _ h
def f206_b70 (kad : Nat → Nat) (N : Nat) (Z : AZ) (a0 : Nat) (i1 : Int32) (i2 : Int32) (i3 : Int32) (i4 : Int32) (s0 : Int32) (I : AI) : Option (Int32 × AI) :=
  if i2 = 0 then
    f206_b84 kad N Z a0 i1 i2 i3 i4 s0 (0 : Int32) I
  else
    f206_b84 kad N Z a0 i1 i2 i3 i4 s0 (I a0 19) I
set_option maxRecDepth 20000 in
theorem Tf206_b70 {kad : Nat → Nat} {N : Nat} {Z : AZ} {d : Nat} {t : Option Nat × (Nat × Nat)} (hd : 2 ≤ d) : ∀ (a0 : Nat) (ha0 : sh11 kad Z a0) (i1 : Int32) (i2 : Int32) (i3 : Int32) (i4 : Int32) (s0 : Int32) (I : AI) (r : Int32 × AI), f206_b70 kad N Z a0 i1 i2 i3 i4 s0 I = some r → aGo kad d 206 (70, ([(0, .ref a0), (1, .int i1), (2, .int i2), (3, .int i3), (4, .int i4)], [.int s0])) (aMem Z I, t) (qI Z t r) := by
  intro a0 ha0 i1 i2 i3 i4 s0 I r h
  unfold f206_b70 at h
  refine go_ops aMi206 2 _ (f1 := (73, ([(5, .int s0), (0, .ref a0), (1, .int i1), (2, .int i2), (3, .int i3), (4, .int i4)], [.int i2]))) rfl ?_
  refine gg_br (b := decide (i2 = 0)) (tg := 83) (off := 10) aMi206 rfl rfl rfl rfl (fun hb => ?_) (fun hb => ?_)
  · rw [if_pos (of_decide_eq_true hb)] at h
    refine go_ops aMi206 1 _ (f1 := (84, ([(5, .int s0), (0, .ref a0), (1, .int i1), (2, .int i2), (3, .int i3), (4, .int i4)], [.int (0 : Int32)]))) rfl ?_
    refine go_le (lv1 := [(0, .ref a0), (1, .int i1), (2, .int i2), (3, .int i3), (4, .int i4), (5, .int s0)]) (aLe_of (show (List.map (fun q => q.1) ([(0, .ref a0), (1, .int i1), (2, .int i2), (3, .int i3), (4, .int i4), (5, .int s0)] : ALv)).Nodup from (by show ([0, 1, 2, 3, 4, 5] : List Nat).Nodup; decide)) (aSubL_cons rfl (aSubL_cons rfl (aSubL_cons rfl (aSubL_cons rfl (aSubL_cons rfl (aSubL_cons rfl aSubL_nil))))))) ?_
    exact Tf206_b84 hd a0 ha0 i1 i2 i3 i4 s0 (0 : Int32) I _ h
  · rw [if_neg (of_decide_eq_false hb)] at h
    refine go_ops aMi206 1 _ (f1 := (77, ([(5, .int s0), (0, .ref a0), (1, .int i1), (2, .int i2), (3, .int i3), (4, .int i4)], [.ref a0]))) rfl ?_
    refine gg_gI aMi206 rfl rfl rfl (gI_of (sh11_z ha0)) ?_
    refine go_ops aMi206 1 _ (f1 := (84, ([(5, .int s0), (0, .ref a0), (1, .int i1), (2, .int i2), (3, .int i3), (4, .int i4)], [.int (I a0 19)]))) rfl ?_
    refine go_le (lv1 := [(0, .ref a0), (1, .int i1), (2, .int i2), (3, .int i3), (4, .int i4), (5, .int s0)]) (aLe_of (show (List.map (fun q => q.1) ([(0, .ref a0), (1, .int i1), (2, .int i2), (3, .int i3), (4, .int i4), (5, .int s0)] : ALv)).Nodup from (by show ([0, 1, 2, 3, 4, 5] : List Nat).Nodup; decide)) (aSubL_cons rfl (aSubL_cons rfl (aSubL_cons rfl (aSubL_cons rfl (aSubL_cons rfl (aSubL_cons rfl aSubL_nil))))))) ?_
    exact Tf206_b84 hd a0 ha0 i1 i2 i3 i4 s0 (I a0 19) I _ h
def f206_b44 (kad : Nat → Nat) (N : Nat) (Z : AZ) (a0 : Nat) (i1 : Int32) (i2 : Int32) (i3 : Int32) (i4 : Int32) (I : AI) : Option (Int32 × AI) :=
  if i2 = 0 then
    f206_b70 kad N Z a0 i1 i2 i3 i4 (0 : Int32) I
  else
    (ixA 500 i3).bind fun j54_1 =>
    (ixA 500 (i3 + (1 : Int32))).bind fun j62_2 =>
    (f205 kad N Z a0 (I (a0 + 2) j54_1) (I (a0 + 2) j62_2) I).bind fun r63_3 =>
    f206_b70 kad N Z a0 i1 i2 i3 i4 r63_3.1 r63_3.2
set_option maxRecDepth 20000 in
theorem Tf206_b44 {kad : Nat → Nat} {N : Nat} {Z : AZ} {d : Nat} {t : Option Nat × (Nat × Nat)} (hd : 2 ≤ d) : ∀ (a0 : Nat) (ha0 : sh11 kad Z a0) (i1 : Int32) (i2 : Int32) (i3 : Int32) (i4 : Int32) (I : AI) (r : Int32 × AI), f206_b44 kad N Z a0 i1 i2 i3 i4 I = some r → aGo kad d 206 (44, ([(0, .ref a0), (1, .int i1), (2, .int i2), (3, .int i3), (4, .int i4)], [])) (aMem Z I, t) (qI Z t r) := by
  intro a0 ha0 i1 i2 i3 i4 I r h
  unfold f206_b44 at h
  refine go_ops aMi206 1 _ (f1 := (45, ([(0, .ref a0), (1, .int i1), (2, .int i2), (3, .int i3), (4, .int i4)], [.int i2]))) rfl ?_
  refine gg_br (b := decide (i2 = 0)) (tg := 69) (off := 24) aMi206 rfl rfl rfl rfl (fun hb => ?_) (fun hb => ?_)
  · rw [if_pos (of_decide_eq_true hb)] at h
    refine go_ops aMi206 1 _ (f1 := (70, ([(0, .ref a0), (1, .int i1), (2, .int i2), (3, .int i3), (4, .int i4)], [.int (0 : Int32)]))) rfl ?_
    exact Tf206_b70 hd a0 ha0 i1 i2 i3 i4 (0 : Int32) I _ h
  · rw [if_neg (of_decide_eq_false hb)] at h
    refine go_ops aMi206 2 _ (f1 := (50, ([(0, .ref a0), (1, .int i1), (2, .int i2), (3, .int i3), (4, .int i4)], [.ref a0, .ref a0]))) rfl ?_
    refine gg_gR (b := (a0 + 2)) aMi206 rfl rfl rfl (gR_of (sh11_z ha0) (sh11_r3 ha0)) ?_
    refine go_ops aMi206 1 _ (f1 := (54, ([(0, .ref a0), (1, .int i1), (2, .int i2), (3, .int i3), (4, .int i4)], [.int i3, .ref (a0 + 2), .ref a0]))) rfl ?_
    obtain ⟨j54_1, hxj54_1, h⟩ := Option.bind_eq_some_iff.mp h
    refine gg_lI (Or.inl ⟨rfl, rfl⟩) aMi206 rfl (lI_of (sh11_a3 ha0) hxj54_1) ?_
    refine go_ops aMi206 1 _ (f1 := (56, ([(0, .ref a0), (1, .int i1), (2, .int i2), (3, .int i3), (4, .int i4)], [.ref a0, .int (I (a0 + 2) j54_1), .ref a0]))) rfl ?_
    refine gg_gR (b := (a0 + 2)) aMi206 rfl rfl rfl (gR_of (sh11_z ha0) (sh11_r3 ha0)) ?_
    refine go_ops aMi206 3 _ (f1 := (62, ([(0, .ref a0), (1, .int i1), (2, .int i2), (3, .int i3), (4, .int i4)], [.int (i3 + (1 : Int32)), .ref (a0 + 2), .int (I (a0 + 2) j54_1), .ref a0]))) rfl ?_
    obtain ⟨j62_2, hxj62_2, h⟩ := Option.bind_eq_some_iff.mp h
    refine gg_lI (Or.inl ⟨rfl, rfl⟩) aMi206 rfl (lI_of (sh11_a3 ha0) hxj62_2) ?_
    obtain ⟨r63_3, hxr63_3, h⟩ := Option.bind_eq_some_iff.mp h
    refine gg_cv (as := [.int (I (a0 + 2) j54_1), .int (I (a0 + 2) j62_2)]) (r := []) aMi206 rfl rfl rfl aMi205 (Nat.le_of_ble_eq_true rfl) rfl (Nat.le_of_ble_eq_true rfl) (Nat.le_of_ble_eq_true rfl) (by omega) (isK_of (sh11_z ha0)) (Tf205 (by omega) a0 ha0 (I (a0 + 2) j54_1) (I (a0 + 2) j62_2) I _ hxr63_3) ?_
    show aGo kad d 206 (66, ([(0, .ref a0), (1, .int i1), (2, .int i2), (3, .int i3), (4, .int i4)], [.int r63_3.1])) (aMem Z r63_3.2, t) _
    refine go_ops aMi206 1 _ (f1 := (70, ([(0, .ref a0), (1, .int i1), (2, .int i2), (3, .int i3), (4, .int i4)], [.int r63_3.1]))) rfl ?_
    exact Tf206_b70 hd a0 ha0 i1 i2 i3 i4 r63_3.1 r63_3.2 _ h
def f206 (kad : Nat → Nat) (N : Nat) (Z : AZ) (a0 : Nat) (i1 : Int32) (i2 : Int32) (I : AI) : Option (Int32 × AI) :=
  (ixA 500 (((5 : Int32) * i1) + (4 : Int32))).bind fun j11_1 =>
  if ¬ i2 = 0 then
    f206_b44 kad N Z a0 i1 i2 ((5 : Int32) * i1) (I (a0 + 2) j11_1) I
  else
    (ixA 5 (I (a0 + 2) j11_1)).bind fun j24_2 =>
    if (I (a0 + 5) j24_2) = (Int32.ofInt (-1)) then
      f206_b38 kad N Z a0 i1 I
    else
      (f204 kad N Z a0 (I (a0 + 2) j11_1) I).bind fun r32_3 =>
      if r32_3.1 = 0 then
        f206_b44 kad N Z a0 i1 i2 ((5 : Int32) * i1) (I (a0 + 2) j11_1) r32_3.2
      else
        f206_b38 kad N Z a0 i1 r32_3.2
set_option maxRecDepth 20000 in
theorem Tf206 {kad : Nat → Nat} {N : Nat} {Z : AZ} {d : Nat} {t : Option Nat × (Nat × Nat)} (hd : 2 ≤ d) : ∀ (a0 : Nat) (ha0 : sh11 kad Z a0) (i1 : Int32) (i2 : Int32) (I : AI) (r : Int32 × AI), f206 kad N Z a0 i1 i2 I = some r → aGo kad d 206 (0, ([(0, .ref a0), (1, .int i1), (2, .int i2)], [])) (aMem Z I, t) (qI Z t r) := by
  intro a0 ha0 i1 i2 I r h
  unfold f206 at h
  refine go_ops aMi206 5 _ (f1 := (5, ([(3, .int ((5 : Int32) * i1)), (0, .ref a0), (1, .int i1), (2, .int i2)], [.ref a0]))) rfl ?_
  refine gg_gR (b := (a0 + 2)) aMi206 rfl rfl rfl (gR_of (sh11_z ha0) (sh11_r3 ha0)) ?_
  refine go_ops aMi206 3 _ (f1 := (11, ([(3, .int ((5 : Int32) * i1)), (0, .ref a0), (1, .int i1), (2, .int i2)], [.int (((5 : Int32) * i1) + (4 : Int32)), .ref (a0 + 2)]))) rfl ?_
  obtain ⟨j11_1, hxj11_1, h⟩ := Option.bind_eq_some_iff.mp h
  refine gg_lI (Or.inl ⟨rfl, rfl⟩) aMi206 rfl (lI_of (sh11_a3 ha0) hxj11_1) ?_
  refine go_ops aMi206 2 _ (f1 := (15, ([(4, .int (I (a0 + 2) j11_1)), (3, .int ((5 : Int32) * i1)), (0, .ref a0), (1, .int i1), (2, .int i2)], [.int i2]))) rfl ?_
  refine gg_br (b := decide (¬ i2 = 0)) (tg := 44) (off := 29) aMi206 rfl rfl rfl rfl (fun hb => ?_) (fun hb => ?_)
  · rw [if_pos (of_decide_eq_true hb)] at h
    refine go_le (lv1 := [(0, .ref a0), (1, .int i1), (2, .int i2), (3, .int ((5 : Int32) * i1)), (4, .int (I (a0 + 2) j11_1))]) (aLe_of (show (List.map (fun q => q.1) ([(0, .ref a0), (1, .int i1), (2, .int i2), (3, .int ((5 : Int32) * i1)), (4, .int (I (a0 + 2) j11_1))] : ALv)).Nodup from (by show ([0, 1, 2, 3, 4] : List Nat).Nodup; decide)) (aSubL_cons rfl (aSubL_cons rfl (aSubL_cons rfl (aSubL_cons rfl (aSubL_cons rfl aSubL_nil)))))) ?_
    exact Tf206_b44 hd a0 ha0 i1 i2 ((5 : Int32) * i1) (I (a0 + 2) j11_1) I _ h
  · rw [if_neg (of_decide_eq_false hb)] at h
    refine go_ops aMi206 1 _ (f1 := (19, ([(4, .int (I (a0 + 2) j11_1)), (3, .int ((5 : Int32) * i1)), (0, .ref a0), (1, .int i1), (2, .int i2)], [.ref a0]))) rfl ?_
    refine gg_gR (b := (a0 + 5)) aMi206 rfl rfl rfl (gR_of (sh11_z ha0) (sh11_r6 ha0)) ?_
    refine go_ops aMi206 1 _ (f1 := (24, ([(4, .int (I (a0 + 2) j11_1)), (3, .int ((5 : Int32) * i1)), (0, .ref a0), (1, .int i1), (2, .int i2)], [.int (I (a0 + 2) j11_1), .ref (a0 + 5)]))) rfl ?_
    obtain ⟨j24_2, hxj24_2, h⟩ := Option.bind_eq_some_iff.mp h
    refine gg_lI (Or.inl ⟨rfl, rfl⟩) aMi206 rfl (lI_of (sh11_a6 ha0) hxj24_2) ?_
    refine go_ops aMi206 1 _ (f1 := (26, ([(4, .int (I (a0 + 2) j11_1)), (3, .int ((5 : Int32) * i1)), (0, .ref a0), (1, .int i1), (2, .int i2)], [.int (Int32.ofInt (-1)), .int (I (a0 + 5) j24_2)]))) rfl ?_
    refine gg_br (b := decide ((I (a0 + 5) j24_2) = (Int32.ofInt (-1)))) (tg := 38) (off := 12) aMi206 rfl rfl rfl rfl (fun hb => ?_) (fun hb => ?_)
    · rw [if_pos (of_decide_eq_true hb)] at h
      refine go_le (lv1 := [(1, .int i1)]) (aLe_of (show (List.map (fun q => q.1) ([(1, .int i1)] : ALv)).Nodup from (by show ([1] : List Nat).Nodup; decide)) (aSubL_cons rfl aSubL_nil)) ?_
      exact Tf206_b38 hd a0 ha0 i1 I _ h
    · rw [if_neg (of_decide_eq_false hb)] at h
      refine go_ops aMi206 2 _ (f1 := (32, ([(4, .int (I (a0 + 2) j11_1)), (3, .int ((5 : Int32) * i1)), (0, .ref a0), (1, .int i1), (2, .int i2)], [.int (I (a0 + 2) j11_1), .ref a0]))) rfl ?_
      obtain ⟨r32_3, hxr32_3, h⟩ := Option.bind_eq_some_iff.mp h
      refine gg_cv (as := [.int (I (a0 + 2) j11_1)]) (r := []) aMi206 rfl rfl rfl aMi204 (Nat.le_of_ble_eq_true rfl) rfl (Nat.le_of_ble_eq_true rfl) (Nat.le_of_ble_eq_true rfl) (by omega) (isK_of (sh11_z ha0)) (Tf204 (by omega) a0 ha0 (I (a0 + 2) j11_1) I _ hxr32_3) ?_
      show aGo kad d 206 (35, ([(4, .int (I (a0 + 2) j11_1)), (3, .int ((5 : Int32) * i1)), (0, .ref a0), (1, .int i1), (2, .int i2)], [.int r32_3.1])) (aMem Z r32_3.2, t) _
      refine gg_br (b := decide (r32_3.1 = 0)) (tg := 44) (off := 9) aMi206 rfl rfl rfl rfl (fun hb => ?_) (fun hb => ?_)
      · rw [if_pos (of_decide_eq_true hb)] at h
        refine go_le (lv1 := [(0, .ref a0), (1, .int i1), (2, .int i2), (3, .int ((5 : Int32) * i1)), (4, .int (I (a0 + 2) j11_1))]) (aLe_of (show (List.map (fun q => q.1) ([(0, .ref a0), (1, .int i1), (2, .int i2), (3, .int ((5 : Int32) * i1)), (4, .int (I (a0 + 2) j11_1))] : ALv)).Nodup from (by show ([0, 1, 2, 3, 4] : List Nat).Nodup; decide)) (aSubL_cons rfl (aSubL_cons rfl (aSubL_cons rfl (aSubL_cons rfl (aSubL_cons rfl aSubL_nil)))))) ?_
        exact Tf206_b44 hd a0 ha0 i1 i2 ((5 : Int32) * i1) (I (a0 + 2) j11_1) r32_3.2 _ h
      · rw [if_neg (of_decide_eq_false hb)] at h
        refine go_le (lv1 := [(1, .int i1)]) (aLe_of (show (List.map (fun q => q.1) ([(1, .int i1)] : ALv)).Nodup from (by show ([1] : List Nat).Nodup; decide)) (aSubL_cons rfl aSubL_nil)) ?_
        exact Tf206_b38 hd a0 ha0 i1 r32_3.2 _ h
-- KernelGymModel.setsLabel (I)I
def f207 (kad : Nat → Nat) (N : Nat) (Z : AZ) (a0 : Nat) (i1 : Int32) (I : AI) : Option (Int32 × AI) :=
  (ixA 500 ((5 : Int32) * i1)).bind fun j8_1 =>
  (f200 kad N Z a0 (I (a0 + 2) j8_1) I).bind fun r9_2 =>
  (ixA 1220 r9_2.1).bind fun j18_3 =>
  if (r9_2.2 (a0 + 3) j18_3) = (Int32.ofInt (-1)) then
    (ixA 2 ((r9_2.2) a0 15)).bind fun j50_4 =>
    (ixA 1220 r9_2.1).bind fun j52_6 =>
    (wI r9_2.2 (a0 + 3) j52_6 (((1000 : Int32) * ((r9_2.2) a0 15)) + (r9_2.2 (a0 + 4) j50_4))).bind fun I52_5 =>
    some ((0 : Int32), I52_5)
  else
    some (((200 : Int32) + i1), r9_2.2)
set_option maxRecDepth 20000 in
theorem Tf207 {kad : Nat → Nat} {N : Nat} {Z : AZ} {d : Nat} {t : Option Nat × (Nat × Nat)} (hd : 1 ≤ d) : ∀ (a0 : Nat) (ha0 : sh11 kad Z a0) (i1 : Int32) (I : AI) (r : Int32 × AI), f207 kad N Z a0 i1 I = some r → aGo kad d 207 (0, ([(0, .ref a0), (1, .int i1)], [])) (aMem Z I, t) (qI Z t r) := by
  intro a0 ha0 i1 I r h
  unfold f207 at h
  refine go_ops aMi207 2 _ (f1 := (2, ([(0, .ref a0), (1, .int i1)], [.ref a0, .ref a0]))) rfl ?_
  refine gg_gR (b := (a0 + 2)) aMi207 rfl rfl rfl (gR_of (sh11_z ha0) (sh11_r3 ha0)) ?_
  refine go_ops aMi207 3 _ (f1 := (8, ([(0, .ref a0), (1, .int i1)], [.int ((5 : Int32) * i1), .ref (a0 + 2), .ref a0]))) rfl ?_
  obtain ⟨j8_1, hxj8_1, h⟩ := Option.bind_eq_some_iff.mp h
  refine gg_lI (Or.inl ⟨rfl, rfl⟩) aMi207 rfl (lI_of (sh11_a3 ha0) hxj8_1) ?_
  obtain ⟨r9_2, hxr9_2, h⟩ := Option.bind_eq_some_iff.mp h
  refine gg_cv (as := [.int (I (a0 + 2) j8_1)]) (r := []) aMi207 rfl rfl rfl aMi200 (Nat.le_of_ble_eq_true rfl) rfl (Nat.le_of_ble_eq_true rfl) (Nat.le_of_ble_eq_true rfl) (by omega) (isK_of (sh11_z ha0)) (Tf200 (by omega) a0 ha0 (I (a0 + 2) j8_1) I _ hxr9_2) ?_
  show aGo kad d 207 (12, ([(0, .ref a0), (1, .int i1)], [.int r9_2.1])) (aMem Z r9_2.2, t) _
  refine go_ops aMi207 2 _ (f1 := (14, ([(2, .int r9_2.1), (0, .ref a0), (1, .int i1)], [.ref a0]))) rfl ?_
  refine gg_gR (b := (a0 + 3)) aMi207 rfl rfl rfl (gR_of (sh11_z ha0) (sh11_r4 ha0)) ?_
  refine go_ops aMi207 1 _ (f1 := (18, ([(2, .int r9_2.1), (0, .ref a0), (1, .int i1)], [.int r9_2.1, .ref (a0 + 3)]))) rfl ?_
  obtain ⟨j18_3, hxj18_3, h⟩ := Option.bind_eq_some_iff.mp h
  refine gg_lI (Or.inl ⟨rfl, rfl⟩) aMi207 rfl (lI_of (sh11_a4 ha0) hxj18_3) ?_
  refine go_ops aMi207 1 _ (f1 := (20, ([(2, .int r9_2.1), (0, .ref a0), (1, .int i1)], [.int (Int32.ofInt (-1)), .int (r9_2.2 (a0 + 3) j18_3)]))) rfl ?_
  refine gg_br (b := decide ((r9_2.2 (a0 + 3) j18_3) = (Int32.ofInt (-1)))) (tg := 29) (off := 9) aMi207 rfl rfl rfl rfl (fun hb => ?_) (fun hb => ?_)
  · rw [if_pos (of_decide_eq_true hb)] at h
    refine go_ops aMi207 1 _ (f1 := (30, ([(2, .int r9_2.1), (0, .ref a0), (1, .int i1)], [.ref a0]))) rfl ?_
    refine gg_gR (b := (a0 + 3)) aMi207 rfl rfl rfl (gR_of (sh11_z ha0) (sh11_r4 ha0)) ?_
    refine go_ops aMi207 3 _ (f1 := (38, ([(2, .int r9_2.1), (0, .ref a0), (1, .int i1)], [.ref a0, .int (1000 : Int32), .int r9_2.1, .ref (a0 + 3)]))) rfl ?_
    refine gg_gI aMi207 rfl rfl rfl (gI_of (sh11_z ha0)) ?_
    refine go_ops aMi207 2 _ (f1 := (43, ([(2, .int r9_2.1), (0, .ref a0), (1, .int i1)], [.ref a0, .int ((1000 : Int32) * ((r9_2.2) a0 15)), .int r9_2.1, .ref (a0 + 3)]))) rfl ?_
    refine gg_gR (b := (a0 + 4)) aMi207 rfl rfl rfl (gR_of (sh11_z ha0) (sh11_r5 ha0)) ?_
    refine go_ops aMi207 1 _ (f1 := (47, ([(2, .int r9_2.1), (0, .ref a0), (1, .int i1)], [.ref a0, .ref (a0 + 4), .int ((1000 : Int32) * ((r9_2.2) a0 15)), .int r9_2.1, .ref (a0 + 3)]))) rfl ?_
    refine gg_gI aMi207 rfl rfl rfl (gI_of (sh11_z ha0)) ?_
    obtain ⟨j50_4, hxj50_4, h⟩ := Option.bind_eq_some_iff.mp h
    refine gg_lI (Or.inl ⟨rfl, rfl⟩) aMi207 rfl (lI_of (sh11_a5 ha0) hxj50_4) ?_
    refine go_ops aMi207 1 _ (f1 := (52, ([(2, .int r9_2.1), (0, .ref a0), (1, .int i1)], [.int (((1000 : Int32) * ((r9_2.2) a0 15)) + (r9_2.2 (a0 + 4) j50_4)), .int r9_2.1, .ref (a0 + 3)]))) rfl ?_
    obtain ⟨j52_6, hxj52_6, h⟩ := Option.bind_eq_some_iff.mp h
    obtain ⟨I52_5, hxI52_5, h⟩ := Option.bind_eq_some_iff.mp h
    refine gg_sI (Or.inl ⟨rfl, rfl⟩) aMi207 rfl (sI_of (sh11_a4 ha0) hxj52_6 hxI52_5) ?_
    refine go_ops aMi207 1 _ (f1 := (54, ([(2, .int r9_2.1), (0, .ref a0), (1, .int i1)], [.int (0 : Int32)]))) rfl ?_
    cases h
    exact go_ret aMi207 rfl aRetI ⟨rfl, rfl⟩
  · rw [if_neg (of_decide_eq_false hb)] at h
    refine go_ops aMi207 3 _ (f1 := (28, ([(2, .int r9_2.1), (0, .ref a0), (1, .int i1)], [.int ((200 : Int32) + i1)]))) rfl ?_
    cases h
    exact go_ret aMi207 rfl aRetI ⟨rfl, rfl⟩
-- KernelGymModel.puts (I)V
def f208_b20 (kad : Nat → Nat) (N : Nat) (Z : AZ) (a0 : Nat) (i1 : Int32) (s0 : Int32) (I : AI) : Option (Unit × AI) :=
  (ixA 2 (I a0 15)).bind fun j28_1 =>
  (ixA 256 (s0 + (I (a0 + 4) j28_1))).bind fun j31_3 =>
  (wI I (a0 + 13) j31_3 i1).bind fun I31_2 =>
  (ixA 2 (I31_2 a0 15)).bind fun j41_4 =>
  (ixA 2 (I31_2 a0 15)).bind fun j44_6 =>
  (wI I31_2 (a0 + 4) j44_6 ((I31_2 (a0 + 4) j41_4) + (1 : Int32))).bind fun I44_5 =>
  some ((), I44_5)
set_option maxRecDepth 20000 in
theorem Tf208_b20 {kad : Nat → Nat} {N : Nat} {Z : AZ} {d : Nat} {t : Option Nat × (Nat × Nat)} (hd : 0 ≤ d) : ∀ (a0 : Nat) (ha0 : sh11 kad Z a0) (i1 : Int32) (s0 : Int32) (I : AI) (r : Unit × AI), f208_b20 kad N Z a0 i1 s0 I = some r → aGo kad d 208 (20, ([(0, .ref a0), (1, .int i1)], [.int s0, .ref (a0 + 13)])) (aMem Z I, t) (qV Z t r) := by
  intro a0 ha0 i1 s0 I r h
  unfold f208_b20 at h
  refine go_ops aMi208 1 _ (f1 := (21, ([(0, .ref a0), (1, .int i1)], [.ref a0, .int s0, .ref (a0 + 13)]))) rfl ?_
  refine gg_gR (b := (a0 + 4)) aMi208 rfl rfl rfl (gR_of (sh11_z ha0) (sh11_r5 ha0)) ?_
  refine go_ops aMi208 1 _ (f1 := (25, ([(0, .ref a0), (1, .int i1)], [.ref a0, .ref (a0 + 4), .int s0, .ref (a0 + 13)]))) rfl ?_
  refine gg_gI aMi208 rfl rfl rfl (gI_of (sh11_z ha0)) ?_
  obtain ⟨j28_1, hxj28_1, h⟩ := Option.bind_eq_some_iff.mp h
  refine gg_lI (Or.inl ⟨rfl, rfl⟩) aMi208 rfl (lI_of (sh11_a5 ha0) hxj28_1) ?_
  refine go_ops aMi208 2 _ (f1 := (31, ([(0, .ref a0), (1, .int i1)], [.int i1, .int (s0 + (I (a0 + 4) j28_1)), .ref (a0 + 13)]))) rfl ?_
  obtain ⟨j31_3, hxj31_3, h⟩ := Option.bind_eq_some_iff.mp h
  obtain ⟨I31_2, hxI31_2, h⟩ := Option.bind_eq_some_iff.mp h
  refine gg_sI (Or.inl ⟨rfl, rfl⟩) aMi208 rfl (sI_of (sh11_a20 ha0) hxj31_3 hxI31_2) ?_
  refine go_ops aMi208 1 _ (f1 := (33, ([(0, .ref a0), (1, .int i1)], [.ref a0]))) rfl ?_
  refine gg_gR (b := (a0 + 4)) aMi208 rfl rfl rfl (gR_of (sh11_z ha0) (sh11_r5 ha0)) ?_
  refine go_ops aMi208 1 _ (f1 := (37, ([(0, .ref a0), (1, .int i1)], [.ref a0, .ref (a0 + 4)]))) rfl ?_
  refine gg_gI aMi208 rfl rfl rfl (gI_of (sh11_z ha0)) ?_
  refine go_ops aMi208 1 _ (f1 := (41, ([(0, .ref a0), (1, .int i1)], [.int (I31_2 a0 15), .ref (a0 + 4), .int (I31_2 a0 15), .ref (a0 + 4)]))) rfl ?_
  obtain ⟨j41_4, hxj41_4, h⟩ := Option.bind_eq_some_iff.mp h
  refine gg_lI (Or.inl ⟨rfl, rfl⟩) aMi208 rfl (lI_of (sh11_a5 ha0) hxj41_4) ?_
  refine go_ops aMi208 2 _ (f1 := (44, ([(0, .ref a0), (1, .int i1)], [.int ((I31_2 (a0 + 4) j41_4) + (1 : Int32)), .int (I31_2 a0 15), .ref (a0 + 4)]))) rfl ?_
  obtain ⟨j44_6, hxj44_6, h⟩ := Option.bind_eq_some_iff.mp h
  obtain ⟨I44_5, hxI44_5, h⟩ := Option.bind_eq_some_iff.mp h
  refine gg_sI (Or.inl ⟨rfl, rfl⟩) aMi208 rfl (sI_of (sh11_a5 ha0) hxj44_6 hxI44_5) ?_
  cases h
  exact go_ret aMi208 rfl rfl ⟨rfl, rfl⟩
def f208 (kad : Nat → Nat) (N : Nat) (Z : AZ) (a0 : Nat) (i1 : Int32) (I : AI) : Option (Unit × AI) :=
  if ¬ (I a0 15) = 0 then
    f208_b20 kad N Z a0 i1 (I a0 18) I
  else
    f208_b20 kad N Z a0 i1 (8 : Int32) I
set_option maxRecDepth 20000 in
theorem Tf208 {kad : Nat → Nat} {N : Nat} {Z : AZ} {d : Nat} {t : Option Nat × (Nat × Nat)} (hd : 0 ≤ d) : ∀ (a0 : Nat) (ha0 : sh11 kad Z a0) (i1 : Int32) (I : AI) (r : Unit × AI), f208 kad N Z a0 i1 I = some r → aGo kad d 208 (0, ([(0, .ref a0), (1, .int i1)], [])) (aMem Z I, t) (qV Z t r) := by
  intro a0 ha0 i1 I r h
  unfold f208 at h
  refine go_ops aMi208 1 _ (f1 := (1, ([(0, .ref a0), (1, .int i1)], [.ref a0]))) rfl ?_
  refine gg_gR (b := (a0 + 13)) aMi208 rfl rfl rfl (gR_of (sh11_z ha0) (sh11_r20 ha0)) ?_
  refine go_ops aMi208 1 _ (f1 := (5, ([(0, .ref a0), (1, .int i1)], [.ref a0, .ref (a0 + 13)]))) rfl ?_
  refine gg_gI aMi208 rfl rfl rfl (gI_of (sh11_z ha0)) ?_
  refine gg_br (b := decide (¬ (I a0 15) = 0)) (tg := 16) (off := 8) aMi208 rfl rfl rfl rfl (fun hb => ?_) (fun hb => ?_)
  · rw [if_pos (of_decide_eq_true hb)] at h
    refine go_ops aMi208 1 _ (f1 := (17, ([(0, .ref a0), (1, .int i1)], [.ref a0, .ref (a0 + 13)]))) rfl ?_
    refine gg_gI aMi208 rfl rfl rfl (gI_of (sh11_z ha0)) ?_
    exact Tf208_b20 hd a0 ha0 i1 (I a0 18) I _ h
  · rw [if_neg (of_decide_eq_false hb)] at h
    refine go_ops aMi208 2 _ (f1 := (20, ([(0, .ref a0), (1, .int i1)], [.int (8 : Int32), .ref (a0 + 13)]))) rfl ?_
    exact Tf208_b20 hd a0 ha0 i1 (8 : Int32) I _ h
-- KernelGymModel.builds (I)I
def f209_b129 (kad : Nat → Nat) (N : Nat) (Z : AZ) (a0 : Nat) (i4 : Int32) (I : AI) : Option (Int32 × AI) :=
  (f208 kad N Z a0 i4 I).bind fun r132_1 =>
  some ((0 : Int32), r132_1.2)
set_option maxRecDepth 20000 in
theorem Tf209_b129 {kad : Nat → Nat} {N : Nat} {Z : AZ} {d : Nat} {t : Option Nat × (Nat × Nat)} (hd : 2 ≤ d) : ∀ (a0 : Nat) (ha0 : sh11 kad Z a0) (i4 : Int32) (I : AI) (r : Int32 × AI), f209_b129 kad N Z a0 i4 I = some r → aGo kad d 209 (129, ([(0, .ref a0), (4, .int i4)], [])) (aMem Z I, t) (qI Z t r) := by
  intro a0 ha0 i4 I r h
  unfold f209_b129 at h
  refine go_ops aMi209 2 _ (f1 := (132, ([(0, .ref a0), (4, .int i4)], [.int i4, .ref a0]))) rfl ?_
  obtain ⟨r132_1, hxr132_1, h⟩ := Option.bind_eq_some_iff.mp h
  refine gg_cv (as := [.int i4]) (r := []) aMi209 rfl rfl rfl aMi208 (Nat.le_of_ble_eq_true rfl) rfl (Nat.le_of_ble_eq_true rfl) (Nat.le_of_ble_eq_true rfl) (by omega) (isK_of (sh11_z ha0)) (Tf208 (by omega) a0 ha0 i4 I _ hxr132_1) ?_
  show aGo kad d 209 (135, ([(0, .ref a0), (4, .int i4)], [])) (aMem Z r132_1.2, t) _
  refine go_ops aMi209 1 _ (f1 := (136, ([(0, .ref a0), (4, .int i4)], [.int (0 : Int32)]))) rfl ?_
  cases h
  exact go_ret aMi209 rfl aRetI ⟨rfl, rfl⟩
def f209_b53 (kad : Nat → Nat) (N : Nat) (Z : AZ) (a0 : Nat) (i1 : Int32) (i2 : Int32) (i3 : Int32) (I : AI) : Option (Int32 × AI) :=
  (ixA 500 i2).bind fun j59_1 =>
  (ixA 500 (i2 + (1 : Int32))).bind fun j67_2 =>
  (f205 kad N Z a0 (I (a0 + 2) j59_1) (I (a0 + 2) j67_2) I).bind fun r68_3 =>
  if ((r68_3.2) a0 19) = 0 then
    if ¬ i3 = (5 : Int32) then
      if ¬ i3 = (2 : Int32) then
        f209_b129 kad N Z a0 r68_3.1 r68_3.2
      else
        (ixA 500 (i2 + (2 : Int32))).bind fun j125_4 =>
        (f208 kad N Z a0 (r68_3.2 (a0 + 2) j125_4) r68_3.2).bind fun r126_5 =>
        f209_b129 kad N Z a0 r68_3.1 r126_5.2
    else
      (ixA 500 (i2 + (2 : Int32))).bind fun j106_6 =>
      (ixA 256 (r68_3.2 (a0 + 2) j106_6)).bind fun j109_8 =>
      (wI r68_3.2 (a0 + 13) j109_8 r68_3.1).bind fun I109_7 =>
      some ((0 : Int32), I109_7)
  else
    some ((((100 : Int32) * ((r68_3.2) a0 19)) + i1), r68_3.2)
set_option maxRecDepth 20000 in
theorem Tf209_b53 {kad : Nat → Nat} {N : Nat} {Z : AZ} {d : Nat} {t : Option Nat × (Nat × Nat)} (hd : 2 ≤ d) : ∀ (a0 : Nat) (ha0 : sh11 kad Z a0) (i1 : Int32) (i2 : Int32) (i3 : Int32) (I : AI) (r : Int32 × AI), f209_b53 kad N Z a0 i1 i2 i3 I = some r → aGo kad d 209 (53, ([(0, .ref a0), (1, .int i1), (2, .int i2), (3, .int i3)], [])) (aMem Z I, t) (qI Z t r) := by
  intro a0 ha0 i1 i2 i3 I r h
  unfold f209_b53 at h
  refine go_ops aMi209 2 _ (f1 := (55, ([(0, .ref a0), (1, .int i1), (2, .int i2), (3, .int i3)], [.ref a0, .ref a0]))) rfl ?_
  refine gg_gR (b := (a0 + 2)) aMi209 rfl rfl rfl (gR_of (sh11_z ha0) (sh11_r3 ha0)) ?_
  refine go_ops aMi209 1 _ (f1 := (59, ([(0, .ref a0), (1, .int i1), (2, .int i2), (3, .int i3)], [.int i2, .ref (a0 + 2), .ref a0]))) rfl ?_
  obtain ⟨j59_1, hxj59_1, h⟩ := Option.bind_eq_some_iff.mp h
  refine gg_lI (Or.inl ⟨rfl, rfl⟩) aMi209 rfl (lI_of (sh11_a3 ha0) hxj59_1) ?_
  refine go_ops aMi209 1 _ (f1 := (61, ([(0, .ref a0), (1, .int i1), (2, .int i2), (3, .int i3)], [.ref a0, .int (I (a0 + 2) j59_1), .ref a0]))) rfl ?_
  refine gg_gR (b := (a0 + 2)) aMi209 rfl rfl rfl (gR_of (sh11_z ha0) (sh11_r3 ha0)) ?_
  refine go_ops aMi209 3 _ (f1 := (67, ([(0, .ref a0), (1, .int i1), (2, .int i2), (3, .int i3)], [.int (i2 + (1 : Int32)), .ref (a0 + 2), .int (I (a0 + 2) j59_1), .ref a0]))) rfl ?_
  obtain ⟨j67_2, hxj67_2, h⟩ := Option.bind_eq_some_iff.mp h
  refine gg_lI (Or.inl ⟨rfl, rfl⟩) aMi209 rfl (lI_of (sh11_a3 ha0) hxj67_2) ?_
  obtain ⟨r68_3, hxr68_3, h⟩ := Option.bind_eq_some_iff.mp h
  refine gg_cv (as := [.int (I (a0 + 2) j59_1), .int (I (a0 + 2) j67_2)]) (r := []) aMi209 rfl rfl rfl aMi205 (Nat.le_of_ble_eq_true rfl) rfl (Nat.le_of_ble_eq_true rfl) (Nat.le_of_ble_eq_true rfl) (by omega) (isK_of (sh11_z ha0)) (Tf205 (by omega) a0 ha0 (I (a0 + 2) j59_1) (I (a0 + 2) j67_2) I _ hxr68_3) ?_
  show aGo kad d 209 (71, ([(0, .ref a0), (1, .int i1), (2, .int i2), (3, .int i3)], [.int r68_3.1])) (aMem Z r68_3.2, t) _
  refine go_ops aMi209 2 _ (f1 := (74, ([(4, .int r68_3.1), (0, .ref a0), (1, .int i1), (2, .int i2), (3, .int i3)], [.ref a0]))) rfl ?_
  refine gg_gI aMi209 rfl rfl rfl (gI_of (sh11_z ha0)) ?_
  refine gg_br (b := decide (((r68_3.2) a0 19) = 0)) (tg := 90) (off := 13) aMi209 rfl rfl rfl rfl (fun hb => ?_) (fun hb => ?_)
  · rw [if_pos (of_decide_eq_true hb)] at h
    refine go_ops aMi209 2 _ (f1 := (92, ([(4, .int r68_3.1), (0, .ref a0), (1, .int i1), (2, .int i2), (3, .int i3)], [.int (5 : Int32), .int i3]))) rfl ?_
    refine gg_br (b := decide (¬ i3 = (5 : Int32))) (tg := 112) (off := 20) aMi209 rfl rfl rfl rfl (fun hb => ?_) (fun hb => ?_)
    · rw [if_pos (of_decide_eq_true hb)] at h
      refine go_ops aMi209 2 _ (f1 := (114, ([(4, .int r68_3.1), (0, .ref a0), (1, .int i1), (2, .int i2), (3, .int i3)], [.int (2 : Int32), .int i3]))) rfl ?_
      refine gg_br (b := decide (¬ i3 = (2 : Int32))) (tg := 129) (off := 15) aMi209 rfl rfl rfl rfl (fun hb => ?_) (fun hb => ?_)
      · rw [if_pos (of_decide_eq_true hb)] at h
        refine go_le (lv1 := [(0, .ref a0), (4, .int r68_3.1)]) (aLe_of (show (List.map (fun q => q.1) ([(0, .ref a0), (4, .int r68_3.1)] : ALv)).Nodup from (by show ([0, 4] : List Nat).Nodup; decide)) (aSubL_cons rfl (aSubL_cons rfl aSubL_nil))) ?_
        exact Tf209_b129 hd a0 ha0 r68_3.1 r68_3.2 _ h
      · rw [if_neg (of_decide_eq_false hb)] at h
        refine go_ops aMi209 2 _ (f1 := (119, ([(4, .int r68_3.1), (0, .ref a0), (1, .int i1), (2, .int i2), (3, .int i3)], [.ref a0, .ref a0]))) rfl ?_
        refine gg_gR (b := (a0 + 2)) aMi209 rfl rfl rfl (gR_of (sh11_z ha0) (sh11_r3 ha0)) ?_
        refine go_ops aMi209 3 _ (f1 := (125, ([(4, .int r68_3.1), (0, .ref a0), (1, .int i1), (2, .int i2), (3, .int i3)], [.int (i2 + (2 : Int32)), .ref (a0 + 2), .ref a0]))) rfl ?_
        obtain ⟨j125_4, hxj125_4, h⟩ := Option.bind_eq_some_iff.mp h
        refine gg_lI (Or.inl ⟨rfl, rfl⟩) aMi209 rfl (lI_of (sh11_a3 ha0) hxj125_4) ?_
        obtain ⟨r126_5, hxr126_5, h⟩ := Option.bind_eq_some_iff.mp h
        refine gg_cv (as := [.int (r68_3.2 (a0 + 2) j125_4)]) (r := []) aMi209 rfl rfl rfl aMi208 (Nat.le_of_ble_eq_true rfl) rfl (Nat.le_of_ble_eq_true rfl) (Nat.le_of_ble_eq_true rfl) (by omega) (isK_of (sh11_z ha0)) (Tf208 (by omega) a0 ha0 (r68_3.2 (a0 + 2) j125_4) r68_3.2 _ hxr126_5) ?_
        show aGo kad d 209 (129, ([(4, .int r68_3.1), (0, .ref a0), (1, .int i1), (2, .int i2), (3, .int i3)], [])) (aMem Z r126_5.2, t) _
        refine go_le (lv1 := [(0, .ref a0), (4, .int r68_3.1)]) (aLe_of (show (List.map (fun q => q.1) ([(0, .ref a0), (4, .int r68_3.1)] : ALv)).Nodup from (by show ([0, 4] : List Nat).Nodup; decide)) (aSubL_cons rfl (aSubL_cons rfl aSubL_nil))) ?_
        exact Tf209_b129 hd a0 ha0 r68_3.1 r126_5.2 _ h
    · rw [if_neg (of_decide_eq_false hb)] at h
      refine go_ops aMi209 1 _ (f1 := (96, ([(4, .int r68_3.1), (0, .ref a0), (1, .int i1), (2, .int i2), (3, .int i3)], [.ref a0]))) rfl ?_
      refine gg_gR (b := (a0 + 13)) aMi209 rfl rfl rfl (gR_of (sh11_z ha0) (sh11_r20 ha0)) ?_
      refine go_ops aMi209 1 _ (f1 := (100, ([(4, .int r68_3.1), (0, .ref a0), (1, .int i1), (2, .int i2), (3, .int i3)], [.ref a0, .ref (a0 + 13)]))) rfl ?_
      refine gg_gR (b := (a0 + 2)) aMi209 rfl rfl rfl (gR_of (sh11_z ha0) (sh11_r3 ha0)) ?_
      refine go_ops aMi209 3 _ (f1 := (106, ([(4, .int r68_3.1), (0, .ref a0), (1, .int i1), (2, .int i2), (3, .int i3)], [.int (i2 + (2 : Int32)), .ref (a0 + 2), .ref (a0 + 13)]))) rfl ?_
      obtain ⟨j106_6, hxj106_6, h⟩ := Option.bind_eq_some_iff.mp h
      refine gg_lI (Or.inl ⟨rfl, rfl⟩) aMi209 rfl (lI_of (sh11_a3 ha0) hxj106_6) ?_
      refine go_ops aMi209 1 _ (f1 := (109, ([(4, .int r68_3.1), (0, .ref a0), (1, .int i1), (2, .int i2), (3, .int i3)], [.int r68_3.1, .int (r68_3.2 (a0 + 2) j106_6), .ref (a0 + 13)]))) rfl ?_
      obtain ⟨j109_8, hxj109_8, h⟩ := Option.bind_eq_some_iff.mp h
      obtain ⟨I109_7, hxI109_7, h⟩ := Option.bind_eq_some_iff.mp h
      refine gg_sI (Or.inl ⟨rfl, rfl⟩) aMi209 rfl (sI_of (sh11_a20 ha0) hxj109_8 hxI109_7) ?_
      refine go_ops aMi209 1 _ (f1 := (111, ([(4, .int r68_3.1), (0, .ref a0), (1, .int i1), (2, .int i2), (3, .int i3)], [.int (0 : Int32)]))) rfl ?_
      cases h
      exact go_ret aMi209 rfl aRetI ⟨rfl, rfl⟩
  · rw [if_neg (of_decide_eq_false hb)] at h
    refine go_ops aMi209 2 _ (f1 := (83, ([(4, .int r68_3.1), (0, .ref a0), (1, .int i1), (2, .int i2), (3, .int i3)], [.ref a0, .int (100 : Int32)]))) rfl ?_
    refine gg_gI aMi209 rfl rfl rfl (gI_of (sh11_z ha0)) ?_
    refine go_ops aMi209 3 _ (f1 := (89, ([(4, .int r68_3.1), (0, .ref a0), (1, .int i1), (2, .int i2), (3, .int i3)], [.int (((100 : Int32) * ((r68_3.2) a0 19)) + i1)]))) rfl ?_
    cases h
    exact go_ret aMi209 rfl aRetI ⟨rfl, rfl⟩
def f209 (kad : Nat → Nat) (N : Nat) (Z : AZ) (a0 : Nat) (i1 : Int32) (I : AI) : Option (Int32 × AI) :=
  (ixA 100 i1).bind fun j9_1 =>
  if ¬ (I (a0 + 1) j9_1) = (4 : Int32) then
    if (I (a0 + 1) j9_1) = (2 : Int32) then
      f209_b53 kad N Z a0 i1 ((5 : Int32) * i1) (I (a0 + 1) j9_1) I
    else
      if (I (a0 + 1) j9_1) = (3 : Int32) then
        f209_b53 kad N Z a0 i1 ((5 : Int32) * i1) (I (a0 + 1) j9_1) I
      else
        if (I (a0 + 1) j9_1) = (5 : Int32) then
          f209_b53 kad N Z a0 i1 ((5 : Int32) * i1) (I (a0 + 1) j9_1) I
        else
          some ((0 : Int32), I)
  else
    (ixA 2 (I a0 15)).bind fun j25_2 =>
    (ixA 500 ((5 : Int32) * i1)).bind fun j31_3 =>
    (ixA 2 (I a0 15)).bind fun j33_5 =>
    (wI I (a0 + 4) j33_5 ((I (a0 + 4) j25_2) + (I (a0 + 2) j31_3))).bind fun I33_4 =>
    some ((0 : Int32), I33_4)
set_option maxRecDepth 20000 in
theorem Tf209 {kad : Nat → Nat} {N : Nat} {Z : AZ} {d : Nat} {t : Option Nat × (Nat × Nat)} (hd : 2 ≤ d) : ∀ (a0 : Nat) (ha0 : sh11 kad Z a0) (i1 : Int32) (I : AI) (r : Int32 × AI), f209 kad N Z a0 i1 I = some r → aGo kad d 209 (0, ([(0, .ref a0), (1, .int i1)], [])) (aMem Z I, t) (qI Z t r) := by
  intro a0 ha0 i1 I r h
  unfold f209 at h
  refine go_ops aMi209 5 _ (f1 := (5, ([(2, .int ((5 : Int32) * i1)), (0, .ref a0), (1, .int i1)], [.ref a0]))) rfl ?_
  refine gg_gR (b := (a0 + 1)) aMi209 rfl rfl rfl (gR_of (sh11_z ha0) (sh11_r2 ha0)) ?_
  refine go_ops aMi209 1 _ (f1 := (9, ([(2, .int ((5 : Int32) * i1)), (0, .ref a0), (1, .int i1)], [.int i1, .ref (a0 + 1)]))) rfl ?_
  obtain ⟨j9_1, hxj9_1, h⟩ := Option.bind_eq_some_iff.mp h
  refine gg_lI (Or.inl ⟨rfl, rfl⟩) aMi209 rfl (lI_of (sh11_a2 ha0) hxj9_1) ?_
  refine go_ops aMi209 3 _ (f1 := (13, ([(3, .int (I (a0 + 1) j9_1)), (2, .int ((5 : Int32) * i1)), (0, .ref a0), (1, .int i1)], [.int (4 : Int32), .int (I (a0 + 1) j9_1)]))) rfl ?_
  refine gg_br (b := decide (¬ (I (a0 + 1) j9_1) = (4 : Int32))) (tg := 36) (off := 23) aMi209 rfl rfl rfl rfl (fun hb => ?_) (fun hb => ?_)
  · rw [if_pos (of_decide_eq_true hb)] at h
    refine go_ops aMi209 2 _ (f1 := (38, ([(3, .int (I (a0 + 1) j9_1)), (2, .int ((5 : Int32) * i1)), (0, .ref a0), (1, .int i1)], [.int (2 : Int32), .int (I (a0 + 1) j9_1)]))) rfl ?_
    refine gg_br (b := decide ((I (a0 + 1) j9_1) = (2 : Int32))) (tg := 53) (off := 15) aMi209 rfl rfl rfl rfl (fun hb => ?_) (fun hb => ?_)
    · rw [if_pos (of_decide_eq_true hb)] at h
      refine go_le (lv1 := [(0, .ref a0), (1, .int i1), (2, .int ((5 : Int32) * i1)), (3, .int (I (a0 + 1) j9_1))]) (aLe_of (show (List.map (fun q => q.1) ([(0, .ref a0), (1, .int i1), (2, .int ((5 : Int32) * i1)), (3, .int (I (a0 + 1) j9_1))] : ALv)).Nodup from (by show ([0, 1, 2, 3] : List Nat).Nodup; decide)) (aSubL_cons rfl (aSubL_cons rfl (aSubL_cons rfl (aSubL_cons rfl aSubL_nil))))) ?_
      exact Tf209_b53 hd a0 ha0 i1 ((5 : Int32) * i1) (I (a0 + 1) j9_1) I _ h
    · rw [if_neg (of_decide_eq_false hb)] at h
      refine go_ops aMi209 2 _ (f1 := (43, ([(3, .int (I (a0 + 1) j9_1)), (2, .int ((5 : Int32) * i1)), (0, .ref a0), (1, .int i1)], [.int (3 : Int32), .int (I (a0 + 1) j9_1)]))) rfl ?_
      refine gg_br (b := decide ((I (a0 + 1) j9_1) = (3 : Int32))) (tg := 53) (off := 10) aMi209 rfl rfl rfl rfl (fun hb => ?_) (fun hb => ?_)
      · rw [if_pos (of_decide_eq_true hb)] at h
        refine go_le (lv1 := [(0, .ref a0), (1, .int i1), (2, .int ((5 : Int32) * i1)), (3, .int (I (a0 + 1) j9_1))]) (aLe_of (show (List.map (fun q => q.1) ([(0, .ref a0), (1, .int i1), (2, .int ((5 : Int32) * i1)), (3, .int (I (a0 + 1) j9_1))] : ALv)).Nodup from (by show ([0, 1, 2, 3] : List Nat).Nodup; decide)) (aSubL_cons rfl (aSubL_cons rfl (aSubL_cons rfl (aSubL_cons rfl aSubL_nil))))) ?_
        exact Tf209_b53 hd a0 ha0 i1 ((5 : Int32) * i1) (I (a0 + 1) j9_1) I _ h
      · rw [if_neg (of_decide_eq_false hb)] at h
        refine go_ops aMi209 2 _ (f1 := (48, ([(3, .int (I (a0 + 1) j9_1)), (2, .int ((5 : Int32) * i1)), (0, .ref a0), (1, .int i1)], [.int (5 : Int32), .int (I (a0 + 1) j9_1)]))) rfl ?_
        refine gg_br (b := decide ((I (a0 + 1) j9_1) = (5 : Int32))) (tg := 53) (off := 5) aMi209 rfl rfl rfl rfl (fun hb => ?_) (fun hb => ?_)
        · rw [if_pos (of_decide_eq_true hb)] at h
          refine go_le (lv1 := [(0, .ref a0), (1, .int i1), (2, .int ((5 : Int32) * i1)), (3, .int (I (a0 + 1) j9_1))]) (aLe_of (show (List.map (fun q => q.1) ([(0, .ref a0), (1, .int i1), (2, .int ((5 : Int32) * i1)), (3, .int (I (a0 + 1) j9_1))] : ALv)).Nodup from (by show ([0, 1, 2, 3] : List Nat).Nodup; decide)) (aSubL_cons rfl (aSubL_cons rfl (aSubL_cons rfl (aSubL_cons rfl aSubL_nil))))) ?_
          exact Tf209_b53 hd a0 ha0 i1 ((5 : Int32) * i1) (I (a0 + 1) j9_1) I _ h
        · rw [if_neg (of_decide_eq_false hb)] at h
          refine go_ops aMi209 1 _ (f1 := (52, ([(3, .int (I (a0 + 1) j9_1)), (2, .int ((5 : Int32) * i1)), (0, .ref a0), (1, .int i1)], [.int (0 : Int32)]))) rfl ?_
          cases h
          exact go_ret aMi209 rfl aRetI ⟨rfl, rfl⟩
  · rw [if_neg (of_decide_eq_false hb)] at h
    refine go_ops aMi209 1 _ (f1 := (17, ([(3, .int (I (a0 + 1) j9_1)), (2, .int ((5 : Int32) * i1)), (0, .ref a0), (1, .int i1)], [.ref a0]))) rfl ?_
    refine gg_gR (b := (a0 + 4)) aMi209 rfl rfl rfl (gR_of (sh11_z ha0) (sh11_r5 ha0)) ?_
    refine go_ops aMi209 1 _ (f1 := (21, ([(3, .int (I (a0 + 1) j9_1)), (2, .int ((5 : Int32) * i1)), (0, .ref a0), (1, .int i1)], [.ref a0, .ref (a0 + 4)]))) rfl ?_
    refine gg_gI aMi209 rfl rfl rfl (gI_of (sh11_z ha0)) ?_
    refine go_ops aMi209 1 _ (f1 := (25, ([(3, .int (I (a0 + 1) j9_1)), (2, .int ((5 : Int32) * i1)), (0, .ref a0), (1, .int i1)], [.int (I a0 15), .ref (a0 + 4), .int (I a0 15), .ref (a0 + 4)]))) rfl ?_
    obtain ⟨j25_2, hxj25_2, h⟩ := Option.bind_eq_some_iff.mp h
    refine gg_lI (Or.inl ⟨rfl, rfl⟩) aMi209 rfl (lI_of (sh11_a5 ha0) hxj25_2) ?_
    refine go_ops aMi209 1 _ (f1 := (27, ([(3, .int (I (a0 + 1) j9_1)), (2, .int ((5 : Int32) * i1)), (0, .ref a0), (1, .int i1)], [.ref a0, .int (I (a0 + 4) j25_2), .int (I a0 15), .ref (a0 + 4)]))) rfl ?_
    refine gg_gR (b := (a0 + 2)) aMi209 rfl rfl rfl (gR_of (sh11_z ha0) (sh11_r3 ha0)) ?_
    refine go_ops aMi209 1 _ (f1 := (31, ([(3, .int (I (a0 + 1) j9_1)), (2, .int ((5 : Int32) * i1)), (0, .ref a0), (1, .int i1)], [.int ((5 : Int32) * i1), .ref (a0 + 2), .int (I (a0 + 4) j25_2), .int (I a0 15), .ref (a0 + 4)]))) rfl ?_
    obtain ⟨j31_3, hxj31_3, h⟩ := Option.bind_eq_some_iff.mp h
    refine gg_lI (Or.inl ⟨rfl, rfl⟩) aMi209 rfl (lI_of (sh11_a3 ha0) hxj31_3) ?_
    refine go_ops aMi209 1 _ (f1 := (33, ([(3, .int (I (a0 + 1) j9_1)), (2, .int ((5 : Int32) * i1)), (0, .ref a0), (1, .int i1)], [.int ((I (a0 + 4) j25_2) + (I (a0 + 2) j31_3)), .int (I a0 15), .ref (a0 + 4)]))) rfl ?_
    obtain ⟨j33_5, hxj33_5, h⟩ := Option.bind_eq_some_iff.mp h
    obtain ⟨I33_4, hxI33_4, h⟩ := Option.bind_eq_some_iff.mp h
    refine gg_sI (Or.inl ⟨rfl, rfl⟩) aMi209 rfl (sI_of (sh11_a5 ha0) hxj33_5 hxI33_4) ?_
    refine go_ops aMi209 1 _ (f1 := (35, ([(3, .int (I (a0 + 1) j9_1)), (2, .int ((5 : Int32) * i1)), (0, .ref a0), (1, .int i1)], [.int (0 : Int32)]))) rfl ?_
    cases h
    exact go_ret aMi209 rfl aRetI ⟨rfl, rfl⟩
