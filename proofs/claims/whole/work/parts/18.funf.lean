-- KernelGym$Trial.setBudgets (IIII)V
def f119 (kad : Nat → Nat) (N : Nat) (Z : AZ) (a0 : Nat) (i1 : Int32) (i2 : Int32) (i3 : Int32) (i4 : Int32) (I : AI) : Option (Unit × AI) :=
  (wI I a0 5 i1).bind fun I2_1 =>
  (wI I2_1 a0 6 i2).bind fun I7_2 =>
  (wI I7_2 a0 7 i3).bind fun I12_3 =>
  (wI I12_3 a0 8 i4).bind fun I18_4 =>
  some ((), I18_4)
set_option maxRecDepth 20000 in
theorem Tf119 {kad : Nat → Nat} {N : Nat} {Z : AZ} {d : Nat} {t : Option Nat × (Nat × Nat)} (hd : 0 ≤ d) : ∀ (a0 : Nat) (ha0 : sh9 kad Z a0) (i1 : Int32) (i2 : Int32) (i3 : Int32) (i4 : Int32) (I : AI) (r : Unit × AI), f119 kad N Z a0 i1 i2 i3 i4 I = some r → aGo kad d 119 (0, ([(0, .ref a0), (1, .int i1), (2, .int i2), (3, .int i3), (4, .int i4)], [])) (aMem Z I, t) (qV Z t r) := by
  intro a0 ha0 i1 i2 i3 i4 I r h
  unfold f119 at h
  refine go_ops aMi119 2 _ (f1 := (2, ([(0, .ref a0), (1, .int i1), (2, .int i2), (3, .int i3), (4, .int i4)], [.int i1, .ref a0]))) rfl ?_
  obtain ⟨I2_1, hxI2_1, h⟩ := Option.bind_eq_some_iff.mp h
  refine gg_pI aMi119 rfl rfl rfl rfl (by decide) (pI_of (sh9_z ha0) hxI2_1) ?_
  refine go_ops aMi119 2 _ (f1 := (7, ([(0, .ref a0), (1, .int i1), (2, .int i2), (3, .int i3), (4, .int i4)], [.int i2, .ref a0]))) rfl ?_
  obtain ⟨I7_2, hxI7_2, h⟩ := Option.bind_eq_some_iff.mp h
  refine gg_pI aMi119 rfl rfl rfl rfl (by decide) (pI_of (sh9_z ha0) hxI7_2) ?_
  refine go_ops aMi119 2 _ (f1 := (12, ([(0, .ref a0), (1, .int i1), (2, .int i2), (3, .int i3), (4, .int i4)], [.int i3, .ref a0]))) rfl ?_
  obtain ⟨I12_3, hxI12_3, h⟩ := Option.bind_eq_some_iff.mp h
  refine gg_pI aMi119 rfl rfl rfl rfl (by decide) (pI_of (sh9_z ha0) hxI12_3) ?_
  refine go_ops aMi119 2 _ (f1 := (18, ([(0, .ref a0), (1, .int i1), (2, .int i2), (3, .int i3), (4, .int i4)], [.int i4, .ref a0]))) rfl ?_
  obtain ⟨I18_4, hxI18_4, h⟩ := Option.bind_eq_some_iff.mp h
  refine gg_pI aMi119 rfl rfl rfl rfl (by decide) (pI_of (sh9_z ha0) hxI18_4) ?_
  cases h
  exact go_ret aMi119 rfl rfl ⟨rfl, rfl⟩
-- KernelGym$Trial.judge (LKernelGym$Machine;)I
def f121_b74 (kad : Nat → Nat) (N : Nat) (Z : AZ) (a0 : Nat) (a1 : Nat) (s0 : Int32) (I : AI) : Option (Int32 × AI) :=
  some (s0, I)
set_option maxRecDepth 20000 in
theorem Tf121_b74 {kad : Nat → Nat} {N : Nat} {Z : AZ} {d : Nat} {t : Option Nat × (Nat × Nat)} (hd : 5 ≤ d) : ∀ (a0 : Nat) (ha0 : sh9 kad Z a0) (a1 : Nat) (ha1 : sh8 kad Z a1) (s0 : Int32) (I : AI) (r : Int32 × AI), f121_b74 kad N Z a0 a1 s0 I = some r → aGo kad d 121 (74, ([], [.int s0])) (aMem Z I, t) (qI Z t r) := by
  intro a0 ha0 a1 ha1 s0 I r h
  unfold f121_b74 at h
  cases h
  exact go_ret aMi121 rfl aRetI ⟨rfl, rfl⟩
def f121 (kad : Nat → Nat) (N : Nat) (Z : AZ) (a0 : Nat) (a1 : Nat) (I : AI) : Option (Int32 × AI) :=
  if ¬ (I (a1 + 1) 0) = (3 : Int32) then
    if ¬ (I (a1 + 1) 0) = (1 : Int32) then
      if (I (a1 + 8) 1) ≤ (I a0 6) then
        (f111 kad N Z a1 (a0 + 2) (I a0 1) I).bind fun r51_1 =>
        if ¬ r51_1.1 = 0 then
          (f58 kad N Z (a1 + 8) r51_1.2).bind fun r63_2 =>
          if r63_2.1 = 0 then
            f121_b74 kad N Z a0 a1 (5 : Int32) r63_2.2
          else
            f121_b74 kad N Z a0 a1 (0 : Int32) r63_2.2
        else
          some ((4 : Int32), r51_1.2)
      else
        some ((3 : Int32), I)
    else
      some ((2 : Int32), I)
  else
    some ((1 : Int32), I)
set_option maxRecDepth 20000 in
theorem Tf121 {kad : Nat → Nat} {N : Nat} {Z : AZ} {d : Nat} {t : Option Nat × (Nat × Nat)} (hd : 5 ≤ d) : ∀ (a0 : Nat) (ha0 : sh9 kad Z a0) (a1 : Nat) (ha1 : sh8 kad Z a1) (I : AI) (r : Int32 × AI), f121 kad N Z a0 a1 I = some r → aGo kad d 121 (0, ([(0, .ref a0), (1, .ref a1)], [])) (aMem Z I, t) (qI Z t r) := by
  intro a0 ha0 a1 ha1 I r h
  unfold f121 at h
  refine go_ops aMi121 1 _ (f1 := (1, ([(0, .ref a0), (1, .ref a1)], [.ref a1]))) rfl ?_
  refine gg_gR (b := (a1 + 1)) aMi121 rfl rfl rfl (gR_of (sh8_z ha1) (sh8_r0 ha1)) ?_
  refine gg_gI aMi121 rfl rfl rfl (gI_of (sh2_z (sh8_s0 ha1))) ?_
  refine go_ops aMi121 1 _ (f1 := (8, ([(0, .ref a0), (1, .ref a1)], [.int (3 : Int32), .int (I (a1 + 1) 0)]))) rfl ?_
  refine gg_br (b := decide (¬ (I (a1 + 1) 0) = (3 : Int32))) (tg := 13) (off := 5) aMi121 rfl rfl rfl rfl (fun hb => ?_) (fun hb => ?_)
  · rw [if_pos (of_decide_eq_true hb)] at h
    refine go_ops aMi121 1 _ (f1 := (14, ([(0, .ref a0), (1, .ref a1)], [.ref a1]))) rfl ?_
    refine gg_gR (b := (a1 + 1)) aMi121 rfl rfl rfl (gR_of (sh8_z ha1) (sh8_r0 ha1)) ?_
    refine gg_gI aMi121 rfl rfl rfl (gI_of (sh2_z (sh8_s0 ha1))) ?_
    refine go_ops aMi121 1 _ (f1 := (21, ([(0, .ref a0), (1, .ref a1)], [.int (1 : Int32), .int (I (a1 + 1) 0)]))) rfl ?_
    refine gg_br (b := decide (¬ (I (a1 + 1) 0) = (1 : Int32))) (tg := 26) (off := 5) aMi121 rfl rfl rfl rfl (fun hb => ?_) (fun hb => ?_)
    · rw [if_pos (of_decide_eq_true hb)] at h
      refine go_ops aMi121 1 _ (f1 := (27, ([(0, .ref a0), (1, .ref a1)], [.ref a1]))) rfl ?_
      refine gg_gR (b := (a1 + 8)) aMi121 rfl rfl rfl (gR_of (sh8_z ha1) (sh8_r3 ha1)) ?_
      refine gg_gI aMi121 rfl rfl rfl (gI_of (sh3_z (sh8_s3 ha1))) ?_
      refine go_ops aMi121 1 _ (f1 := (34, ([(0, .ref a0), (1, .ref a1)], [.ref a0, .int (I (a1 + 8) 1)]))) rfl ?_
      refine gg_gI aMi121 rfl rfl rfl (gI_of (sh9_z ha0)) ?_
      refine gg_br (b := decide ((I (a1 + 8) 1) ≤ (I a0 6))) (tg := 42) (off := 5) aMi121 rfl rfl rfl rfl (fun hb => ?_) (fun hb => ?_)
      · rw [if_pos (of_decide_eq_true hb)] at h
        refine go_ops aMi121 2 _ (f1 := (44, ([(0, .ref a0), (1, .ref a1)], [.ref a0, .ref a1]))) rfl ?_
        refine gg_gR (b := (a0 + 2)) aMi121 rfl rfl rfl (gR_of (sh9_z ha0) (sh9_r4 ha0)) ?_
        refine go_ops aMi121 1 _ (f1 := (48, ([(0, .ref a0), (1, .ref a1)], [.ref a0, .ref (a0 + 2), .ref a1]))) rfl ?_
        refine gg_gI aMi121 rfl rfl rfl (gI_of (sh9_z ha0)) ?_
        obtain ⟨r51_1, hxr51_1, h⟩ := Option.bind_eq_some_iff.mp h
        refine gg_cv (as := [.ref (a0 + 2), .int (I a0 1)]) (r := []) aMi121 rfl rfl rfl aMi111 (Nat.le_of_ble_eq_true rfl) rfl (Nat.le_of_ble_eq_true rfl) (Nat.le_of_ble_eq_true rfl) (by omega) (isK_of (sh8_z ha1)) (Tf111 (by omega) a1 ha1 (a0 + 2) (I a0 1) I _ hxr51_1) ?_
        show aGo kad d 121 (54, ([(0, .ref a0), (1, .ref a1)], [.int r51_1.1])) (aMem Z r51_1.2, t) _
        refine gg_br (b := decide (¬ r51_1.1 = 0)) (tg := 59) (off := 5) aMi121 rfl rfl rfl rfl (fun hb => ?_) (fun hb => ?_)
        · rw [if_pos (of_decide_eq_true hb)] at h
          refine go_ops aMi121 1 _ (f1 := (60, ([(0, .ref a0), (1, .ref a1)], [.ref a1]))) rfl ?_
          refine gg_gR (b := (a1 + 8)) aMi121 rfl rfl rfl (gR_of (sh8_z ha1) (sh8_r3 ha1)) ?_
          obtain ⟨r63_2, hxr63_2, h⟩ := Option.bind_eq_some_iff.mp h
          refine gg_cv (as := []) (r := []) aMi121 rfl rfl rfl aMi58 (Nat.le_of_ble_eq_true rfl) rfl (Nat.le_of_ble_eq_true rfl) (Nat.le_of_ble_eq_true rfl) (by omega) (isK_of (sh3_z (sh8_s3 ha1))) (Tf58 (by omega) (a1 + 8) (sh8_s3 ha1) r51_1.2 _ hxr63_2) ?_
          show aGo kad d 121 (66, ([(0, .ref a0), (1, .ref a1)], [.int r63_2.1])) (aMem Z r63_2.2, t) _
          refine gg_br (b := decide (r63_2.1 = 0)) (tg := 73) (off := 7) aMi121 rfl rfl rfl rfl (fun hb => ?_) (fun hb => ?_)
          · rw [if_pos (of_decide_eq_true hb)] at h
            refine go_ops aMi121 1 _ (f1 := (74, ([(0, .ref a0), (1, .ref a1)], [.int (5 : Int32)]))) rfl ?_
            refine go_le (lv1 := []) (aLe_of (show (List.map (fun q => q.1) ([] : ALv)).Nodup from (by show ([] : List Nat).Nodup; decide)) aSubL_nil) ?_
            exact Tf121_b74 hd a0 ha0 a1 ha1 (5 : Int32) r63_2.2 _ h
          · rw [if_neg (of_decide_eq_false hb)] at h
            refine go_ops aMi121 2 _ (f1 := (74, ([(0, .ref a0), (1, .ref a1)], [.int (0 : Int32)]))) rfl ?_
            refine go_le (lv1 := []) (aLe_of (show (List.map (fun q => q.1) ([] : ALv)).Nodup from (by show ([] : List Nat).Nodup; decide)) aSubL_nil) ?_
            exact Tf121_b74 hd a0 ha0 a1 ha1 (0 : Int32) r63_2.2 _ h
        · rw [if_neg (of_decide_eq_false hb)] at h
          refine go_ops aMi121 1 _ (f1 := (58, ([(0, .ref a0), (1, .ref a1)], [.int (4 : Int32)]))) rfl ?_
          cases h
          exact go_ret aMi121 rfl aRetI ⟨rfl, rfl⟩
      · rw [if_neg (of_decide_eq_false hb)] at h
        refine go_ops aMi121 1 _ (f1 := (41, ([(0, .ref a0), (1, .ref a1)], [.int (3 : Int32)]))) rfl ?_
        cases h
        exact go_ret aMi121 rfl aRetI ⟨rfl, rfl⟩
    · rw [if_neg (of_decide_eq_false hb)] at h
      refine go_ops aMi121 1 _ (f1 := (25, ([(0, .ref a0), (1, .ref a1)], [.int (2 : Int32)]))) rfl ?_
      cases h
      exact go_ret aMi121 rfl aRetI ⟨rfl, rfl⟩
  · rw [if_neg (of_decide_eq_false hb)] at h
    refine go_ops aMi121 1 _ (f1 := (12, ([(0, .ref a0), (1, .ref a1)], [.int (1 : Int32)]))) rfl ?_
    cases h
    exact go_ret aMi121 rfl aRetI ⟨rfl, rfl⟩
-- KernelGym$Trial.makeOn (LKernelGym$Machine;[ILKernelGym$Kept;)V
def f120_b121 (kad : Nat → Nat) (N : Nat) (Z : AZ) (k63 : Nat → Nat → Nat → Nat → Int32 → AI → Option (Unit × AI)) (a0 : Nat) (a1 : Nat) (a3 : Nat) (b2 : Nat) (i4 : Int32) (I : AI) : Option (Unit × AI) :=
  k63 a0 a1 a3 b2 (i4 + (1 : Int32)) I
set_option maxRecDepth 20000 in
theorem Tf120_b121 {kad : Nat → Nat} {N : Nat} {Z : AZ} {d : Nat} {t : Option Nat × (Nat × Nat)} (hd : 10 ≤ d) (k63 : Nat → Nat → Nat → Nat → Int32 → AI → Option (Unit × AI))  (hk63 : ∀ (a0 : Nat) (ha0 : sh9 kad Z a0) (a1 : Nat) (ha1 : sh8 kad Z a1) (a3 : Nat) (ha3 : sh5 kad Z a3) (b2 : Nat) (i4 : Int32) (I : AI) (r : Unit × AI), k63 a0 a1 a3 b2 i4 I = some r → aGo kad d 120 (63, ([(0, .ref a0), (1, .ref a1), (2, .ref b2), (3, .ref a3), (4, .int i4)], [])) (aMem Z I, t) (qV Z t r)) : ∀ (a0 : Nat) (ha0 : sh9 kad Z a0) (a1 : Nat) (ha1 : sh8 kad Z a1) (a3 : Nat) (ha3 : sh5 kad Z a3) (b2 : Nat) (i4 : Int32) (I : AI) (r : Unit × AI), f120_b121 kad N Z k63 a0 a1 a3 b2 i4 I = some r → aGo kad d 120 (121, ([(0, .ref a0), (1, .ref a1), (2, .ref b2), (3, .ref a3), (4, .int i4)], [])) (aMem Z I, t) (qV Z t r) := by
  intro a0 ha0 a1 ha1 a3 ha3 b2 i4 I r h
  unfold f120_b121 at h
  refine go_ops aMi120 2 _ (f1 := (63, ([(4, .int (i4 + (1 : Int32))), (0, .ref a0), (1, .ref a1), (2, .ref b2), (3, .ref a3)], []))) rfl ?_
  refine go_le (lv1 := [(0, .ref a0), (1, .ref a1), (2, .ref b2), (3, .ref a3), (4, .int (i4 + (1 : Int32)))]) (aLe_of (show (List.map (fun q => q.1) ([(0, .ref a0), (1, .ref a1), (2, .ref b2), (3, .ref a3), (4, .int (i4 + (1 : Int32)))] : ALv)).Nodup from (by show ([0, 1, 2, 3, 4] : List Nat).Nodup; decide)) (aSubL_cons rfl (aSubL_cons rfl (aSubL_cons rfl (aSubL_cons rfl (aSubL_cons rfl aSubL_nil)))))) ?_
  exact hk63 a0 ha0 a1 ha1 a3 ha3 b2 (i4 + (1 : Int32)) I _ h
def f120_b156 (kad : Nat → Nat) (N : Nat) (Z : AZ) (a0 : Nat) (a1 : Nat) (a3 : Nat) (s0 : Int32) (I : AI) : Option (Unit × AI) :=
  (wB I a0 9 s0).bind fun I156_1 =>
  some ((), I156_1)
set_option maxRecDepth 20000 in
theorem Tf120_b156 {kad : Nat → Nat} {N : Nat} {Z : AZ} {d : Nat} {t : Option Nat × (Nat × Nat)} (hd : 10 ≤ d) : ∀ (a0 : Nat) (ha0 : sh9 kad Z a0) (a1 : Nat) (ha1 : sh8 kad Z a1) (a3 : Nat) (ha3 : sh5 kad Z a3) (s0 : Int32) (I : AI) (r : Unit × AI), f120_b156 kad N Z a0 a1 a3 s0 I = some r → aGo kad d 120 (156, ([], [.int s0, .ref a0])) (aMem Z I, t) (qV Z t r) := by
  intro a0 ha0 a1 ha1 a3 ha3 s0 I r h
  unfold f120_b156 at h
  obtain ⟨I156_1, hxI156_1, h⟩ := Option.bind_eq_some_iff.mp h
  refine gg_pB aMi120 rfl rfl rfl rfl (by decide) (pB_of (sh9_z ha0) hxI156_1) ?_
  cases h
  exact go_ret aMi120 rfl rfl ⟨rfl, rfl⟩
def f120_b151 (kad : Nat → Nat) (N : Nat) (Z : AZ) (a0 : Nat) (a1 : Nat) (a3 : Nat) (I : AI) : Option (Unit × AI) :=
  f120_b156 kad N Z a0 a1 a3 (1 : Int32) I
set_option maxRecDepth 20000 in
theorem Tf120_b151 {kad : Nat → Nat} {N : Nat} {Z : AZ} {d : Nat} {t : Option Nat × (Nat × Nat)} (hd : 10 ≤ d) : ∀ (a0 : Nat) (ha0 : sh9 kad Z a0) (a1 : Nat) (ha1 : sh8 kad Z a1) (a3 : Nat) (ha3 : sh5 kad Z a3) (I : AI) (r : Unit × AI), f120_b151 kad N Z a0 a1 a3 I = some r → aGo kad d 120 (151, ([], [.ref a0])) (aMem Z I, t) (qV Z t r) := by
  intro a0 ha0 a1 ha1 a3 ha3 I r h
  unfold f120_b151 at h
  refine go_ops aMi120 2 _ (f1 := (156, ([], [.int (1 : Int32), .ref a0]))) rfl ?_
  exact Tf120_b156 hd a0 ha0 a1 ha1 a3 ha3 (1 : Int32) I _ h
def f120_b127 (kad : Nat → Nat) (N : Nat) (Z : AZ) (a0 : Nat) (a1 : Nat) (a3 : Nat) (I : AI) : Option (Unit × AI) :=
  (f121 kad N Z a0 a1 I).bind fun r130_1 =>
  (wI r130_1.2 a0 2 r130_1.1).bind fun I133_2 =>
  if ¬ (I133_2 a0 9) = 0 then
    f120_b151 kad N Z a0 a1 a3 I133_2
  else
    if ¬ (I133_2 a0 2) = 0 then
      f120_b156 kad N Z a0 a1 a3 (0 : Int32) I133_2
    else
      f120_b151 kad N Z a0 a1 a3 I133_2
set_option maxRecDepth 20000 in
theorem Tf120_b127 {kad : Nat → Nat} {N : Nat} {Z : AZ} {d : Nat} {t : Option Nat × (Nat × Nat)} (hd : 10 ≤ d) : ∀ (a0 : Nat) (ha0 : sh9 kad Z a0) (a1 : Nat) (ha1 : sh8 kad Z a1) (a3 : Nat) (ha3 : sh5 kad Z a3) (I : AI) (r : Unit × AI), f120_b127 kad N Z a0 a1 a3 I = some r → aGo kad d 120 (127, ([(0, .ref a0), (1, .ref a1)], [])) (aMem Z I, t) (qV Z t r) := by
  intro a0 ha0 a1 ha1 a3 ha3 I r h
  unfold f120_b127 at h
  refine go_ops aMi120 3 _ (f1 := (130, ([(0, .ref a0), (1, .ref a1)], [.ref a1, .ref a0, .ref a0]))) rfl ?_
  obtain ⟨r130_1, hxr130_1, h⟩ := Option.bind_eq_some_iff.mp h
  refine gg_cv (as := [.ref a1]) (r := [.ref a0]) aMi120 rfl rfl rfl aMi121 (Nat.le_of_ble_eq_true rfl) rfl (Nat.le_of_ble_eq_true rfl) (Nat.le_of_ble_eq_true rfl) (by omega) (isK_of (sh9_z ha0)) (Tf121 (by omega) a0 ha0 a1 ha1 I _ hxr130_1) ?_
  show aGo kad d 120 (133, ([(0, .ref a0), (1, .ref a1)], [.int r130_1.1, .ref a0])) (aMem Z r130_1.2, t) _
  obtain ⟨I133_2, hxI133_2, h⟩ := Option.bind_eq_some_iff.mp h
  refine gg_pI aMi120 rfl rfl rfl rfl (by decide) (pI_of (sh9_z ha0) hxI133_2) ?_
  refine go_ops aMi120 2 _ (f1 := (138, ([(0, .ref a0), (1, .ref a1)], [.ref a0, .ref a0]))) rfl ?_
  refine gg_gI aMi120 rfl rfl rfl (gI_of (sh9_z ha0)) ?_
  refine gg_br (b := decide (¬ (I133_2 a0 9) = 0)) (tg := 151) (off := 10) aMi120 rfl rfl rfl rfl (fun hb => ?_) (fun hb => ?_)
  · rw [if_pos (of_decide_eq_true hb)] at h
    refine go_le (lv1 := []) (aLe_of (show (List.map (fun q => q.1) ([] : ALv)).Nodup from (by show ([] : List Nat).Nodup; decide)) aSubL_nil) ?_
    exact Tf120_b151 hd a0 ha0 a1 ha1 a3 ha3 I133_2 _ h
  · rw [if_neg (of_decide_eq_false hb)] at h
    refine go_ops aMi120 1 _ (f1 := (145, ([(0, .ref a0), (1, .ref a1)], [.ref a0, .ref a0]))) rfl ?_
    refine gg_gI aMi120 rfl rfl rfl (gI_of (sh9_z ha0)) ?_
    refine gg_br (b := decide (¬ (I133_2 a0 2) = 0)) (tg := 155) (off := 7) aMi120 rfl rfl rfl rfl (fun hb => ?_) (fun hb => ?_)
    · rw [if_pos (of_decide_eq_true hb)] at h
      refine go_ops aMi120 1 _ (f1 := (156, ([(0, .ref a0), (1, .ref a1)], [.int (0 : Int32), .ref a0]))) rfl ?_
      refine go_le (lv1 := []) (aLe_of (show (List.map (fun q => q.1) ([] : ALv)).Nodup from (by show ([] : List Nat).Nodup; decide)) aSubL_nil) ?_
      exact Tf120_b156 hd a0 ha0 a1 ha1 a3 ha3 (0 : Int32) I133_2 _ h
    · rw [if_neg (of_decide_eq_false hb)] at h
      refine go_le (lv1 := []) (aLe_of (show (List.map (fun q => q.1) ([] : ALv)).Nodup from (by show ([] : List Nat).Nodup; decide)) aSubL_nil) ?_
      exact Tf120_b151 hd a0 ha0 a1 ha1 a3 ha3 I133_2 _ h
def f120_b63 (kad : Nat → Nat) (N : Nat) (Z : AZ) : Nat → Nat → Nat → Nat → Nat → Int32 → AI → Option (Unit × AI)
  | 0, _, _, _, _, _, _ => none
  | F + 1, a0, a1, a3, b2, i4, I =>
    if (I a0 5) < i4 then
      f120_b127 kad N Z a0 a1 a3 I
    else
      (f82 kad N Z a1 I).bind fun r73_1 =>
      if r73_1.1 = 0 then
        f120_b127 kad N Z a0 a1 a3 r73_1.2
      else
        (f83 kad N Z a1 a3 r73_1.2).bind fun r81_2 =>
        if ¬ i4 = ((r81_2.2) a0 8) then
          f120_b121 kad N Z (fun p0 p1 p2 p3 p4 I => f120_b63 kad N Z F p0 p1 p2 p3 p4 I) a0 a1 a3 b2 i4 r81_2.2
        else
          if ¬ ((r81_2.2) (a1 + 1) 0) = (1 : Int32) then
            f120_b121 kad N Z (fun p0 p1 p2 p3 p4 I => f120_b63 kad N Z F p0 p1 p2 p3 p4 I) a0 a1 a3 b2 i4 r81_2.2
          else
            (f81 kad N Z a1 r81_2.2).bind fun r105_3 =>
            (f72 kad N Z (a1 + 10) r105_3.2).bind fun r112_4 =>
            (f80 kad N Z a1 b2 r112_4.2).bind fun r117_5 =>
            f120_b121 kad N Z (fun p0 p1 p2 p3 p4 I => f120_b63 kad N Z F p0 p1 p2 p3 p4 I) a0 a1 a3 b2 i4 r117_5.2
set_option maxRecDepth 20000 in
theorem Tf120_b63 {kad : Nat → Nat} {N : Nat} {Z : AZ} {d : Nat} {t : Option Nat × (Nat × Nat)} (hd : 10 ≤ d) : ∀ (F : Nat) (a0 : Nat) (ha0 : sh9 kad Z a0) (a1 : Nat) (ha1 : sh8 kad Z a1) (a3 : Nat) (ha3 : sh5 kad Z a3) (b2 : Nat) (i4 : Int32) (I : AI) (r : Unit × AI), f120_b63 kad N Z F a0 a1 a3 b2 i4 I = some r → aGo kad d 120 (63, ([(0, .ref a0), (1, .ref a1), (2, .ref b2), (3, .ref a3), (4, .int i4)], [])) (aMem Z I, t) (qV Z t r) := by
  intro F
  induction F with
  | zero => intro a0 ha0 a1 ha1 a3 ha3 b2 i4 I r h; cases h
  | succ F ih =>
    intro a0 ha0 a1 ha1 a3 ha3 b2 i4 I r h
    unfold f120_b63 at h
    refine go_ops aMi120 2 _ (f1 := (66, ([(0, .ref a0), (1, .ref a1), (2, .ref b2), (3, .ref a3), (4, .int i4)], [.ref a0, .int i4]))) rfl ?_
    refine gg_gI aMi120 rfl rfl rfl (gI_of (sh9_z ha0)) ?_
    refine gg_br (b := decide ((I a0 5) < i4)) (tg := 127) (off := 58) aMi120 rfl rfl rfl rfl (fun hb => ?_) (fun hb => ?_)
    · rw [if_pos (of_decide_eq_true hb)] at h
      refine go_le (lv1 := [(0, .ref a0), (1, .ref a1)]) (aLe_of (show (List.map (fun q => q.1) ([(0, .ref a0), (1, .ref a1)] : ALv)).Nodup from (by show ([0, 1] : List Nat).Nodup; decide)) (aSubL_cons rfl (aSubL_cons rfl aSubL_nil))) ?_
      exact Tf120_b127 hd a0 ha0 a1 ha1 a3 ha3 I _ h
    · rw [if_neg (of_decide_eq_false hb)] at h
      refine go_ops aMi120 1 _ (f1 := (73, ([(0, .ref a0), (1, .ref a1), (2, .ref b2), (3, .ref a3), (4, .int i4)], [.ref a1]))) rfl ?_
      obtain ⟨r73_1, hxr73_1, h⟩ := Option.bind_eq_some_iff.mp h
      refine gg_cv (as := []) (r := []) aMi120 rfl rfl rfl aMi82 (Nat.le_of_ble_eq_true rfl) rfl (Nat.le_of_ble_eq_true rfl) (Nat.le_of_ble_eq_true rfl) (by omega) (isK_of (sh8_z ha1)) (Tf82 (by omega) a1 ha1 I _ hxr73_1) ?_
      show aGo kad d 120 (76, ([(0, .ref a0), (1, .ref a1), (2, .ref b2), (3, .ref a3), (4, .int i4)], [.int r73_1.1])) (aMem Z r73_1.2, t) _
      refine gg_br (b := decide (r73_1.1 = 0)) (tg := 127) (off := 51) aMi120 rfl rfl rfl rfl (fun hb => ?_) (fun hb => ?_)
      · rw [if_pos (of_decide_eq_true hb)] at h
        refine go_le (lv1 := [(0, .ref a0), (1, .ref a1)]) (aLe_of (show (List.map (fun q => q.1) ([(0, .ref a0), (1, .ref a1)] : ALv)).Nodup from (by show ([0, 1] : List Nat).Nodup; decide)) (aSubL_cons rfl (aSubL_cons rfl aSubL_nil))) ?_
        exact Tf120_b127 hd a0 ha0 a1 ha1 a3 ha3 r73_1.2 _ h
      · rw [if_neg (of_decide_eq_false hb)] at h
        refine go_ops aMi120 2 _ (f1 := (81, ([(0, .ref a0), (1, .ref a1), (2, .ref b2), (3, .ref a3), (4, .int i4)], [.ref a3, .ref a1]))) rfl ?_
        obtain ⟨r81_2, hxr81_2, h⟩ := Option.bind_eq_some_iff.mp h
        refine gg_cv (as := [.ref a3]) (r := []) aMi120 rfl rfl rfl aMi83 (Nat.le_of_ble_eq_true rfl) rfl (Nat.le_of_ble_eq_true rfl) (Nat.le_of_ble_eq_true rfl) (by omega) (isK_of (sh8_z ha1)) (Tf83 (by omega) a1 ha1 a3 ha3 r73_1.2 _ hxr81_2) ?_
        show aGo kad d 120 (84, ([(0, .ref a0), (1, .ref a1), (2, .ref b2), (3, .ref a3), (4, .int i4)], [])) (aMem Z r81_2.2, t) _
        refine go_ops aMi120 2 _ (f1 := (87, ([(0, .ref a0), (1, .ref a1), (2, .ref b2), (3, .ref a3), (4, .int i4)], [.ref a0, .int i4]))) rfl ?_
        refine gg_gI aMi120 rfl rfl rfl (gI_of (sh9_z ha0)) ?_
        refine gg_br (b := decide (¬ i4 = ((r81_2.2) a0 8))) (tg := 121) (off := 31) aMi120 rfl rfl rfl rfl (fun hb => ?_) (fun hb => ?_)
        · rw [if_pos (of_decide_eq_true hb)] at h
          exact Tf120_b121 hd (fun p0 p1 p2 p3 p4 I => f120_b63 kad N Z F p0 p1 p2 p3 p4 I) (fun p0 q0 p1 q1 p2 q2 p3 p4 I r hh => ih p0 q0 p1 q1 p2 q2 p3 p4 I r hh) a0 ha0 a1 ha1 a3 ha3 b2 i4 r81_2.2 _ h
        · rw [if_neg (of_decide_eq_false hb)] at h
          refine go_ops aMi120 1 _ (f1 := (94, ([(0, .ref a0), (1, .ref a1), (2, .ref b2), (3, .ref a3), (4, .int i4)], [.ref a1]))) rfl ?_
          refine gg_gR (b := (a1 + 1)) aMi120 rfl rfl rfl (gR_of (sh8_z ha1) (sh8_r0 ha1)) ?_
          refine gg_gI aMi120 rfl rfl rfl (gI_of (sh2_z (sh8_s0 ha1))) ?_
          refine go_ops aMi120 1 _ (f1 := (101, ([(0, .ref a0), (1, .ref a1), (2, .ref b2), (3, .ref a3), (4, .int i4)], [.int (1 : Int32), .int ((r81_2.2) (a1 + 1) 0)]))) rfl ?_
          refine gg_br (b := decide (¬ ((r81_2.2) (a1 + 1) 0) = (1 : Int32))) (tg := 121) (off := 20) aMi120 rfl rfl rfl rfl (fun hb => ?_) (fun hb => ?_)
          · rw [if_pos (of_decide_eq_true hb)] at h
            exact Tf120_b121 hd (fun p0 p1 p2 p3 p4 I => f120_b63 kad N Z F p0 p1 p2 p3 p4 I) (fun p0 q0 p1 q1 p2 q2 p3 p4 I r hh => ih p0 q0 p1 q1 p2 q2 p3 p4 I r hh) a0 ha0 a1 ha1 a3 ha3 b2 i4 r81_2.2 _ h
          · rw [if_neg (of_decide_eq_false hb)] at h
            refine go_ops aMi120 1 _ (f1 := (105, ([(0, .ref a0), (1, .ref a1), (2, .ref b2), (3, .ref a3), (4, .int i4)], [.ref a1]))) rfl ?_
            obtain ⟨r105_3, hxr105_3, h⟩ := Option.bind_eq_some_iff.mp h
            refine gg_cv (as := []) (r := []) aMi120 rfl rfl rfl aMi81 (Nat.le_of_ble_eq_true rfl) rfl (Nat.le_of_ble_eq_true rfl) (Nat.le_of_ble_eq_true rfl) (by omega) (isK_of (sh8_z ha1)) (Tf81 (by omega) a1 ha1 r81_2.2 _ hxr105_3) ?_
            show aGo kad d 120 (108, ([(0, .ref a0), (1, .ref a1), (2, .ref b2), (3, .ref a3), (4, .int i4)], [])) (aMem Z r105_3.2, t) _
            refine go_ops aMi120 1 _ (f1 := (109, ([(0, .ref a0), (1, .ref a1), (2, .ref b2), (3, .ref a3), (4, .int i4)], [.ref a1]))) rfl ?_
            refine gg_gR (b := (a1 + 10)) aMi120 rfl rfl rfl (gR_of (sh8_z ha1) (sh8_r4 ha1)) ?_
            obtain ⟨r112_4, hxr112_4, h⟩ := Option.bind_eq_some_iff.mp h
            refine gg_cv (as := []) (r := []) aMi120 rfl rfl rfl aMi72 (Nat.le_of_ble_eq_true rfl) rfl (Nat.le_of_ble_eq_true rfl) (Nat.le_of_ble_eq_true rfl) (by omega) (isK_of (sh6_z (sh8_s4 ha1))) (Tf72 (by omega) (a1 + 10) (sh8_s4 ha1) r105_3.2 _ hxr112_4) ?_
            show aGo kad d 120 (115, ([(0, .ref a0), (1, .ref a1), (2, .ref b2), (3, .ref a3), (4, .int i4)], [])) (aMem Z r112_4.2, t) _
            refine go_ops aMi120 2 _ (f1 := (117, ([(0, .ref a0), (1, .ref a1), (2, .ref b2), (3, .ref a3), (4, .int i4)], [.ref b2, .ref a1]))) rfl ?_
            obtain ⟨r117_5, hxr117_5, h⟩ := Option.bind_eq_some_iff.mp h
            refine gg_cv (as := [.ref b2]) (r := []) aMi120 rfl rfl rfl aMi80 (Nat.le_of_ble_eq_true rfl) rfl (Nat.le_of_ble_eq_true rfl) (Nat.le_of_ble_eq_true rfl) (by omega) (isK_of (sh8_z ha1)) (Tf80 (by omega) a1 ha1 b2 r112_4.2 _ hxr117_5) ?_
            show aGo kad d 120 (120, ([(0, .ref a0), (1, .ref a1), (2, .ref b2), (3, .ref a3), (4, .int i4)], [.int r117_5.1])) (aMem Z r117_5.2, t) _
            refine go_ops aMi120 1 _ (f1 := (121, ([(0, .ref a0), (1, .ref a1), (2, .ref b2), (3, .ref a3), (4, .int i4)], []))) rfl ?_
            exact Tf120_b121 hd (fun p0 p1 p2 p3 p4 I => f120_b63 kad N Z F p0 p1 p2 p3 p4 I) (fun p0 q0 p1 q1 p2 q2 p3 p4 I r hh => ih p0 q0 p1 q1 p2 q2 p3 p4 I r hh) a0 ha0 a1 ha1 a3 ha3 b2 i4 r117_5.2 _ h
def f120_b54 (kad : Nat → Nat) (N : Nat) (Z : AZ) (a0 : Nat) (a1 : Nat) (a3 : Nat) (b2 : Nat) (I : AI) : Option (Unit × AI) :=
  (f80 kad N Z a1 b2 I).bind fun r56_1 =>
  f120_b63 kad N Z N a0 a1 a3 b2 (1 : Int32) r56_1.2
set_option maxRecDepth 20000 in
theorem Tf120_b54 {kad : Nat → Nat} {N : Nat} {Z : AZ} {d : Nat} {t : Option Nat × (Nat × Nat)} (hd : 10 ≤ d) : ∀ (a0 : Nat) (ha0 : sh9 kad Z a0) (a1 : Nat) (ha1 : sh8 kad Z a1) (a3 : Nat) (ha3 : sh5 kad Z a3) (b2 : Nat) (I : AI) (r : Unit × AI), f120_b54 kad N Z a0 a1 a3 b2 I = some r → aGo kad d 120 (54, ([(0, .ref a0), (1, .ref a1), (2, .ref b2), (3, .ref a3)], [])) (aMem Z I, t) (qV Z t r) := by
  intro a0 ha0 a1 ha1 a3 ha3 b2 I r h
  unfold f120_b54 at h
  refine go_ops aMi120 2 _ (f1 := (56, ([(0, .ref a0), (1, .ref a1), (2, .ref b2), (3, .ref a3)], [.ref b2, .ref a1]))) rfl ?_
  obtain ⟨r56_1, hxr56_1, h⟩ := Option.bind_eq_some_iff.mp h
  refine gg_cv (as := [.ref b2]) (r := []) aMi120 rfl rfl rfl aMi80 (Nat.le_of_ble_eq_true rfl) rfl (Nat.le_of_ble_eq_true rfl) (Nat.le_of_ble_eq_true rfl) (by omega) (isK_of (sh8_z ha1)) (Tf80 (by omega) a1 ha1 b2 I _ hxr56_1) ?_
  show aGo kad d 120 (59, ([(0, .ref a0), (1, .ref a1), (2, .ref b2), (3, .ref a3)], [.int r56_1.1])) (aMem Z r56_1.2, t) _
  refine go_ops aMi120 3 _ (f1 := (63, ([(4, .int (1 : Int32)), (0, .ref a0), (1, .ref a1), (2, .ref b2), (3, .ref a3)], []))) rfl ?_
  refine go_le (lv1 := [(0, .ref a0), (1, .ref a1), (2, .ref b2), (3, .ref a3), (4, .int (1 : Int32))]) (aLe_of (show (List.map (fun q => q.1) ([(0, .ref a0), (1, .ref a1), (2, .ref b2), (3, .ref a3), (4, .int (1 : Int32))] : ALv)).Nodup from (by show ([0, 1, 2, 3, 4] : List Nat).Nodup; decide)) (aSubL_cons rfl (aSubL_cons rfl (aSubL_cons rfl (aSubL_cons rfl (aSubL_cons rfl aSubL_nil)))))) ?_
  exact Tf120_b63 hd N a0 ha0 a1 ha1 a3 ha3 b2 (1 : Int32) r56_1.2 _ h
def f120_b17 (kad : Nat → Nat) (N : Nat) (Z : AZ) : Nat → Nat → Nat → Nat → Nat → Int32 → AI → Option (Unit × AI)
  | 0, _, _, _, _, _, _ => none
  | F + 1, a0, a1, a3, b2, i4, I =>
    if (I a0 0) ≤ i4 then
      f120_b54 kad N Z a0 a1 a3 b2 I
    else
      if (6 : Int32) ≤ i4 then
        f120_b54 kad N Z a0 a1 a3 b2 I
      else
        (ixA 6 i4).bind fun j43_1 =>
        (f74 kad N Z (a1 + 10) (I (a0 + 1) j43_1) (0 : Int32) I).bind fun r45_2 =>
        f120_b17 kad N Z F a0 a1 a3 b2 (i4 + (1 : Int32)) r45_2.2
set_option maxRecDepth 20000 in
theorem Tf120_b17 {kad : Nat → Nat} {N : Nat} {Z : AZ} {d : Nat} {t : Option Nat × (Nat × Nat)} (hd : 10 ≤ d) : ∀ (F : Nat) (a0 : Nat) (ha0 : sh9 kad Z a0) (a1 : Nat) (ha1 : sh8 kad Z a1) (a3 : Nat) (ha3 : sh5 kad Z a3) (b2 : Nat) (i4 : Int32) (I : AI) (r : Unit × AI), f120_b17 kad N Z F a0 a1 a3 b2 i4 I = some r → aGo kad d 120 (17, ([(0, .ref a0), (1, .ref a1), (2, .ref b2), (3, .ref a3), (4, .int i4)], [])) (aMem Z I, t) (qV Z t r) := by
  intro F
  induction F with
  | zero => intro a0 ha0 a1 ha1 a3 ha3 b2 i4 I r h; cases h
  | succ F ih =>
    intro a0 ha0 a1 ha1 a3 ha3 b2 i4 I r h
    unfold f120_b17 at h
    refine go_ops aMi120 2 _ (f1 := (20, ([(0, .ref a0), (1, .ref a1), (2, .ref b2), (3, .ref a3), (4, .int i4)], [.ref a0, .int i4]))) rfl ?_
    refine gg_gI aMi120 rfl rfl rfl (gI_of (sh9_z ha0)) ?_
    refine gg_br (b := decide ((I a0 0) ≤ i4)) (tg := 54) (off := 31) aMi120 rfl rfl rfl rfl (fun hb => ?_) (fun hb => ?_)
    · rw [if_pos (of_decide_eq_true hb)] at h
      refine go_le (lv1 := [(0, .ref a0), (1, .ref a1), (2, .ref b2), (3, .ref a3)]) (aLe_of (show (List.map (fun q => q.1) ([(0, .ref a0), (1, .ref a1), (2, .ref b2), (3, .ref a3)] : ALv)).Nodup from (by show ([0, 1, 2, 3] : List Nat).Nodup; decide)) (aSubL_cons rfl (aSubL_cons rfl (aSubL_cons rfl (aSubL_cons rfl aSubL_nil))))) ?_
      exact Tf120_b54 hd a0 ha0 a1 ha1 a3 ha3 b2 I _ h
    · rw [if_neg (of_decide_eq_false hb)] at h
      refine go_ops aMi120 2 _ (f1 := (30, ([(0, .ref a0), (1, .ref a1), (2, .ref b2), (3, .ref a3), (4, .int i4)], [.int (6 : Int32), .int i4]))) rfl ?_
      refine gg_br (b := decide ((6 : Int32) ≤ i4)) (tg := 54) (off := 24) aMi120 rfl rfl rfl rfl (fun hb => ?_) (fun hb => ?_)
      · rw [if_pos (of_decide_eq_true hb)] at h
        refine go_le (lv1 := [(0, .ref a0), (1, .ref a1), (2, .ref b2), (3, .ref a3)]) (aLe_of (show (List.map (fun q => q.1) ([(0, .ref a0), (1, .ref a1), (2, .ref b2), (3, .ref a3)] : ALv)).Nodup from (by show ([0, 1, 2, 3] : List Nat).Nodup; decide)) (aSubL_cons rfl (aSubL_cons rfl (aSubL_cons rfl (aSubL_cons rfl aSubL_nil))))) ?_
        exact Tf120_b54 hd a0 ha0 a1 ha1 a3 ha3 b2 I _ h
      · rw [if_neg (of_decide_eq_false hb)] at h
        refine go_ops aMi120 1 _ (f1 := (34, ([(0, .ref a0), (1, .ref a1), (2, .ref b2), (3, .ref a3), (4, .int i4)], [.ref a1]))) rfl ?_
        refine gg_gR (b := (a1 + 10)) aMi120 rfl rfl rfl (gR_of (sh8_z ha1) (sh8_r4 ha1)) ?_
        refine go_ops aMi120 1 _ (f1 := (38, ([(0, .ref a0), (1, .ref a1), (2, .ref b2), (3, .ref a3), (4, .int i4)], [.ref a0, .ref (a1 + 10)]))) rfl ?_
        refine gg_gR (b := (a0 + 1)) aMi120 rfl rfl rfl (gR_of (sh9_z ha0) (sh9_r3 ha0)) ?_
        refine go_ops aMi120 1 _ (f1 := (43, ([(0, .ref a0), (1, .ref a1), (2, .ref b2), (3, .ref a3), (4, .int i4)], [.int i4, .ref (a0 + 1), .ref (a1 + 10)]))) rfl ?_
        obtain ⟨j43_1, hxj43_1, h⟩ := Option.bind_eq_some_iff.mp h
        refine gg_lI (Or.inl ⟨rfl, rfl⟩) aMi120 rfl (lI_of (sh9_a3 ha0) hxj43_1) ?_
        refine go_ops aMi120 1 _ (f1 := (45, ([(0, .ref a0), (1, .ref a1), (2, .ref b2), (3, .ref a3), (4, .int i4)], [.int (0 : Int32), .int (I (a0 + 1) j43_1), .ref (a1 + 10)]))) rfl ?_
        obtain ⟨r45_2, hxr45_2, h⟩ := Option.bind_eq_some_iff.mp h
        refine gg_cv (as := [.int (I (a0 + 1) j43_1), .int (0 : Int32)]) (r := []) aMi120 rfl rfl rfl aMi74 (Nat.le_of_ble_eq_true rfl) rfl (Nat.le_of_ble_eq_true rfl) (Nat.le_of_ble_eq_true rfl) (by omega) (isK_of (sh6_z (sh8_s4 ha1))) (Tf74 (by omega) (a1 + 10) (sh8_s4 ha1) (I (a0 + 1) j43_1) (0 : Int32) I _ hxr45_2) ?_
        show aGo kad d 120 (48, ([(0, .ref a0), (1, .ref a1), (2, .ref b2), (3, .ref a3), (4, .int i4)], [])) (aMem Z r45_2.2, t) _
        refine go_ops aMi120 2 _ (f1 := (17, ([(4, .int (i4 + (1 : Int32))), (0, .ref a0), (1, .ref a1), (2, .ref b2), (3, .ref a3)], []))) rfl ?_
        refine go_le (lv1 := [(0, .ref a0), (1, .ref a1), (2, .ref b2), (3, .ref a3), (4, .int (i4 + (1 : Int32)))]) (aLe_of (show (List.map (fun q => q.1) ([(0, .ref a0), (1, .ref a1), (2, .ref b2), (3, .ref a3), (4, .int (i4 + (1 : Int32)))] : ALv)).Nodup from (by show ([0, 1, 2, 3, 4] : List Nat).Nodup; decide)) (aSubL_cons rfl (aSubL_cons rfl (aSubL_cons rfl (aSubL_cons rfl (aSubL_cons rfl aSubL_nil)))))) ?_
        exact ih a0 ha0 a1 ha1 a3 ha3 b2 (i4 + (1 : Int32)) r45_2.2 _ h
def f120 (kad : Nat → Nat) (N : Nat) (Z : AZ) (a0 : Nat) (a1 : Nat) (b2 : Nat) (a3 : Nat) (I : AI) : Option (Unit × AI) :=
  (f42 kad N Z (a1 + 8) I).bind fun r4_1 =>
  (f72 kad N Z (a1 + 10) r4_1.2).bind fun r11_2 =>
  f120_b17 kad N Z N a0 a1 a3 b2 (0 : Int32) r11_2.2
set_option maxRecDepth 20000 in
theorem Tf120 {kad : Nat → Nat} {N : Nat} {Z : AZ} {d : Nat} {t : Option Nat × (Nat × Nat)} (hd : 10 ≤ d) : ∀ (a0 : Nat) (ha0 : sh9 kad Z a0) (a1 : Nat) (ha1 : sh8 kad Z a1) (b2 : Nat) (a3 : Nat) (ha3 : sh5 kad Z a3) (I : AI) (r : Unit × AI), f120 kad N Z a0 a1 b2 a3 I = some r → aGo kad d 120 (0, ([(0, .ref a0), (1, .ref a1), (2, .ref b2), (3, .ref a3)], [])) (aMem Z I, t) (qV Z t r) := by
  intro a0 ha0 a1 ha1 b2 a3 ha3 I r h
  unfold f120 at h
  refine go_ops aMi120 1 _ (f1 := (1, ([(0, .ref a0), (1, .ref a1), (2, .ref b2), (3, .ref a3)], [.ref a1]))) rfl ?_
  refine gg_gR (b := (a1 + 8)) aMi120 rfl rfl rfl (gR_of (sh8_z ha1) (sh8_r3 ha1)) ?_
  obtain ⟨r4_1, hxr4_1, h⟩ := Option.bind_eq_some_iff.mp h
  refine gg_cv (as := []) (r := []) aMi120 rfl rfl rfl aMi42 (Nat.le_of_ble_eq_true rfl) rfl (Nat.le_of_ble_eq_true rfl) (Nat.le_of_ble_eq_true rfl) (by omega) (isK_of (sh3_z (sh8_s3 ha1))) (Tf42 (by omega) (a1 + 8) (sh8_s3 ha1) I _ hxr4_1) ?_
  show aGo kad d 120 (7, ([(0, .ref a0), (1, .ref a1), (2, .ref b2), (3, .ref a3)], [])) (aMem Z r4_1.2, t) _
  refine go_ops aMi120 1 _ (f1 := (8, ([(0, .ref a0), (1, .ref a1), (2, .ref b2), (3, .ref a3)], [.ref a1]))) rfl ?_
  refine gg_gR (b := (a1 + 10)) aMi120 rfl rfl rfl (gR_of (sh8_z ha1) (sh8_r4 ha1)) ?_
  obtain ⟨r11_2, hxr11_2, h⟩ := Option.bind_eq_some_iff.mp h
  refine gg_cv (as := []) (r := []) aMi120 rfl rfl rfl aMi72 (Nat.le_of_ble_eq_true rfl) rfl (Nat.le_of_ble_eq_true rfl) (Nat.le_of_ble_eq_true rfl) (by omega) (isK_of (sh6_z (sh8_s4 ha1))) (Tf72 (by omega) (a1 + 10) (sh8_s4 ha1) r4_1.2 _ hxr11_2) ?_
  show aGo kad d 120 (14, ([(0, .ref a0), (1, .ref a1), (2, .ref b2), (3, .ref a3)], [])) (aMem Z r11_2.2, t) _
  refine go_ops aMi120 2 _ (f1 := (17, ([(4, .int (0 : Int32)), (0, .ref a0), (1, .ref a1), (2, .ref b2), (3, .ref a3)], []))) rfl ?_
  refine go_le (lv1 := [(0, .ref a0), (1, .ref a1), (2, .ref b2), (3, .ref a3), (4, .int (0 : Int32))]) (aLe_of (show (List.map (fun q => q.1) ([(0, .ref a0), (1, .ref a1), (2, .ref b2), (3, .ref a3), (4, .int (0 : Int32))] : ALv)).Nodup from (by show ([0, 1, 2, 3, 4] : List Nat).Nodup; decide)) (aSubL_cons rfl (aSubL_cons rfl (aSubL_cons rfl (aSubL_cons rfl (aSubL_cons rfl aSubL_nil)))))) ?_
  exact Tf120_b17 hd N a0 ha0 a1 ha1 a3 ha3 b2 (0 : Int32) r11_2.2 _ h
-- KernelGym$Trial.share ()I
def f122_b32 (kad : Nat → Nat) (N : Nat) (Z : AZ) (a0 : Nat) (s0 : Int32) (I : AI) : Option (Int32 × AI) :=
  some (s0, I)
set_option maxRecDepth 20000 in
theorem Tf122_b32 {kad : Nat → Nat} {N : Nat} {Z : AZ} {d : Nat} {t : Option Nat × (Nat × Nat)} (hd : 0 ≤ d) : ∀ (a0 : Nat) (ha0 : sh9 kad Z a0) (s0 : Int32) (I : AI) (r : Int32 × AI), f122_b32 kad N Z a0 s0 I = some r → aGo kad d 122 (32, ([], [.int s0])) (aMem Z I, t) (qI Z t r) := by
  intro a0 ha0 s0 I r h
  unfold f122_b32 at h
  cases h
  exact go_ret aMi122 rfl aRetI ⟨rfl, rfl⟩
def f122 (kad : Nat → Nat) (N : Nat) (Z : AZ) (a0 : Nat) (I : AI) : Option (Int32 × AI) :=
  if ¬ (I a0 2) = 0 then
    if (I a0 9) = 0 then
      f122_b32 kad N Z a0 (0 : Int32) I
    else
      f122_b32 kad N Z a0 (-(((I a0 7) + (1 : Int32)) / (2 : Int32))) I
  else
    some ((I a0 7), I)
set_option maxRecDepth 20000 in
theorem Tf122 {kad : Nat → Nat} {N : Nat} {Z : AZ} {d : Nat} {t : Option Nat × (Nat × Nat)} (hd : 0 ≤ d) : ∀ (a0 : Nat) (ha0 : sh9 kad Z a0) (I : AI) (r : Int32 × AI), f122 kad N Z a0 I = some r → aGo kad d 122 (0, ([(0, .ref a0)], [])) (aMem Z I, t) (qI Z t r) := by
  intro a0 ha0 I r h
  unfold f122 at h
  refine go_ops aMi122 1 _ (f1 := (1, ([(0, .ref a0)], [.ref a0]))) rfl ?_
  refine gg_gI aMi122 rfl rfl rfl (gI_of (sh9_z ha0)) ?_
  refine gg_br (b := decide (¬ (I a0 2) = 0)) (tg := 12) (off := 8) aMi122 rfl rfl rfl rfl (fun hb => ?_) (fun hb => ?_)
  · rw [if_pos (of_decide_eq_true hb)] at h
    refine go_ops aMi122 1 _ (f1 := (13, ([(0, .ref a0)], [.ref a0]))) rfl ?_
    refine gg_gI aMi122 rfl rfl rfl (gI_of (sh9_z ha0)) ?_
    refine gg_br (b := decide ((I a0 9) = 0)) (tg := 31) (off := 15) aMi122 rfl rfl rfl rfl (fun hb => ?_) (fun hb => ?_)
    · rw [if_pos (of_decide_eq_true hb)] at h
      refine go_ops aMi122 1 _ (f1 := (32, ([(0, .ref a0)], [.int (0 : Int32)]))) rfl ?_
      refine go_le (lv1 := []) (aLe_of (show (List.map (fun q => q.1) ([] : ALv)).Nodup from (by show ([] : List Nat).Nodup; decide)) aSubL_nil) ?_
      exact Tf122_b32 hd a0 ha0 (0 : Int32) I _ h
    · rw [if_neg (of_decide_eq_false hb)] at h
      refine go_ops aMi122 1 _ (f1 := (20, ([(0, .ref a0)], [.ref a0]))) rfl ?_
      refine gg_gI aMi122 rfl rfl rfl (gI_of (sh9_z ha0)) ?_
      refine go_ops aMi122 6 _ (f1 := (32, ([(0, .ref a0)], [.int (-(((I a0 7) + (1 : Int32)) / (2 : Int32)))]))) rfl ?_
      refine go_le (lv1 := []) (aLe_of (show (List.map (fun q => q.1) ([] : ALv)).Nodup from (by show ([] : List Nat).Nodup; decide)) aSubL_nil) ?_
      exact Tf122_b32 hd a0 ha0 (-(((I a0 7) + (1 : Int32)) / (2 : Int32))) I _ h
  · rw [if_neg (of_decide_eq_false hb)] at h
    refine go_ops aMi122 1 _ (f1 := (8, ([(0, .ref a0)], [.ref a0]))) rfl ?_
    refine gg_gI aMi122 rfl rfl rfl (gI_of (sh9_z ha0)) ?_
    cases h
    exact go_ret aMi122 rfl aRetI ⟨rfl, rfl⟩
-- KernelGym.clear ()I
def f124 (kad : Nat → Nat) (N : Nat) (Z : AZ) (a0 : Nat) (I : AI) : Option (Int32 × AI) :=
  (f1 kad N Z (a0 + 1) I).bind fun r4_1 =>
  some (r4_1.1, r4_1.2)
set_option maxRecDepth 20000 in
theorem Tf124 {kad : Nat → Nat} {N : Nat} {Z : AZ} {d : Nat} {t : Option Nat × (Nat × Nat)} (hd : 1 ≤ d) : ∀ (a0 : Nat) (ha0 : sh10 kad Z a0) (I : AI) (r : Int32 × AI), f124 kad N Z a0 I = some r → aGo kad d 124 (0, ([(0, .ref a0)], [])) (aMem Z I, t) (qI Z t r) := by
  intro a0 ha0 I r h
  unfold f124 at h
  refine go_ops aMi124 1 _ (f1 := (1, ([(0, .ref a0)], [.ref a0]))) rfl ?_
  refine gg_gR (b := (a0 + 1)) aMi124 rfl rfl rfl (gR_of (sh10_z ha0) (sh10_r0 ha0)) ?_
  obtain ⟨r4_1, hxr4_1, h⟩ := Option.bind_eq_some_iff.mp h
  refine gg_cv (as := []) (r := []) aMi124 rfl rfl rfl aMi1 (Nat.le_of_ble_eq_true rfl) rfl (Nat.le_of_ble_eq_true rfl) (Nat.le_of_ble_eq_true rfl) (by omega) (isK_of (sh0_z (sh10_s0 ha0))) (Tf1 (by omega) (a0 + 1) (sh10_s0 ha0) I _ hxr4_1) ?_
  show aGo kad d 124 (7, ([(0, .ref a0)], [.int r4_1.1])) (aMem Z r4_1.2, t) _
  cases h
  exact go_ret aMi124 rfl aRetI ⟨rfl, rfl⟩
-- KernelGym.lines ()I
def f125 (kad : Nat → Nat) (N : Nat) (Z : AZ) (a0 : Nat) (I : AI) : Option (Int32 × AI) :=
  some ((I (a0 + 1) 0), I)
set_option maxRecDepth 20000 in
theorem Tf125 {kad : Nat → Nat} {N : Nat} {Z : AZ} {d : Nat} {t : Option Nat × (Nat × Nat)} (hd : 0 ≤ d) : ∀ (a0 : Nat) (ha0 : sh10 kad Z a0) (I : AI) (r : Int32 × AI), f125 kad N Z a0 I = some r → aGo kad d 125 (0, ([(0, .ref a0)], [])) (aMem Z I, t) (qI Z t r) := by
  intro a0 ha0 I r h
  unfold f125 at h
  refine go_ops aMi125 1 _ (f1 := (1, ([(0, .ref a0)], [.ref a0]))) rfl ?_
  refine gg_gR (b := (a0 + 1)) aMi125 rfl rfl rfl (gR_of (sh10_z ha0) (sh10_r0 ha0)) ?_
  refine gg_gI aMi125 rfl rfl rfl (gI_of (sh0_z (sh10_s0 ha0))) ?_
  cases h
  exact go_ret aMi125 rfl aRetI ⟨rfl, rfl⟩
-- KernelGym.requireRange (III)V
def f138_b10 (kad : Nat → Nat) (N : Nat) (Z : AZ)  (I : AI) : Option ((Unit ⊕ String) × AI) :=
  some (.inr (aEC 0), I)
set_option maxRecDepth 20000 in
theorem Tf138_b10 {kad : Nat → Nat} {N : Nat} {Z : AZ} {d : Nat} {t : Option Nat × (Nat × Nat)} (hd : 0 ≤ d) : ∀  (I : AI) (r : (Unit ⊕ String) × AI), f138_b10 kad N Z  I = some r → aGo kad d 138 (10, ([], [])) (aMem Z I, t) (qX tvV Z t r) := by
  intro  I r h
  unfold f138_b10 at h
  cases h
  exact go_thr (E := aEC 0) aMi138 rfl rfl rfl rfl rfl rfl qX_thr
def f138 (kad : Nat → Nat) (N : Nat) (Z : AZ) (i0 : Int32) (i1 : Int32) (i2 : Int32) (I : AI) : Option ((Unit ⊕ String) × AI) :=
  if i0 < i1 then
    f138_b10 kad N Z  I
  else
    if i0 ≤ i2 then
      some (.inl (), I)
    else
      f138_b10 kad N Z  I
set_option maxRecDepth 20000 in
theorem Tf138 {kad : Nat → Nat} {N : Nat} {Z : AZ} {d : Nat} {t : Option Nat × (Nat × Nat)} (hd : 0 ≤ d) : ∀ (i0 : Int32) (i1 : Int32) (i2 : Int32) (I : AI) (r : (Unit ⊕ String) × AI), f138 kad N Z i0 i1 i2 I = some r → aGo kad d 138 (0, ([(0, .int i0), (1, .int i1), (2, .int i2)], [])) (aMem Z I, t) (qX tvV Z t r) := by
  intro i0 i1 i2 I r h
  unfold f138 at h
  refine go_ops aMi138 2 _ (f1 := (2, ([(0, .int i0), (1, .int i1), (2, .int i2)], [.int i1, .int i0]))) rfl ?_
  refine gg_br (b := decide (i0 < i1)) (tg := 10) (off := 8) aMi138 rfl rfl rfl rfl (fun hb => ?_) (fun hb => ?_)
  · rw [if_pos (of_decide_eq_true hb)] at h
    refine go_le (lv1 := []) (aLe_of (show (List.map (fun q => q.1) ([] : ALv)).Nodup from (by show ([] : List Nat).Nodup; decide)) aSubL_nil) ?_
    exact Tf138_b10 hd  I _ h
  · rw [if_neg (of_decide_eq_false hb)] at h
    refine go_ops aMi138 2 _ (f1 := (7, ([(0, .int i0), (1, .int i1), (2, .int i2)], [.int i2, .int i0]))) rfl ?_
    refine gg_br (b := decide (i0 ≤ i2)) (tg := 20) (off := 13) aMi138 rfl rfl rfl rfl (fun hb => ?_) (fun hb => ?_)
    · rw [if_pos (of_decide_eq_true hb)] at h
      cases h
      exact go_ret aMi138 rfl rfl qX_ret
    · rw [if_neg (of_decide_eq_false hb)] at h
      refine go_le (lv1 := []) (aLe_of (show (List.map (fun q => q.1) ([] : ALv)).Nodup from (by show ([] : List Nat).Nodup; decide)) aSubL_nil) ?_
      exact Tf138_b10 hd  I _ h
-- KernelGym.addLine (LKernelGym$Does;III)I
def f142 (kad : Nat → Nat) (N : Nat) (Z : AZ) (a0 : Nat) (b1 : Nat) (i2 : Int32) (i3 : Int32) (i4 : Int32) (I : AI) : Option ((Int32 ⊕ String) × AI) :=
  if (I (a0 + 1) 0) < (100 : Int32) then
    (f2 kad N Z (a0 + 1) b1 i2 i3 i4 I).bind fun r31_1 =>
    some (.inl r31_1.1, r31_1.2)
  else
    some (.inr (aEC 1), I)
set_option maxRecDepth 20000 in
theorem Tf142 {kad : Nat → Nat} {N : Nat} {Z : AZ} {d : Nat} {t : Option Nat × (Nat × Nat)} (hd : 1 ≤ d) : ∀ (a0 : Nat) (ha0 : sh10 kad Z a0) (b1 : Nat) (i2 : Int32) (i3 : Int32) (i4 : Int32) (I : AI) (r : (Int32 ⊕ String) × AI), f142 kad N Z a0 b1 i2 i3 i4 I = some r → aGo kad d 142 (0, ([(0, .ref a0), (1, .ref b1), (2, .int i2), (3, .int i3), (4, .int i4)], [])) (aMem Z I, t) (qX tvI Z t r) := by
  intro a0 ha0 b1 i2 i3 i4 I r h
  unfold f142 at h
  refine go_ops aMi142 1 _ (f1 := (1, ([(0, .ref a0), (1, .ref b1), (2, .int i2), (3, .int i3), (4, .int i4)], [.ref a0]))) rfl ?_
  refine gg_gR (b := (a0 + 1)) aMi142 rfl rfl rfl (gR_of (sh10_z ha0) (sh10_r0 ha0)) ?_
  refine gg_gI aMi142 rfl rfl rfl (gI_of (sh0_z (sh10_s0 ha0))) ?_
  refine go_ops aMi142 1 _ (f1 := (9, ([(0, .ref a0), (1, .ref b1), (2, .int i2), (3, .int i3), (4, .int i4)], [.int (100 : Int32), .int (I (a0 + 1) 0)]))) rfl ?_
  refine gg_br (b := decide ((I (a0 + 1) 0) < (100 : Int32))) (tg := 22) (off := 13) aMi142 rfl rfl rfl rfl (fun hb => ?_) (fun hb => ?_)
  · rw [if_pos (of_decide_eq_true hb)] at h
    refine go_ops aMi142 1 _ (f1 := (23, ([(0, .ref a0), (1, .ref b1), (2, .int i2), (3, .int i3), (4, .int i4)], [.ref a0]))) rfl ?_
    refine gg_gR (b := (a0 + 1)) aMi142 rfl rfl rfl (gR_of (sh10_z ha0) (sh10_r0 ha0)) ?_
    refine go_ops aMi142 4 _ (f1 := (31, ([(0, .ref a0), (1, .ref b1), (2, .int i2), (3, .int i3), (4, .int i4)], [.int i4, .int i3, .int i2, .ref b1, .ref (a0 + 1)]))) rfl ?_
    obtain ⟨r31_1, hxr31_1, h⟩ := Option.bind_eq_some_iff.mp h
    refine gg_cv (as := [.ref b1, .int i2, .int i3, .int i4]) (r := []) aMi142 rfl rfl rfl aMi2 (Nat.le_of_ble_eq_true rfl) rfl (Nat.le_of_ble_eq_true rfl) (Nat.le_of_ble_eq_true rfl) (by omega) (isK_of (sh0_z (sh10_s0 ha0))) (Tf2 (by omega) (a0 + 1) (sh10_s0 ha0) b1 i2 i3 i4 I _ hxr31_1) ?_
    show aGo kad d 142 (34, ([(0, .ref a0), (1, .ref b1), (2, .int i2), (3, .int i3), (4, .int i4)], [.int r31_1.1])) (aMem Z r31_1.2, t) _
    cases h
    exact go_ret aMi142 rfl aRetI qX_ret
  · rw [if_neg (of_decide_eq_false hb)] at h
    cases h
    exact go_thr (E := aEC 1) aMi142 rfl rfl rfl rfl rfl rfl qX_thr
-- KernelGym.addLine (LKernelGym$Does;I)I
def f141 (kad : Nat → Nat) (N : Nat) (Z : AZ) (a0 : Nat) (b1 : Nat) (i2 : Int32) (I : AI) : Option ((Int32 ⊕ String) × AI) :=
  (f142 kad N Z a0 b1 i2 (0 : Int32) (0 : Int32) I).bind fun r5_1 =>
  xB r5_1 fun vr5_1 Ir5_1 =>
  some (.inl vr5_1, Ir5_1)
set_option maxRecDepth 20000 in
theorem Tf141 {kad : Nat → Nat} {N : Nat} {Z : AZ} {d : Nat} {t : Option Nat × (Nat × Nat)} (hd : 2 ≤ d) : ∀ (a0 : Nat) (ha0 : sh10 kad Z a0) (b1 : Nat) (i2 : Int32) (I : AI) (r : (Int32 ⊕ String) × AI), f141 kad N Z a0 b1 i2 I = some r → aGo kad d 141 (0, ([(0, .ref a0), (1, .ref b1), (2, .int i2)], [])) (aMem Z I, t) (qX tvI Z t r) := by
  intro a0 ha0 b1 i2 I r h
  unfold f141 at h
  refine go_ops aMi141 5 _ (f1 := (5, ([(0, .ref a0), (1, .ref b1), (2, .int i2)], [.int (0 : Int32), .int (0 : Int32), .int i2, .ref b1, .ref a0]))) rfl ?_
  obtain ⟨r5_1, hxr5_1, h⟩ := Option.bind_eq_some_iff.mp h
  rcases xB_eq h with ⟨vr5_1, Ir5_1, her5_1, h2⟩ | ⟨Er5_1, Ir5_1, her5_1, h2⟩
  rotate_left
  · clear h
    subst her5_1
    subst h2
    exact gg_cvt (as := [.ref b1, .int i2, .int (0 : Int32), .int (0 : Int32)]) (r := []) aMi141 rfl rfl rfl aMi142 (Nat.le_of_ble_eq_true rfl) rfl (Nat.le_of_ble_eq_true rfl) (Nat.le_of_ble_eq_true rfl) (by omega) (isK_of (sh10_z ha0)) (Tf142 (by omega) a0 ha0 b1 i2 (0 : Int32) (0 : Int32) I _ hxr5_1) qX_thr
  clear h
  subst her5_1
  have h := h2
  clear h2
  refine gg_cv (as := [.ref b1, .int i2, .int (0 : Int32), .int (0 : Int32)]) (r := []) aMi141 rfl rfl rfl aMi142 (Nat.le_of_ble_eq_true rfl) rfl (Nat.le_of_ble_eq_true rfl) (Nat.le_of_ble_eq_true rfl) (by omega) (isK_of (sh10_z ha0)) (Tf142 (by omega) a0 ha0 b1 i2 (0 : Int32) (0 : Int32) I _ hxr5_1) ?_
  show aGo kad d 141 (8, ([(0, .ref a0), (1, .ref b1), (2, .int i2)], [.int vr5_1])) (aMem Z Ir5_1, t) _
  cases h
  exact go_ret aMi141 rfl aRetI qX_ret
-- KernelGym.section (I)I
def f126 (kad : Nat → Nat) (N : Nat) (Z : AZ) (a0 : Nat) (i1 : Int32) (I : AI) : Option ((Int32 ⊕ String) × AI) :=
  (f138 kad N Z i1 (0 : Int32) (1 : Int32) I).bind fun r3_1 =>
  xB r3_1 fun vr3_1 Ir3_1 =>
  (f141 kad N Z a0 (kad 0) i1 Ir3_1).bind fun r11_2 =>
  xB r11_2 fun vr11_2 Ir11_2 =>
  some (.inl vr11_2, Ir11_2)
set_option maxRecDepth 20000 in
theorem Tf126 {kad : Nat → Nat} {N : Nat} {Z : AZ} {d : Nat} {t : Option Nat × (Nat × Nat)} (hd : 3 ≤ d) : ∀ (a0 : Nat) (ha0 : sh10 kad Z a0) (i1 : Int32) (I : AI) (r : (Int32 ⊕ String) × AI), f126 kad N Z a0 i1 I = some r → aGo kad d 126 (0, ([(0, .ref a0), (1, .int i1)], [])) (aMem Z I, t) (qX tvI Z t r) := by
  intro a0 ha0 i1 I r h
  unfold f126 at h
  refine go_ops aMi126 3 _ (f1 := (3, ([(0, .ref a0), (1, .int i1)], [.int (1 : Int32), .int (0 : Int32), .int i1]))) rfl ?_
  obtain ⟨r3_1, hxr3_1, h⟩ := Option.bind_eq_some_iff.mp h
  rcases xB_eq h with ⟨vr3_1, Ir3_1, her3_1, h2⟩ | ⟨Er3_1, Ir3_1, her3_1, h2⟩
  rotate_left
  · clear h
    subst her3_1
    subst h2
    exact gg_cst (as := [.int i1, .int (0 : Int32), .int (1 : Int32)]) (r := []) aMi126 rfl rfl rfl aMi138 rfl (Nat.le_of_ble_eq_true rfl) (Nat.le_of_ble_eq_true rfl) (by omega) (Tf138 (by omega) i1 (0 : Int32) (1 : Int32) I _ hxr3_1) qX_thr
  clear h
  subst her3_1
  have h := h2
  clear h2
  refine gg_cs (as := [.int i1, .int (0 : Int32), .int (1 : Int32)]) (r := []) aMi126 rfl rfl rfl aMi138 rfl (Nat.le_of_ble_eq_true rfl) (Nat.le_of_ble_eq_true rfl) (by omega) (Tf138 (by omega) i1 (0 : Int32) (1 : Int32) I _ hxr3_1) ?_
  show aGo kad d 126 (6, ([(0, .ref a0), (1, .int i1)], [])) (aMem Z Ir3_1, t) _
  refine go_ops aMi126 1 _ (f1 := (7, ([(0, .ref a0), (1, .int i1)], [.ref a0]))) rfl ?_
  refine gg_gs aMi126 rfl rfl ?_
  refine go_ops aMi126 1 _ (f1 := (11, ([(0, .ref a0), (1, .int i1)], [.int i1, .ref (kad 0), .ref a0]))) rfl ?_
  obtain ⟨r11_2, hxr11_2, h⟩ := Option.bind_eq_some_iff.mp h
  rcases xB_eq h with ⟨vr11_2, Ir11_2, her11_2, h2⟩ | ⟨Er11_2, Ir11_2, her11_2, h2⟩
  rotate_left
  · clear h
    subst her11_2
    subst h2
    exact gg_cvt (as := [.ref (kad 0), .int i1]) (r := []) aMi126 rfl rfl rfl aMi141 (Nat.le_of_ble_eq_true rfl) rfl (Nat.le_of_ble_eq_true rfl) (Nat.le_of_ble_eq_true rfl) (by omega) (isK_of (sh10_z ha0)) (Tf141 (by omega) a0 ha0 (kad 0) i1 Ir3_1 _ hxr11_2) qX_thr
  clear h
  subst her11_2
  have h := h2
  clear h2
  refine gg_cv (as := [.ref (kad 0), .int i1]) (r := []) aMi126 rfl rfl rfl aMi141 (Nat.le_of_ble_eq_true rfl) rfl (Nat.le_of_ble_eq_true rfl) (Nat.le_of_ble_eq_true rfl) (by omega) (isK_of (sh10_z ha0)) (Tf141 (by omega) a0 ha0 (kad 0) i1 Ir3_1 _ hxr11_2) ?_
  show aGo kad d 126 (14, ([(0, .ref a0), (1, .int i1)], [.int vr11_2])) (aMem Z Ir11_2, t) _
  cases h
  exact go_ret aMi126 rfl aRetI qX_ret
-- KernelGym.label (I)I
def f127 (kad : Nat → Nat) (N : Nat) (Z : AZ) (a0 : Nat) (i1 : Int32) (I : AI) : Option ((Int32 ⊕ String) × AI) :=
  (f138 kad N Z i1 (0 : Int32) (19 : Int32) I).bind fun r4_1 =>
  xB r4_1 fun vr4_1 Ir4_1 =>
  (f141 kad N Z a0 (kad 1) i1 Ir4_1).bind fun r12_2 =>
  xB r12_2 fun vr12_2 Ir12_2 =>
  some (.inl vr12_2, Ir12_2)
set_option maxRecDepth 20000 in
theorem Tf127 {kad : Nat → Nat} {N : Nat} {Z : AZ} {d : Nat} {t : Option Nat × (Nat × Nat)} (hd : 3 ≤ d) : ∀ (a0 : Nat) (ha0 : sh10 kad Z a0) (i1 : Int32) (I : AI) (r : (Int32 ⊕ String) × AI), f127 kad N Z a0 i1 I = some r → aGo kad d 127 (0, ([(0, .ref a0), (1, .int i1)], [])) (aMem Z I, t) (qX tvI Z t r) := by
  intro a0 ha0 i1 I r h
  unfold f127 at h
  refine go_ops aMi127 3 _ (f1 := (4, ([(0, .ref a0), (1, .int i1)], [.int (19 : Int32), .int (0 : Int32), .int i1]))) rfl ?_
  obtain ⟨r4_1, hxr4_1, h⟩ := Option.bind_eq_some_iff.mp h
  rcases xB_eq h with ⟨vr4_1, Ir4_1, her4_1, h2⟩ | ⟨Er4_1, Ir4_1, her4_1, h2⟩
  rotate_left
  · clear h
    subst her4_1
    subst h2
    exact gg_cst (as := [.int i1, .int (0 : Int32), .int (19 : Int32)]) (r := []) aMi127 rfl rfl rfl aMi138 rfl (Nat.le_of_ble_eq_true rfl) (Nat.le_of_ble_eq_true rfl) (by omega) (Tf138 (by omega) i1 (0 : Int32) (19 : Int32) I _ hxr4_1) qX_thr
  clear h
  subst her4_1
  have h := h2
  clear h2
  refine gg_cs (as := [.int i1, .int (0 : Int32), .int (19 : Int32)]) (r := []) aMi127 rfl rfl rfl aMi138 rfl (Nat.le_of_ble_eq_true rfl) (Nat.le_of_ble_eq_true rfl) (by omega) (Tf138 (by omega) i1 (0 : Int32) (19 : Int32) I _ hxr4_1) ?_
  show aGo kad d 127 (7, ([(0, .ref a0), (1, .int i1)], [])) (aMem Z Ir4_1, t) _
  refine go_ops aMi127 1 _ (f1 := (8, ([(0, .ref a0), (1, .int i1)], [.ref a0]))) rfl ?_
  refine gg_gs aMi127 rfl rfl ?_
  refine go_ops aMi127 1 _ (f1 := (12, ([(0, .ref a0), (1, .int i1)], [.int i1, .ref (kad 1), .ref a0]))) rfl ?_
  obtain ⟨r12_2, hxr12_2, h⟩ := Option.bind_eq_some_iff.mp h
  rcases xB_eq h with ⟨vr12_2, Ir12_2, her12_2, h2⟩ | ⟨Er12_2, Ir12_2, her12_2, h2⟩
  rotate_left
  · clear h
    subst her12_2
    subst h2
    exact gg_cvt (as := [.ref (kad 1), .int i1]) (r := []) aMi127 rfl rfl rfl aMi141 (Nat.le_of_ble_eq_true rfl) rfl (Nat.le_of_ble_eq_true rfl) (Nat.le_of_ble_eq_true rfl) (by omega) (isK_of (sh10_z ha0)) (Tf141 (by omega) a0 ha0 (kad 1) i1 Ir4_1 _ hxr12_2) qX_thr
  clear h
  subst her12_2
  have h := h2
  clear h2
  refine gg_cv (as := [.ref (kad 1), .int i1]) (r := []) aMi127 rfl rfl rfl aMi141 (Nat.le_of_ble_eq_true rfl) rfl (Nat.le_of_ble_eq_true rfl) (Nat.le_of_ble_eq_true rfl) (by omega) (isK_of (sh10_z ha0)) (Tf141 (by omega) a0 ha0 (kad 1) i1 Ir4_1 _ hxr12_2) ?_
  show aGo kad d 127 (15, ([(0, .ref a0), (1, .int i1)], [.int vr12_2])) (aMem Z Ir12_2, t) _
  cases h
  exact go_ret aMi127 rfl aRetI qX_ret
-- KernelGym.requireOperand (II)V
def f139_b20 (kad : Nat → Nat) (N : Nat) (Z : AZ) (s0 : Int32) (s1 : Int32) (s2 : Int32) (I : AI) : Option ((Unit ⊕ String) × AI) :=
  (f138 kad N Z s2 s1 s0 I).bind fun r20_1 =>
  xB r20_1 fun vr20_1 Ir20_1 =>
  some (.inl (), Ir20_1)
set_option maxRecDepth 20000 in
theorem Tf139_b20 {kad : Nat → Nat} {N : Nat} {Z : AZ} {d : Nat} {t : Option Nat × (Nat × Nat)} (hd : 1 ≤ d) : ∀ (s0 : Int32) (s1 : Int32) (s2 : Int32) (I : AI) (r : (Unit ⊕ String) × AI), f139_b20 kad N Z s0 s1 s2 I = some r → aGo kad d 139 (20, ([], [.int s0, .int s1, .int s2])) (aMem Z I, t) (qX tvV Z t r) := by
  intro s0 s1 s2 I r h
  unfold f139_b20 at h
  obtain ⟨r20_1, hxr20_1, h⟩ := Option.bind_eq_some_iff.mp h
  rcases xB_eq h with ⟨vr20_1, Ir20_1, her20_1, h2⟩ | ⟨Er20_1, Ir20_1, her20_1, h2⟩
  rotate_left
  · clear h
    subst her20_1
    subst h2
    exact gg_cst (as := [.int s2, .int s1, .int s0]) (r := []) aMi139 rfl rfl rfl aMi138 rfl (Nat.le_of_ble_eq_true rfl) (Nat.le_of_ble_eq_true rfl) (by omega) (Tf138 (by omega) s2 s1 s0 I _ hxr20_1) qX_thr
  clear h
  subst her20_1
  have h := h2
  clear h2
  refine gg_cs (as := [.int s2, .int s1, .int s0]) (r := []) aMi139 rfl rfl rfl aMi138 rfl (Nat.le_of_ble_eq_true rfl) (Nat.le_of_ble_eq_true rfl) (by omega) (Tf138 (by omega) s2 s1 s0 I _ hxr20_1) ?_
  show aGo kad d 139 (23, ([], [])) (aMem Z Ir20_1, t) _
  cases h
  exact go_ret aMi139 rfl rfl qX_ret
def f139 (kad : Nat → Nat) (N : Nat) (Z : AZ) (i0 : Int32) (i1 : Int32) (I : AI) : Option ((Unit ⊕ String) × AI) :=
  (f138 kad N Z i0 (0 : Int32) (3 : Int32) I).bind fun r3_1 =>
  xB r3_1 fun vr3_1 Ir3_1 =>
  if ¬ i0 = (1 : Int32) then
    f139_b20 kad N Z (65535 : Int32) (0 : Int32) i1 Ir3_1
  else
    f139_b20 kad N Z (19 : Int32) (0 : Int32) i1 Ir3_1
set_option maxRecDepth 20000 in
theorem Tf139 {kad : Nat → Nat} {N : Nat} {Z : AZ} {d : Nat} {t : Option Nat × (Nat × Nat)} (hd : 1 ≤ d) : ∀ (i0 : Int32) (i1 : Int32) (I : AI) (r : (Unit ⊕ String) × AI), f139 kad N Z i0 i1 I = some r → aGo kad d 139 (0, ([(0, .int i0), (1, .int i1)], [])) (aMem Z I, t) (qX tvV Z t r) := by
  intro i0 i1 I r h
  unfold f139 at h
  refine go_ops aMi139 3 _ (f1 := (3, ([(0, .int i0), (1, .int i1)], [.int (3 : Int32), .int (0 : Int32), .int i0]))) rfl ?_
  obtain ⟨r3_1, hxr3_1, h⟩ := Option.bind_eq_some_iff.mp h
  rcases xB_eq h with ⟨vr3_1, Ir3_1, her3_1, h2⟩ | ⟨Er3_1, Ir3_1, her3_1, h2⟩
  rotate_left
  · clear h
    subst her3_1
    subst h2
    exact gg_cst (as := [.int i0, .int (0 : Int32), .int (3 : Int32)]) (r := []) aMi139 rfl rfl rfl aMi138 rfl (Nat.le_of_ble_eq_true rfl) (Nat.le_of_ble_eq_true rfl) (by omega) (Tf138 (by omega) i0 (0 : Int32) (3 : Int32) I _ hxr3_1) qX_thr
  clear h
  subst her3_1
  have h := h2
  clear h2
  refine gg_cs (as := [.int i0, .int (0 : Int32), .int (3 : Int32)]) (r := []) aMi139 rfl rfl rfl aMi138 rfl (Nat.le_of_ble_eq_true rfl) (Nat.le_of_ble_eq_true rfl) (by omega) (Tf138 (by omega) i0 (0 : Int32) (3 : Int32) I _ hxr3_1) ?_
  show aGo kad d 139 (6, ([(0, .int i0), (1, .int i1)], [])) (aMem Z Ir3_1, t) _
  refine go_ops aMi139 4 _ (f1 := (10, ([(0, .int i0), (1, .int i1)], [.int (1 : Int32), .int i0, .int (0 : Int32), .int i1]))) rfl ?_
  refine gg_br (b := decide (¬ i0 = (1 : Int32))) (tg := 18) (off := 8) aMi139 rfl rfl rfl rfl (fun hb => ?_) (fun hb => ?_)
  · rw [if_pos (of_decide_eq_true hb)] at h
    refine gg_kI (Or.inl ⟨rfl, rfl⟩) aMi139 rfl rfl ?_
    refine go_le (lv1 := []) (aLe_of (show (List.map (fun q => q.1) ([] : ALv)).Nodup from (by show ([] : List Nat).Nodup; decide)) aSubL_nil) ?_
    exact Tf139_b20 hd (65535 : Int32) (0 : Int32) i1 Ir3_1 _ h
  · rw [if_neg (of_decide_eq_false hb)] at h
    refine go_ops aMi139 2 _ (f1 := (20, ([(0, .int i0), (1, .int i1)], [.int (19 : Int32), .int (0 : Int32), .int i1]))) rfl ?_
    refine go_le (lv1 := []) (aLe_of (show (List.map (fun q => q.1) ([] : ALv)).Nodup from (by show ([] : List Nat).Nodup; decide)) aSubL_nil) ?_
    exact Tf139_b20 hd (19 : Int32) (0 : Int32) i1 Ir3_1 _ h
-- KernelGym.code (IIIII)I
def f128 (kad : Nat → Nat) (N : Nat) (Z : AZ) (a0 : Nat) (i1 : Int32) (i2 : Int32) (i3 : Int32) (i4 : Int32) (i5 : Int32) (I : AI) : Option ((Int32 ⊕ String) × AI) :=
  (f138 kad N Z i1 (0 : Int32) (26 : Int32) I).bind fun r4_1 =>
  xB r4_1 fun vr4_1 Ir4_1 =>
  (f138 kad N Z i2 (0 : Int32) (3 : Int32) Ir4_1).bind fun r10_2 =>
  xB r10_2 fun vr10_2 Ir10_2 =>
  (f138 kad N Z i3 (0 : Int32) (3 : Int32) Ir10_2).bind fun r16_3 =>
  xB r16_3 fun vr16_3 Ir16_3 =>
  (f139 kad N Z i4 i5 Ir16_3).bind fun r23_4 =>
  xB r23_4 fun vr23_4 Ir23_4 =>
  (f142 kad N Z a0 (kad 2) ((((16 : Int32) * i1) + ((4 : Int32) * i2)) + i3) i4 i5 Ir23_4).bind fun r44_5 =>
  xB r44_5 fun vr44_5 Ir44_5 =>
  some (.inl vr44_5, Ir44_5)
set_option maxRecDepth 20000 in
theorem Tf128 {kad : Nat → Nat} {N : Nat} {Z : AZ} {d : Nat} {t : Option Nat × (Nat × Nat)} (hd : 2 ≤ d) : ∀ (a0 : Nat) (ha0 : sh10 kad Z a0) (i1 : Int32) (i2 : Int32) (i3 : Int32) (i4 : Int32) (i5 : Int32) (I : AI) (r : (Int32 ⊕ String) × AI), f128 kad N Z a0 i1 i2 i3 i4 i5 I = some r → aGo kad d 128 (0, ([(0, .ref a0), (1, .int i1), (2, .int i2), (3, .int i3), (4, .int i4), (5, .int i5)], [])) (aMem Z I, t) (qX tvI Z t r) := by
  intro a0 ha0 i1 i2 i3 i4 i5 I r h
  unfold f128 at h
  refine go_ops aMi128 3 _ (f1 := (4, ([(0, .ref a0), (1, .int i1), (2, .int i2), (3, .int i3), (4, .int i4), (5, .int i5)], [.int (26 : Int32), .int (0 : Int32), .int i1]))) rfl ?_
  obtain ⟨r4_1, hxr4_1, h⟩ := Option.bind_eq_some_iff.mp h
  rcases xB_eq h with ⟨vr4_1, Ir4_1, her4_1, h2⟩ | ⟨Er4_1, Ir4_1, her4_1, h2⟩
  rotate_left
  · clear h
    subst her4_1
    subst h2
    exact gg_cst (as := [.int i1, .int (0 : Int32), .int (26 : Int32)]) (r := []) aMi128 rfl rfl rfl aMi138 rfl (Nat.le_of_ble_eq_true rfl) (Nat.le_of_ble_eq_true rfl) (by omega) (Tf138 (by omega) i1 (0 : Int32) (26 : Int32) I _ hxr4_1) qX_thr
  clear h
  subst her4_1
  have h := h2
  clear h2
  refine gg_cs (as := [.int i1, .int (0 : Int32), .int (26 : Int32)]) (r := []) aMi128 rfl rfl rfl aMi138 rfl (Nat.le_of_ble_eq_true rfl) (Nat.le_of_ble_eq_true rfl) (by omega) (Tf138 (by omega) i1 (0 : Int32) (26 : Int32) I _ hxr4_1) ?_
  show aGo kad d 128 (7, ([(0, .ref a0), (1, .int i1), (2, .int i2), (3, .int i3), (4, .int i4), (5, .int i5)], [])) (aMem Z Ir4_1, t) _
  refine go_ops aMi128 3 _ (f1 := (10, ([(0, .ref a0), (1, .int i1), (2, .int i2), (3, .int i3), (4, .int i4), (5, .int i5)], [.int (3 : Int32), .int (0 : Int32), .int i2]))) rfl ?_
  obtain ⟨r10_2, hxr10_2, h⟩ := Option.bind_eq_some_iff.mp h
  rcases xB_eq h with ⟨vr10_2, Ir10_2, her10_2, h2⟩ | ⟨Er10_2, Ir10_2, her10_2, h2⟩
  rotate_left
  · clear h
    subst her10_2
    subst h2
    exact gg_cst (as := [.int i2, .int (0 : Int32), .int (3 : Int32)]) (r := []) aMi128 rfl rfl rfl aMi138 rfl (Nat.le_of_ble_eq_true rfl) (Nat.le_of_ble_eq_true rfl) (by omega) (Tf138 (by omega) i2 (0 : Int32) (3 : Int32) Ir4_1 _ hxr10_2) qX_thr
  clear h
  subst her10_2
  have h := h2
  clear h2
  refine gg_cs (as := [.int i2, .int (0 : Int32), .int (3 : Int32)]) (r := []) aMi128 rfl rfl rfl aMi138 rfl (Nat.le_of_ble_eq_true rfl) (Nat.le_of_ble_eq_true rfl) (by omega) (Tf138 (by omega) i2 (0 : Int32) (3 : Int32) Ir4_1 _ hxr10_2) ?_
  show aGo kad d 128 (13, ([(0, .ref a0), (1, .int i1), (2, .int i2), (3, .int i3), (4, .int i4), (5, .int i5)], [])) (aMem Z Ir10_2, t) _
  refine go_ops aMi128 3 _ (f1 := (16, ([(0, .ref a0), (1, .int i1), (2, .int i2), (3, .int i3), (4, .int i4), (5, .int i5)], [.int (3 : Int32), .int (0 : Int32), .int i3]))) rfl ?_
  obtain ⟨r16_3, hxr16_3, h⟩ := Option.bind_eq_some_iff.mp h
  rcases xB_eq h with ⟨vr16_3, Ir16_3, her16_3, h2⟩ | ⟨Er16_3, Ir16_3, her16_3, h2⟩
  rotate_left
  · clear h
    subst her16_3
    subst h2
    exact gg_cst (as := [.int i3, .int (0 : Int32), .int (3 : Int32)]) (r := []) aMi128 rfl rfl rfl aMi138 rfl (Nat.le_of_ble_eq_true rfl) (Nat.le_of_ble_eq_true rfl) (by omega) (Tf138 (by omega) i3 (0 : Int32) (3 : Int32) Ir10_2 _ hxr16_3) qX_thr
  clear h
  subst her16_3
  have h := h2
  clear h2
  refine gg_cs (as := [.int i3, .int (0 : Int32), .int (3 : Int32)]) (r := []) aMi128 rfl rfl rfl aMi138 rfl (Nat.le_of_ble_eq_true rfl) (Nat.le_of_ble_eq_true rfl) (by omega) (Tf138 (by omega) i3 (0 : Int32) (3 : Int32) Ir10_2 _ hxr16_3) ?_
  show aGo kad d 128 (19, ([(0, .ref a0), (1, .int i1), (2, .int i2), (3, .int i3), (4, .int i4), (5, .int i5)], [])) (aMem Z Ir16_3, t) _
  refine go_ops aMi128 2 _ (f1 := (23, ([(0, .ref a0), (1, .int i1), (2, .int i2), (3, .int i3), (4, .int i4), (5, .int i5)], [.int i5, .int i4]))) rfl ?_
  obtain ⟨r23_4, hxr23_4, h⟩ := Option.bind_eq_some_iff.mp h
  rcases xB_eq h with ⟨vr23_4, Ir23_4, her23_4, h2⟩ | ⟨Er23_4, Ir23_4, her23_4, h2⟩
  rotate_left
  · clear h
    subst her23_4
    subst h2
    exact gg_cst (as := [.int i4, .int i5]) (r := []) aMi128 rfl rfl rfl aMi139 rfl (Nat.le_of_ble_eq_true rfl) (Nat.le_of_ble_eq_true rfl) (by omega) (Tf139 (by omega) i4 i5 Ir16_3 _ hxr23_4) qX_thr
  clear h
  subst her23_4
  have h := h2
  clear h2
  refine gg_cs (as := [.int i4, .int i5]) (r := []) aMi128 rfl rfl rfl aMi139 rfl (Nat.le_of_ble_eq_true rfl) (Nat.le_of_ble_eq_true rfl) (by omega) (Tf139 (by omega) i4 i5 Ir16_3 _ hxr23_4) ?_
  show aGo kad d 128 (26, ([(0, .ref a0), (1, .int i1), (2, .int i2), (3, .int i3), (4, .int i4), (5, .int i5)], [])) (aMem Z Ir23_4, t) _
  refine go_ops aMi128 1 _ (f1 := (27, ([(0, .ref a0), (1, .int i1), (2, .int i2), (3, .int i3), (4, .int i4), (5, .int i5)], [.ref a0]))) rfl ?_
  refine gg_gs aMi128 rfl rfl ?_
  refine go_ops aMi128 11 _ (f1 := (44, ([(0, .ref a0), (1, .int i1), (2, .int i2), (3, .int i3), (4, .int i4), (5, .int i5)], [.int i5, .int i4, .int ((((16 : Int32) * i1) + ((4 : Int32) * i2)) + i3), .ref (kad 2), .ref a0]))) rfl ?_
  obtain ⟨r44_5, hxr44_5, h⟩ := Option.bind_eq_some_iff.mp h
  rcases xB_eq h with ⟨vr44_5, Ir44_5, her44_5, h2⟩ | ⟨Er44_5, Ir44_5, her44_5, h2⟩
  rotate_left
  · clear h
    subst her44_5
    subst h2
    exact gg_cvt (as := [.ref (kad 2), .int ((((16 : Int32) * i1) + ((4 : Int32) * i2)) + i3), .int i4, .int i5]) (r := []) aMi128 rfl rfl rfl aMi142 (Nat.le_of_ble_eq_true rfl) rfl (Nat.le_of_ble_eq_true rfl) (Nat.le_of_ble_eq_true rfl) (by omega) (isK_of (sh10_z ha0)) (Tf142 (by omega) a0 ha0 (kad 2) ((((16 : Int32) * i1) + ((4 : Int32) * i2)) + i3) i4 i5 Ir23_4 _ hxr44_5) qX_thr
  clear h
  subst her44_5
  have h := h2
  clear h2
  refine gg_cv (as := [.ref (kad 2), .int ((((16 : Int32) * i1) + ((4 : Int32) * i2)) + i3), .int i4, .int i5]) (r := []) aMi128 rfl rfl rfl aMi142 (Nat.le_of_ble_eq_true rfl) rfl (Nat.le_of_ble_eq_true rfl) (Nat.le_of_ble_eq_true rfl) (by omega) (isK_of (sh10_z ha0)) (Tf142 (by omega) a0 ha0 (kad 2) ((((16 : Int32) * i1) + ((4 : Int32) * i2)) + i3) i4 i5 Ir23_4 _ hxr44_5) ?_
  show aGo kad d 128 (47, ([(0, .ref a0), (1, .int i1), (2, .int i2), (3, .int i3), (4, .int i4), (5, .int i5)], [.int vr44_5])) (aMem Z Ir44_5, t) _
  cases h
  exact go_ret aMi128 rfl aRetI qX_ret
-- KernelGym.word (II)I
def f129 (kad : Nat → Nat) (N : Nat) (Z : AZ) (a0 : Nat) (i1 : Int32) (i2 : Int32) (I : AI) : Option ((Int32 ⊕ String) × AI) :=
  (f139 kad N Z i1 i2 I).bind fun r2_1 =>
  xB r2_1 fun vr2_1 Ir2_1 =>
  (f142 kad N Z a0 (kad 3) (0 : Int32) i1 i2 Ir2_1).bind fun r12_2 =>
  xB r12_2 fun vr12_2 Ir12_2 =>
  some (.inl vr12_2, Ir12_2)
set_option maxRecDepth 20000 in
theorem Tf129 {kad : Nat → Nat} {N : Nat} {Z : AZ} {d : Nat} {t : Option Nat × (Nat × Nat)} (hd : 2 ≤ d) : ∀ (a0 : Nat) (ha0 : sh10 kad Z a0) (i1 : Int32) (i2 : Int32) (I : AI) (r : (Int32 ⊕ String) × AI), f129 kad N Z a0 i1 i2 I = some r → aGo kad d 129 (0, ([(0, .ref a0), (1, .int i1), (2, .int i2)], [])) (aMem Z I, t) (qX tvI Z t r) := by
  intro a0 ha0 i1 i2 I r h
  unfold f129 at h
  refine go_ops aMi129 2 _ (f1 := (2, ([(0, .ref a0), (1, .int i1), (2, .int i2)], [.int i2, .int i1]))) rfl ?_
  obtain ⟨r2_1, hxr2_1, h⟩ := Option.bind_eq_some_iff.mp h
  rcases xB_eq h with ⟨vr2_1, Ir2_1, her2_1, h2⟩ | ⟨Er2_1, Ir2_1, her2_1, h2⟩
  rotate_left
  · clear h
    subst her2_1
    subst h2
    exact gg_cst (as := [.int i1, .int i2]) (r := []) aMi129 rfl rfl rfl aMi139 rfl (Nat.le_of_ble_eq_true rfl) (Nat.le_of_ble_eq_true rfl) (by omega) (Tf139 (by omega) i1 i2 I _ hxr2_1) qX_thr
  clear h
  subst her2_1
  have h := h2
  clear h2
  refine gg_cs (as := [.int i1, .int i2]) (r := []) aMi129 rfl rfl rfl aMi139 rfl (Nat.le_of_ble_eq_true rfl) (Nat.le_of_ble_eq_true rfl) (by omega) (Tf139 (by omega) i1 i2 I _ hxr2_1) ?_
  show aGo kad d 129 (5, ([(0, .ref a0), (1, .int i1), (2, .int i2)], [])) (aMem Z Ir2_1, t) _
  refine go_ops aMi129 1 _ (f1 := (6, ([(0, .ref a0), (1, .int i1), (2, .int i2)], [.ref a0]))) rfl ?_
  refine gg_gs aMi129 rfl rfl ?_
  refine go_ops aMi129 3 _ (f1 := (12, ([(0, .ref a0), (1, .int i1), (2, .int i2)], [.int i2, .int i1, .int (0 : Int32), .ref (kad 3), .ref a0]))) rfl ?_
  obtain ⟨r12_2, hxr12_2, h⟩ := Option.bind_eq_some_iff.mp h
  rcases xB_eq h with ⟨vr12_2, Ir12_2, her12_2, h2⟩ | ⟨Er12_2, Ir12_2, her12_2, h2⟩
  rotate_left
  · clear h
    subst her12_2
    subst h2
    exact gg_cvt (as := [.ref (kad 3), .int (0 : Int32), .int i1, .int i2]) (r := []) aMi129 rfl rfl rfl aMi142 (Nat.le_of_ble_eq_true rfl) rfl (Nat.le_of_ble_eq_true rfl) (Nat.le_of_ble_eq_true rfl) (by omega) (isK_of (sh10_z ha0)) (Tf142 (by omega) a0 ha0 (kad 3) (0 : Int32) i1 i2 Ir2_1 _ hxr12_2) qX_thr
  clear h
  subst her12_2
  have h := h2
  clear h2
  refine gg_cv (as := [.ref (kad 3), .int (0 : Int32), .int i1, .int i2]) (r := []) aMi129 rfl rfl rfl aMi142 (Nat.le_of_ble_eq_true rfl) rfl (Nat.le_of_ble_eq_true rfl) (Nat.le_of_ble_eq_true rfl) (by omega) (isK_of (sh10_z ha0)) (Tf142 (by omega) a0 ha0 (kad 3) (0 : Int32) i1 i2 Ir2_1 _ hxr12_2) ?_
  show aGo kad d 129 (15, ([(0, .ref a0), (1, .int i1), (2, .int i2)], [.int vr12_2])) (aMem Z Ir12_2, t) _
  cases h
  exact go_ret aMi129 rfl aRetI qX_ret
-- KernelGym.space (I)I
def f130 (kad : Nat → Nat) (N : Nat) (Z : AZ) (a0 : Nat) (i1 : Int32) (I : AI) : Option ((Int32 ⊕ String) × AI) :=
  (f138 kad N Z i1 (1 : Int32) (32 : Int32) I).bind fun r4_1 =>
  xB r4_1 fun vr4_1 Ir4_1 =>
  (f141 kad N Z a0 (kad 4) i1 Ir4_1).bind fun r12_2 =>
  xB r12_2 fun vr12_2 Ir12_2 =>
  some (.inl vr12_2, Ir12_2)
set_option maxRecDepth 20000 in
theorem Tf130 {kad : Nat → Nat} {N : Nat} {Z : AZ} {d : Nat} {t : Option Nat × (Nat × Nat)} (hd : 3 ≤ d) : ∀ (a0 : Nat) (ha0 : sh10 kad Z a0) (i1 : Int32) (I : AI) (r : (Int32 ⊕ String) × AI), f130 kad N Z a0 i1 I = some r → aGo kad d 130 (0, ([(0, .ref a0), (1, .int i1)], [])) (aMem Z I, t) (qX tvI Z t r) := by
  intro a0 ha0 i1 I r h
  unfold f130 at h
  refine go_ops aMi130 3 _ (f1 := (4, ([(0, .ref a0), (1, .int i1)], [.int (32 : Int32), .int (1 : Int32), .int i1]))) rfl ?_
  obtain ⟨r4_1, hxr4_1, h⟩ := Option.bind_eq_some_iff.mp h
  rcases xB_eq h with ⟨vr4_1, Ir4_1, her4_1, h2⟩ | ⟨Er4_1, Ir4_1, her4_1, h2⟩
  rotate_left
  · clear h
    subst her4_1
    subst h2
    exact gg_cst (as := [.int i1, .int (1 : Int32), .int (32 : Int32)]) (r := []) aMi130 rfl rfl rfl aMi138 rfl (Nat.le_of_ble_eq_true rfl) (Nat.le_of_ble_eq_true rfl) (by omega) (Tf138 (by omega) i1 (1 : Int32) (32 : Int32) I _ hxr4_1) qX_thr
  clear h
  subst her4_1
  have h := h2
  clear h2
  refine gg_cs (as := [.int i1, .int (1 : Int32), .int (32 : Int32)]) (r := []) aMi130 rfl rfl rfl aMi138 rfl (Nat.le_of_ble_eq_true rfl) (Nat.le_of_ble_eq_true rfl) (by omega) (Tf138 (by omega) i1 (1 : Int32) (32 : Int32) I _ hxr4_1) ?_
  show aGo kad d 130 (7, ([(0, .ref a0), (1, .int i1)], [])) (aMem Z Ir4_1, t) _
  refine go_ops aMi130 1 _ (f1 := (8, ([(0, .ref a0), (1, .int i1)], [.ref a0]))) rfl ?_
  refine gg_gs aMi130 rfl rfl ?_
  refine go_ops aMi130 1 _ (f1 := (12, ([(0, .ref a0), (1, .int i1)], [.int i1, .ref (kad 4), .ref a0]))) rfl ?_
  obtain ⟨r12_2, hxr12_2, h⟩ := Option.bind_eq_some_iff.mp h
  rcases xB_eq h with ⟨vr12_2, Ir12_2, her12_2, h2⟩ | ⟨Er12_2, Ir12_2, her12_2, h2⟩
  rotate_left
  · clear h
    subst her12_2
    subst h2
    exact gg_cvt (as := [.ref (kad 4), .int i1]) (r := []) aMi130 rfl rfl rfl aMi141 (Nat.le_of_ble_eq_true rfl) rfl (Nat.le_of_ble_eq_true rfl) (Nat.le_of_ble_eq_true rfl) (by omega) (isK_of (sh10_z ha0)) (Tf141 (by omega) a0 ha0 (kad 4) i1 Ir4_1 _ hxr12_2) qX_thr
  clear h
  subst her12_2
  have h := h2
  clear h2
  refine gg_cv (as := [.ref (kad 4), .int i1]) (r := []) aMi130 rfl rfl rfl aMi141 (Nat.le_of_ble_eq_true rfl) rfl (Nat.le_of_ble_eq_true rfl) (Nat.le_of_ble_eq_true rfl) (by omega) (isK_of (sh10_z ha0)) (Tf141 (by omega) a0 ha0 (kad 4) i1 Ir4_1 _ hxr12_2) ?_
  show aGo kad d 130 (15, ([(0, .ref a0), (1, .int i1)], [.int vr12_2])) (aMem Z Ir12_2, t) _
  cases h
  exact go_ret aMi130 rfl aRetI qX_ret
-- KernelGym.vector (III)I
def f131 (kad : Nat → Nat) (N : Nat) (Z : AZ) (a0 : Nat) (i1 : Int32) (i2 : Int32) (i3 : Int32) (I : AI) : Option ((Int32 ⊕ String) × AI) :=
  (f138 kad N Z i1 (0 : Int32) (1 : Int32) I).bind fun r3_1 =>
  xB r3_1 fun vr3_1 Ir3_1 =>
  (f139 kad N Z i2 i3 Ir3_1).bind fun r8_2 =>
  xB r8_2 fun vr8_2 Ir8_2 =>
  (f142 kad N Z a0 (kad 5) i1 i2 i3 Ir8_2).bind fun r18_3 =>
  xB r18_3 fun vr18_3 Ir18_3 =>
  some (.inl vr18_3, Ir18_3)
set_option maxRecDepth 20000 in
theorem Tf131 {kad : Nat → Nat} {N : Nat} {Z : AZ} {d : Nat} {t : Option Nat × (Nat × Nat)} (hd : 2 ≤ d) : ∀ (a0 : Nat) (ha0 : sh10 kad Z a0) (i1 : Int32) (i2 : Int32) (i3 : Int32) (I : AI) (r : (Int32 ⊕ String) × AI), f131 kad N Z a0 i1 i2 i3 I = some r → aGo kad d 131 (0, ([(0, .ref a0), (1, .int i1), (2, .int i2), (3, .int i3)], [])) (aMem Z I, t) (qX tvI Z t r) := by
  intro a0 ha0 i1 i2 i3 I r h
  unfold f131 at h
  refine go_ops aMi131 3 _ (f1 := (3, ([(0, .ref a0), (1, .int i1), (2, .int i2), (3, .int i3)], [.int (1 : Int32), .int (0 : Int32), .int i1]))) rfl ?_
  obtain ⟨r3_1, hxr3_1, h⟩ := Option.bind_eq_some_iff.mp h
  rcases xB_eq h with ⟨vr3_1, Ir3_1, her3_1, h2⟩ | ⟨Er3_1, Ir3_1, her3_1, h2⟩
  rotate_left
  · clear h
    subst her3_1
    subst h2
    exact gg_cst (as := [.int i1, .int (0 : Int32), .int (1 : Int32)]) (r := []) aMi131 rfl rfl rfl aMi138 rfl (Nat.le_of_ble_eq_true rfl) (Nat.le_of_ble_eq_true rfl) (by omega) (Tf138 (by omega) i1 (0 : Int32) (1 : Int32) I _ hxr3_1) qX_thr
  clear h
  subst her3_1
  have h := h2
  clear h2
  refine gg_cs (as := [.int i1, .int (0 : Int32), .int (1 : Int32)]) (r := []) aMi131 rfl rfl rfl aMi138 rfl (Nat.le_of_ble_eq_true rfl) (Nat.le_of_ble_eq_true rfl) (by omega) (Tf138 (by omega) i1 (0 : Int32) (1 : Int32) I _ hxr3_1) ?_
  show aGo kad d 131 (6, ([(0, .ref a0), (1, .int i1), (2, .int i2), (3, .int i3)], [])) (aMem Z Ir3_1, t) _
  refine go_ops aMi131 2 _ (f1 := (8, ([(0, .ref a0), (1, .int i1), (2, .int i2), (3, .int i3)], [.int i3, .int i2]))) rfl ?_
  obtain ⟨r8_2, hxr8_2, h⟩ := Option.bind_eq_some_iff.mp h
  rcases xB_eq h with ⟨vr8_2, Ir8_2, her8_2, h2⟩ | ⟨Er8_2, Ir8_2, her8_2, h2⟩
  rotate_left
  · clear h
    subst her8_2
    subst h2
    exact gg_cst (as := [.int i2, .int i3]) (r := []) aMi131 rfl rfl rfl aMi139 rfl (Nat.le_of_ble_eq_true rfl) (Nat.le_of_ble_eq_true rfl) (by omega) (Tf139 (by omega) i2 i3 Ir3_1 _ hxr8_2) qX_thr
  clear h
  subst her8_2
  have h := h2
  clear h2
  refine gg_cs (as := [.int i2, .int i3]) (r := []) aMi131 rfl rfl rfl aMi139 rfl (Nat.le_of_ble_eq_true rfl) (Nat.le_of_ble_eq_true rfl) (by omega) (Tf139 (by omega) i2 i3 Ir3_1 _ hxr8_2) ?_
  show aGo kad d 131 (11, ([(0, .ref a0), (1, .int i1), (2, .int i2), (3, .int i3)], [])) (aMem Z Ir8_2, t) _
  refine go_ops aMi131 1 _ (f1 := (12, ([(0, .ref a0), (1, .int i1), (2, .int i2), (3, .int i3)], [.ref a0]))) rfl ?_
  refine gg_gs aMi131 rfl rfl ?_
  refine go_ops aMi131 3 _ (f1 := (18, ([(0, .ref a0), (1, .int i1), (2, .int i2), (3, .int i3)], [.int i3, .int i2, .int i1, .ref (kad 5), .ref a0]))) rfl ?_
  obtain ⟨r18_3, hxr18_3, h⟩ := Option.bind_eq_some_iff.mp h
  rcases xB_eq h with ⟨vr18_3, Ir18_3, her18_3, h2⟩ | ⟨Er18_3, Ir18_3, her18_3, h2⟩
  rotate_left
  · clear h
    subst her18_3
    subst h2
    exact gg_cvt (as := [.ref (kad 5), .int i1, .int i2, .int i3]) (r := []) aMi131 rfl rfl rfl aMi142 (Nat.le_of_ble_eq_true rfl) rfl (Nat.le_of_ble_eq_true rfl) (Nat.le_of_ble_eq_true rfl) (by omega) (isK_of (sh10_z ha0)) (Tf142 (by omega) a0 ha0 (kad 5) i1 i2 i3 Ir8_2 _ hxr18_3) qX_thr
  clear h
  subst her18_3
  have h := h2
  clear h2
  refine gg_cv (as := [.ref (kad 5), .int i1, .int i2, .int i3]) (r := []) aMi131 rfl rfl rfl aMi142 (Nat.le_of_ble_eq_true rfl) rfl (Nat.le_of_ble_eq_true rfl) (Nat.le_of_ble_eq_true rfl) (by omega) (isK_of (sh10_z ha0)) (Tf142 (by omega) a0 ha0 (kad 5) i1 i2 i3 Ir8_2 _ hxr18_3) ?_
  show aGo kad d 131 (21, ([(0, .ref a0), (1, .int i1), (2, .int i2), (3, .int i3)], [.int vr18_3])) (aMem Z Ir18_3, t) _
  cases h
  exact go_ret aMi131 rfl aRetI qX_ret
-- KernelGym.macro (I)I
def f132 (kad : Nat → Nat) (N : Nat) (Z : AZ) (a0 : Nat) (i1 : Int32) (I : AI) : Option ((Int32 ⊕ String) × AI) :=
  (f138 kad N Z i1 (0 : Int32) (4 : Int32) I).bind fun r3_1 =>
  xB r3_1 fun vr3_1 Ir3_1 =>
  (f141 kad N Z a0 (kad 6) i1 Ir3_1).bind fun r11_2 =>
  xB r11_2 fun vr11_2 Ir11_2 =>
  some (.inl vr11_2, Ir11_2)
set_option maxRecDepth 20000 in
theorem Tf132 {kad : Nat → Nat} {N : Nat} {Z : AZ} {d : Nat} {t : Option Nat × (Nat × Nat)} (hd : 3 ≤ d) : ∀ (a0 : Nat) (ha0 : sh10 kad Z a0) (i1 : Int32) (I : AI) (r : (Int32 ⊕ String) × AI), f132 kad N Z a0 i1 I = some r → aGo kad d 132 (0, ([(0, .ref a0), (1, .int i1)], [])) (aMem Z I, t) (qX tvI Z t r) := by
  intro a0 ha0 i1 I r h
  unfold f132 at h
  refine go_ops aMi132 3 _ (f1 := (3, ([(0, .ref a0), (1, .int i1)], [.int (4 : Int32), .int (0 : Int32), .int i1]))) rfl ?_
  obtain ⟨r3_1, hxr3_1, h⟩ := Option.bind_eq_some_iff.mp h
  rcases xB_eq h with ⟨vr3_1, Ir3_1, her3_1, h2⟩ | ⟨Er3_1, Ir3_1, her3_1, h2⟩
  rotate_left
  · clear h
    subst her3_1
    subst h2
    exact gg_cst (as := [.int i1, .int (0 : Int32), .int (4 : Int32)]) (r := []) aMi132 rfl rfl rfl aMi138 rfl (Nat.le_of_ble_eq_true rfl) (Nat.le_of_ble_eq_true rfl) (by omega) (Tf138 (by omega) i1 (0 : Int32) (4 : Int32) I _ hxr3_1) qX_thr
  clear h
  subst her3_1
  have h := h2
  clear h2
  refine gg_cs (as := [.int i1, .int (0 : Int32), .int (4 : Int32)]) (r := []) aMi132 rfl rfl rfl aMi138 rfl (Nat.le_of_ble_eq_true rfl) (Nat.le_of_ble_eq_true rfl) (by omega) (Tf138 (by omega) i1 (0 : Int32) (4 : Int32) I _ hxr3_1) ?_
  show aGo kad d 132 (6, ([(0, .ref a0), (1, .int i1)], [])) (aMem Z Ir3_1, t) _
  refine go_ops aMi132 1 _ (f1 := (7, ([(0, .ref a0), (1, .int i1)], [.ref a0]))) rfl ?_
  refine gg_gs aMi132 rfl rfl ?_
  refine go_ops aMi132 1 _ (f1 := (11, ([(0, .ref a0), (1, .int i1)], [.int i1, .ref (kad 6), .ref a0]))) rfl ?_
  obtain ⟨r11_2, hxr11_2, h⟩ := Option.bind_eq_some_iff.mp h
  rcases xB_eq h with ⟨vr11_2, Ir11_2, her11_2, h2⟩ | ⟨Er11_2, Ir11_2, her11_2, h2⟩
  rotate_left
  · clear h
    subst her11_2
    subst h2
    exact gg_cvt (as := [.ref (kad 6), .int i1]) (r := []) aMi132 rfl rfl rfl aMi141 (Nat.le_of_ble_eq_true rfl) rfl (Nat.le_of_ble_eq_true rfl) (Nat.le_of_ble_eq_true rfl) (by omega) (isK_of (sh10_z ha0)) (Tf141 (by omega) a0 ha0 (kad 6) i1 Ir3_1 _ hxr11_2) qX_thr
  clear h
  subst her11_2
  have h := h2
  clear h2
  refine gg_cv (as := [.ref (kad 6), .int i1]) (r := []) aMi132 rfl rfl rfl aMi141 (Nat.le_of_ble_eq_true rfl) rfl (Nat.le_of_ble_eq_true rfl) (Nat.le_of_ble_eq_true rfl) (by omega) (isK_of (sh10_z ha0)) (Tf141 (by omega) a0 ha0 (kad 6) i1 Ir3_1 _ hxr11_2) ?_
  show aGo kad d 132 (14, ([(0, .ref a0), (1, .int i1)], [.int vr11_2])) (aMem Z Ir11_2, t) _
  cases h
  exact go_ret aMi132 rfl aRetI qX_ret
-- KernelGym.endMacro ()I
def f133 (kad : Nat → Nat) (N : Nat) (Z : AZ) (a0 : Nat) (I : AI) : Option ((Int32 ⊕ String) × AI) :=
  (f141 kad N Z a0 (kad 7) (0 : Int32) I).bind fun r5_1 =>
  xB r5_1 fun vr5_1 Ir5_1 =>
  some (.inl vr5_1, Ir5_1)
set_option maxRecDepth 20000 in
theorem Tf133 {kad : Nat → Nat} {N : Nat} {Z : AZ} {d : Nat} {t : Option Nat × (Nat × Nat)} (hd : 3 ≤ d) : ∀ (a0 : Nat) (ha0 : sh10 kad Z a0) (I : AI) (r : (Int32 ⊕ String) × AI), f133 kad N Z a0 I = some r → aGo kad d 133 (0, ([(0, .ref a0)], [])) (aMem Z I, t) (qX tvI Z t r) := by
  intro a0 ha0 I r h
  unfold f133 at h
  refine go_ops aMi133 1 _ (f1 := (1, ([(0, .ref a0)], [.ref a0]))) rfl ?_
  refine gg_gs aMi133 rfl rfl ?_
  refine go_ops aMi133 1 _ (f1 := (5, ([(0, .ref a0)], [.int (0 : Int32), .ref (kad 7), .ref a0]))) rfl ?_
  obtain ⟨r5_1, hxr5_1, h⟩ := Option.bind_eq_some_iff.mp h
  rcases xB_eq h with ⟨vr5_1, Ir5_1, her5_1, h2⟩ | ⟨Er5_1, Ir5_1, her5_1, h2⟩
  rotate_left
  · clear h
    subst her5_1
    subst h2
    exact gg_cvt (as := [.ref (kad 7), .int (0 : Int32)]) (r := []) aMi133 rfl rfl rfl aMi141 (Nat.le_of_ble_eq_true rfl) rfl (Nat.le_of_ble_eq_true rfl) (Nat.le_of_ble_eq_true rfl) (by omega) (isK_of (sh10_z ha0)) (Tf141 (by omega) a0 ha0 (kad 7) (0 : Int32) I _ hxr5_1) qX_thr
  clear h
  subst her5_1
  have h := h2
  clear h2
  refine gg_cv (as := [.ref (kad 7), .int (0 : Int32)]) (r := []) aMi133 rfl rfl rfl aMi141 (Nat.le_of_ble_eq_true rfl) rfl (Nat.le_of_ble_eq_true rfl) (Nat.le_of_ble_eq_true rfl) (by omega) (isK_of (sh10_z ha0)) (Tf141 (by omega) a0 ha0 (kad 7) (0 : Int32) I _ hxr5_1) ?_
  show aGo kad d 133 (8, ([(0, .ref a0)], [.int vr5_1])) (aMem Z Ir5_1, t) _
  cases h
  exact go_ret aMi133 rfl aRetI qX_ret
-- KernelGym.use (IIIII)I
def f134 (kad : Nat → Nat) (N : Nat) (Z : AZ) (a0 : Nat) (i1 : Int32) (i2 : Int32) (i3 : Int32) (i4 : Int32) (i5 : Int32) (I : AI) : Option ((Int32 ⊕ String) × AI) :=
  (f138 kad N Z i1 (0 : Int32) (4 : Int32) I).bind fun r3_1 =>
  xB r3_1 fun vr3_1 Ir3_1 =>
  (f139 kad N Z i2 i3 Ir3_1).bind fun r8_2 =>
  xB r8_2 fun vr8_2 Ir8_2 =>
  (f139 kad N Z i4 i5 Ir8_2).bind fun r15_3 =>
  xB r15_3 fun vr15_3 Ir15_3 =>
  (f142 kad N Z a0 (kad 8) i1 i2 i3 Ir15_3).bind fun r25_4 =>
  xB r25_4 fun vr25_4 Ir25_4 =>
  (f3 kad N Z (a0 + 1) i4 i5 Ir25_4).bind fun r38_5 =>
  some (.inl vr25_4, r38_5.2)
set_option maxRecDepth 20000 in
theorem Tf134 {kad : Nat → Nat} {N : Nat} {Z : AZ} {d : Nat} {t : Option Nat × (Nat × Nat)} (hd : 2 ≤ d) : ∀ (a0 : Nat) (ha0 : sh10 kad Z a0) (i1 : Int32) (i2 : Int32) (i3 : Int32) (i4 : Int32) (i5 : Int32) (I : AI) (r : (Int32 ⊕ String) × AI), f134 kad N Z a0 i1 i2 i3 i4 i5 I = some r → aGo kad d 134 (0, ([(0, .ref a0), (1, .int i1), (2, .int i2), (3, .int i3), (4, .int i4), (5, .int i5)], [])) (aMem Z I, t) (qX tvI Z t r) := by
  intro a0 ha0 i1 i2 i3 i4 i5 I r h
  unfold f134 at h
  refine go_ops aMi134 3 _ (f1 := (3, ([(0, .ref a0), (1, .int i1), (2, .int i2), (3, .int i3), (4, .int i4), (5, .int i5)], [.int (4 : Int32), .int (0 : Int32), .int i1]))) rfl ?_
  obtain ⟨r3_1, hxr3_1, h⟩ := Option.bind_eq_some_iff.mp h
  rcases xB_eq h with ⟨vr3_1, Ir3_1, her3_1, h2⟩ | ⟨Er3_1, Ir3_1, her3_1, h2⟩
  rotate_left
  · clear h
    subst her3_1
    subst h2
    exact gg_cst (as := [.int i1, .int (0 : Int32), .int (4 : Int32)]) (r := []) aMi134 rfl rfl rfl aMi138 rfl (Nat.le_of_ble_eq_true rfl) (Nat.le_of_ble_eq_true rfl) (by omega) (Tf138 (by omega) i1 (0 : Int32) (4 : Int32) I _ hxr3_1) qX_thr
  clear h
  subst her3_1
  have h := h2
  clear h2
  refine gg_cs (as := [.int i1, .int (0 : Int32), .int (4 : Int32)]) (r := []) aMi134 rfl rfl rfl aMi138 rfl (Nat.le_of_ble_eq_true rfl) (Nat.le_of_ble_eq_true rfl) (by omega) (Tf138 (by omega) i1 (0 : Int32) (4 : Int32) I _ hxr3_1) ?_
  show aGo kad d 134 (6, ([(0, .ref a0), (1, .int i1), (2, .int i2), (3, .int i3), (4, .int i4), (5, .int i5)], [])) (aMem Z Ir3_1, t) _
  refine go_ops aMi134 2 _ (f1 := (8, ([(0, .ref a0), (1, .int i1), (2, .int i2), (3, .int i3), (4, .int i4), (5, .int i5)], [.int i3, .int i2]))) rfl ?_
  obtain ⟨r8_2, hxr8_2, h⟩ := Option.bind_eq_some_iff.mp h
  rcases xB_eq h with ⟨vr8_2, Ir8_2, her8_2, h2⟩ | ⟨Er8_2, Ir8_2, her8_2, h2⟩
  rotate_left
  · clear h
    subst her8_2
    subst h2
    exact gg_cst (as := [.int i2, .int i3]) (r := []) aMi134 rfl rfl rfl aMi139 rfl (Nat.le_of_ble_eq_true rfl) (Nat.le_of_ble_eq_true rfl) (by omega) (Tf139 (by omega) i2 i3 Ir3_1 _ hxr8_2) qX_thr
  clear h
  subst her8_2
  have h := h2
  clear h2
  refine gg_cs (as := [.int i2, .int i3]) (r := []) aMi134 rfl rfl rfl aMi139 rfl (Nat.le_of_ble_eq_true rfl) (Nat.le_of_ble_eq_true rfl) (by omega) (Tf139 (by omega) i2 i3 Ir3_1 _ hxr8_2) ?_
  show aGo kad d 134 (11, ([(0, .ref a0), (1, .int i1), (2, .int i2), (3, .int i3), (4, .int i4), (5, .int i5)], [])) (aMem Z Ir8_2, t) _
  refine go_ops aMi134 2 _ (f1 := (15, ([(0, .ref a0), (1, .int i1), (2, .int i2), (3, .int i3), (4, .int i4), (5, .int i5)], [.int i5, .int i4]))) rfl ?_
  obtain ⟨r15_3, hxr15_3, h⟩ := Option.bind_eq_some_iff.mp h
  rcases xB_eq h with ⟨vr15_3, Ir15_3, her15_3, h2⟩ | ⟨Er15_3, Ir15_3, her15_3, h2⟩
  rotate_left
  · clear h
    subst her15_3
    subst h2
    exact gg_cst (as := [.int i4, .int i5]) (r := []) aMi134 rfl rfl rfl aMi139 rfl (Nat.le_of_ble_eq_true rfl) (Nat.le_of_ble_eq_true rfl) (by omega) (Tf139 (by omega) i4 i5 Ir8_2 _ hxr15_3) qX_thr
  clear h
  subst her15_3
  have h := h2
  clear h2
  refine gg_cs (as := [.int i4, .int i5]) (r := []) aMi134 rfl rfl rfl aMi139 rfl (Nat.le_of_ble_eq_true rfl) (Nat.le_of_ble_eq_true rfl) (by omega) (Tf139 (by omega) i4 i5 Ir8_2 _ hxr15_3) ?_
  show aGo kad d 134 (18, ([(0, .ref a0), (1, .int i1), (2, .int i2), (3, .int i3), (4, .int i4), (5, .int i5)], [])) (aMem Z Ir15_3, t) _
  refine go_ops aMi134 1 _ (f1 := (19, ([(0, .ref a0), (1, .int i1), (2, .int i2), (3, .int i3), (4, .int i4), (5, .int i5)], [.ref a0]))) rfl ?_
  refine gg_gs aMi134 rfl rfl ?_
  refine go_ops aMi134 3 _ (f1 := (25, ([(0, .ref a0), (1, .int i1), (2, .int i2), (3, .int i3), (4, .int i4), (5, .int i5)], [.int i3, .int i2, .int i1, .ref (kad 8), .ref a0]))) rfl ?_
  obtain ⟨r25_4, hxr25_4, h⟩ := Option.bind_eq_some_iff.mp h
  rcases xB_eq h with ⟨vr25_4, Ir25_4, her25_4, h2⟩ | ⟨Er25_4, Ir25_4, her25_4, h2⟩
  rotate_left
  · clear h
    subst her25_4
    subst h2
    exact gg_cvt (as := [.ref (kad 8), .int i1, .int i2, .int i3]) (r := []) aMi134 rfl rfl rfl aMi142 (Nat.le_of_ble_eq_true rfl) rfl (Nat.le_of_ble_eq_true rfl) (Nat.le_of_ble_eq_true rfl) (by omega) (isK_of (sh10_z ha0)) (Tf142 (by omega) a0 ha0 (kad 8) i1 i2 i3 Ir15_3 _ hxr25_4) qX_thr
  clear h
  subst her25_4
  have h := h2
  clear h2
  refine gg_cv (as := [.ref (kad 8), .int i1, .int i2, .int i3]) (r := []) aMi134 rfl rfl rfl aMi142 (Nat.le_of_ble_eq_true rfl) rfl (Nat.le_of_ble_eq_true rfl) (Nat.le_of_ble_eq_true rfl) (by omega) (isK_of (sh10_z ha0)) (Tf142 (by omega) a0 ha0 (kad 8) i1 i2 i3 Ir15_3 _ hxr25_4) ?_
  show aGo kad d 134 (28, ([(0, .ref a0), (1, .int i1), (2, .int i2), (3, .int i3), (4, .int i4), (5, .int i5)], [.int vr25_4])) (aMem Z Ir25_4, t) _
  refine go_ops aMi134 2 _ (f1 := (31, ([(6, .int vr25_4), (0, .ref a0), (1, .int i1), (2, .int i2), (3, .int i3), (4, .int i4), (5, .int i5)], [.ref a0]))) rfl ?_
  refine gg_gR (b := (a0 + 1)) aMi134 rfl rfl rfl (gR_of (sh10_z ha0) (sh10_r0 ha0)) ?_
  refine go_ops aMi134 2 _ (f1 := (38, ([(6, .int vr25_4), (0, .ref a0), (1, .int i1), (2, .int i2), (3, .int i3), (4, .int i4), (5, .int i5)], [.int i5, .int i4, .ref (a0 + 1)]))) rfl ?_
  obtain ⟨r38_5, hxr38_5, h⟩ := Option.bind_eq_some_iff.mp h
  refine gg_cv (as := [.int i4, .int i5]) (r := []) aMi134 rfl rfl rfl aMi3 (Nat.le_of_ble_eq_true rfl) rfl (Nat.le_of_ble_eq_true rfl) (Nat.le_of_ble_eq_true rfl) (by omega) (isK_of (sh0_z (sh10_s0 ha0))) (Tf3 (by omega) (a0 + 1) (sh10_s0 ha0) i4 i5 Ir25_4 _ hxr38_5) ?_
  show aGo kad d 134 (41, ([(6, .int vr25_4), (0, .ref a0), (1, .int i1), (2, .int i2), (3, .int i3), (4, .int i4), (5, .int i5)], [])) (aMem Z r38_5.2, t) _
  refine go_ops aMi134 1 _ (f1 := (43, ([(6, .int vr25_4), (0, .ref a0), (1, .int i1), (2, .int i2), (3, .int i3), (4, .int i4), (5, .int i5)], [.int vr25_4]))) rfl ?_
  cases h
  exact go_ret aMi134 rfl aRetI qX_ret
-- KernelGym.error ()I
def f135 (kad : Nat → Nat) (N : Nat) (Z : AZ) (a0 : Nat) (I : AI) : Option (Int32 × AI) :=
  (f5 kad N Z (a0 + 1) I).bind fun r4_1 =>
  some (r4_1.1, r4_1.2)
set_option maxRecDepth 20000 in
theorem Tf135 {kad : Nat → Nat} {N : Nat} {Z : AZ} {d : Nat} {t : Option Nat × (Nat × Nat)} (hd : 20 ≤ d) : ∀ (a0 : Nat) (ha0 : sh10 kad Z a0) (I : AI) (r : Int32 × AI), f135 kad N Z a0 I = some r → aGo kad d 135 (0, ([(0, .ref a0)], [])) (aMem Z I, t) (qI Z t r) := by
  intro a0 ha0 I r h
  unfold f135 at h
  refine go_ops aMi135 1 _ (f1 := (1, ([(0, .ref a0)], [.ref a0]))) rfl ?_
  refine gg_gR (b := (a0 + 1)) aMi135 rfl rfl rfl (gR_of (sh10_z ha0) (sh10_r0 ha0)) ?_
  obtain ⟨r4_1, hxr4_1, h⟩ := Option.bind_eq_some_iff.mp h
  refine gg_cv (as := []) (r := []) aMi135 rfl rfl rfl aMi5 (Nat.le_of_ble_eq_true rfl) rfl (Nat.le_of_ble_eq_true rfl) (Nat.le_of_ble_eq_true rfl) (by omega) (isK_of (sh0_z (sh10_s0 ha0))) (Tf5 (by omega) (a0 + 1) (sh10_s0 ha0) I _ hxr4_1) ?_
  show aGo kad d 135 (7, ([(0, .ref a0)], [.int r4_1.1])) (aMem Z r4_1.2, t) _
  cases h
  exact go_ret aMi135 rfl aRetI ⟨rfl, rfl⟩
-- KernelGym.assemble ()I
def f136 (kad : Nat → Nat) (N : Nat) (Z : AZ) (a0 : Nat) (I : AI) : Option ((Int32 ⊕ String) × AI) :=
  (f5 kad N Z (a0 + 1) I).bind fun r4_1 =>
  if r4_1.1 = 0 then
    (cA r4_1.2 (a0 + 2) 256 (0 : Int32) (a0 + 113) 256 (0 : Int32) (256 : Int32)).bind fun I36_2 =>
    (wI I36_2 a0 2 (1 : Int32)).bind fun I41_3 =>
    (f4 kad N Z (a0 + 1) I41_3).bind fun r48_4 =>
    some (.inl r48_4.1, r48_4.2)
  else
    some (.inr (aEC 1), r4_1.2)
set_option maxRecDepth 20000 in
theorem Tf136 {kad : Nat → Nat} {N : Nat} {Z : AZ} {d : Nat} {t : Option Nat × (Nat × Nat)} (hd : 20 ≤ d) : ∀ (a0 : Nat) (ha0 : sh10 kad Z a0) (I : AI) (r : (Int32 ⊕ String) × AI), f136 kad N Z a0 I = some r → aGo kad d 136 (0, ([(0, .ref a0)], [])) (aMem Z I, t) (qX tvI Z t r) := by
  intro a0 ha0 I r h
  unfold f136 at h
  refine go_ops aMi136 1 _ (f1 := (1, ([(0, .ref a0)], [.ref a0]))) rfl ?_
  refine gg_gR (b := (a0 + 1)) aMi136 rfl rfl rfl (gR_of (sh10_z ha0) (sh10_r0 ha0)) ?_
  obtain ⟨r4_1, hxr4_1, h⟩ := Option.bind_eq_some_iff.mp h
  refine gg_cv (as := []) (r := []) aMi136 rfl rfl rfl aMi5 (Nat.le_of_ble_eq_true rfl) rfl (Nat.le_of_ble_eq_true rfl) (Nat.le_of_ble_eq_true rfl) (by omega) (isK_of (sh0_z (sh10_s0 ha0))) (Tf5 (by omega) (a0 + 1) (sh10_s0 ha0) I _ hxr4_1) ?_
  show aGo kad d 136 (7, ([(0, .ref a0)], [.int r4_1.1])) (aMem Z r4_1.2, t) _
  refine gg_br (b := decide (r4_1.1 = 0)) (tg := 20) (off := 13) aMi136 rfl rfl rfl rfl (fun hb => ?_) (fun hb => ?_)
  · rw [if_pos (of_decide_eq_true hb)] at h
    refine go_ops aMi136 1 _ (f1 := (21, ([(0, .ref a0)], [.ref a0]))) rfl ?_
    refine gg_gR (b := (a0 + 1)) aMi136 rfl rfl rfl (gR_of (sh10_z ha0) (sh10_r0 ha0)) ?_
    refine gg_gR (b := (a0 + 2)) aMi136 rfl rfl rfl (gR_of (sh0_z (sh10_s0 ha0)) (sh0_r1 (sh10_s0 ha0))) ?_
    refine go_ops aMi136 2 _ (f1 := (29, ([(0, .ref a0)], [.ref a0, .int (0 : Int32), .ref (a0 + 2)]))) rfl ?_
    refine gg_gR (b := (a0 + 113)) aMi136 rfl rfl rfl (gR_of (sh10_z ha0) (sh10_r1 ha0)) ?_
    refine go_ops aMi136 2 _ (f1 := (36, ([(0, .ref a0)], [.int (256 : Int32), .int (0 : Int32), .ref (a0 + 113), .int (0 : Int32), .ref (a0 + 2)]))) rfl ?_
    obtain ⟨I36_2, hxI36_2, h⟩ := Option.bind_eq_some_iff.mp h
    refine gg_cp aMi136 rfl rfl (Nat.le_of_ble_eq_true rfl) (cI_of (sh0_a1 (sh10_s0 ha0)) (sh10_a1 ha0) hxI36_2) ?_
    refine go_ops aMi136 2 _ (f1 := (41, ([(0, .ref a0)], [.int (1 : Int32), .ref a0]))) rfl ?_
    obtain ⟨I41_3, hxI41_3, h⟩ := Option.bind_eq_some_iff.mp h
    refine gg_pB aMi136 rfl rfl rfl rfl (by decide) (pB_lit (sh10_z ha0) (Or.inr rfl) hxI41_3) ?_
    refine go_ops aMi136 1 _ (f1 := (45, ([(0, .ref a0)], [.ref a0]))) rfl ?_
    refine gg_gR (b := (a0 + 1)) aMi136 rfl rfl rfl (gR_of (sh10_z ha0) (sh10_r0 ha0)) ?_
    obtain ⟨r48_4, hxr48_4, h⟩ := Option.bind_eq_some_iff.mp h
    refine gg_cv (as := []) (r := []) aMi136 rfl rfl rfl aMi4 (Nat.le_of_ble_eq_true rfl) rfl (Nat.le_of_ble_eq_true rfl) (Nat.le_of_ble_eq_true rfl) (by omega) (isK_of (sh0_z (sh10_s0 ha0))) (Tf4 (by omega) (a0 + 1) (sh10_s0 ha0) I41_3 _ hxr48_4) ?_
    show aGo kad d 136 (51, ([(0, .ref a0)], [.int r48_4.1])) (aMem Z r48_4.2, t) _
    cases h
    exact go_ret aMi136 rfl aRetI qX_ret
  · rw [if_neg (of_decide_eq_false hb)] at h
    cases h
    exact go_thr (E := aEC 1) aMi136 rfl rfl rfl rfl rfl rfl qX_thr
-- KernelGym.requireAssembled ()V
def f140 (kad : Nat → Nat) (N : Nat) (Z : AZ) (a0 : Nat) (I : AI) : Option ((Unit ⊕ String) × AI) :=
  if ¬ (I a0 2) = 0 then
    some (.inl (), I)
  else
    some (.inr (aEC 1), I)
set_option maxRecDepth 20000 in
theorem Tf140 {kad : Nat → Nat} {N : Nat} {Z : AZ} {d : Nat} {t : Option Nat × (Nat × Nat)} (hd : 0 ≤ d) : ∀ (a0 : Nat) (ha0 : sh10 kad Z a0) (I : AI) (r : (Unit ⊕ String) × AI), f140 kad N Z a0 I = some r → aGo kad d 140 (0, ([(0, .ref a0)], [])) (aMem Z I, t) (qX tvV Z t r) := by
  intro a0 ha0 I r h
  unfold f140 at h
  refine go_ops aMi140 1 _ (f1 := (1, ([(0, .ref a0)], [.ref a0]))) rfl ?_
  refine gg_gI aMi140 rfl rfl rfl (gI_of (sh10_z ha0)) ?_
  refine gg_br (b := decide (¬ (I a0 2) = 0)) (tg := 17) (off := 13) aMi140 rfl rfl rfl rfl (fun hb => ?_) (fun hb => ?_)
  · rw [if_pos (of_decide_eq_true hb)] at h
    cases h
    exact go_ret aMi140 rfl rfl qX_ret
  · rw [if_neg (of_decide_eq_false hb)] at h
    cases h
    exact go_thr (E := aEC 1) aMi140 rfl rfl rfl rfl rfl rfl qX_thr
-- KernelGym.image (I)I
def f137 (kad : Nat → Nat) (N : Nat) (Z : AZ) (a0 : Nat) (i1 : Int32) (I : AI) : Option ((Int32 ⊕ String) × AI) :=
  (f138 kad N Z i1 (0 : Int32) (255 : Int32) I).bind fun r5_1 =>
  xB r5_1 fun vr5_1 Ir5_1 =>
  (f140 kad N Z a0 Ir5_1).bind fun r9_2 =>
  xB r9_2 fun vr9_2 Ir9_2 =>
  (ixA 256 i1).bind fun j17_3 =>
  some (.inl (Ir9_2 (a0 + 113) j17_3), Ir9_2)
set_option maxRecDepth 20000 in
theorem Tf137 {kad : Nat → Nat} {N : Nat} {Z : AZ} {d : Nat} {t : Option Nat × (Nat × Nat)} (hd : 1 ≤ d) : ∀ (a0 : Nat) (ha0 : sh10 kad Z a0) (i1 : Int32) (I : AI) (r : (Int32 ⊕ String) × AI), f137 kad N Z a0 i1 I = some r → aGo kad d 137 (0, ([(0, .ref a0), (1, .int i1)], [])) (aMem Z I, t) (qX tvI Z t r) := by
  intro a0 ha0 i1 I r h
  unfold f137 at h
  refine go_ops aMi137 3 _ (f1 := (5, ([(0, .ref a0), (1, .int i1)], [.int (255 : Int32), .int (0 : Int32), .int i1]))) rfl ?_
  obtain ⟨r5_1, hxr5_1, h⟩ := Option.bind_eq_some_iff.mp h
  rcases xB_eq h with ⟨vr5_1, Ir5_1, her5_1, h2⟩ | ⟨Er5_1, Ir5_1, her5_1, h2⟩
  rotate_left
  · clear h
    subst her5_1
    subst h2
    exact gg_cst (as := [.int i1, .int (0 : Int32), .int (255 : Int32)]) (r := []) aMi137 rfl rfl rfl aMi138 rfl (Nat.le_of_ble_eq_true rfl) (Nat.le_of_ble_eq_true rfl) (by omega) (Tf138 (by omega) i1 (0 : Int32) (255 : Int32) I _ hxr5_1) qX_thr
  clear h
  subst her5_1
  have h := h2
  clear h2
  refine gg_cs (as := [.int i1, .int (0 : Int32), .int (255 : Int32)]) (r := []) aMi137 rfl rfl rfl aMi138 rfl (Nat.le_of_ble_eq_true rfl) (Nat.le_of_ble_eq_true rfl) (by omega) (Tf138 (by omega) i1 (0 : Int32) (255 : Int32) I _ hxr5_1) ?_
  show aGo kad d 137 (8, ([(0, .ref a0), (1, .int i1)], [])) (aMem Z Ir5_1, t) _
  refine go_ops aMi137 1 _ (f1 := (9, ([(0, .ref a0), (1, .int i1)], [.ref a0]))) rfl ?_
  obtain ⟨r9_2, hxr9_2, h⟩ := Option.bind_eq_some_iff.mp h
  rcases xB_eq h with ⟨vr9_2, Ir9_2, her9_2, h2⟩ | ⟨Er9_2, Ir9_2, her9_2, h2⟩
  rotate_left
  · clear h
    subst her9_2
    subst h2
    exact gg_cvt (as := []) (r := []) aMi137 rfl rfl rfl aMi140 (Nat.le_of_ble_eq_true rfl) rfl (Nat.le_of_ble_eq_true rfl) (Nat.le_of_ble_eq_true rfl) (by omega) (isK_of (sh10_z ha0)) (Tf140 (by omega) a0 ha0 Ir5_1 _ hxr9_2) qX_thr
  clear h
  subst her9_2
  have h := h2
  clear h2
  refine gg_cv (as := []) (r := []) aMi137 rfl rfl rfl aMi140 (Nat.le_of_ble_eq_true rfl) rfl (Nat.le_of_ble_eq_true rfl) (Nat.le_of_ble_eq_true rfl) (by omega) (isK_of (sh10_z ha0)) (Tf140 (by omega) a0 ha0 Ir5_1 _ hxr9_2) ?_
  show aGo kad d 137 (12, ([(0, .ref a0), (1, .int i1)], [])) (aMem Z Ir9_2, t) _
  refine go_ops aMi137 1 _ (f1 := (13, ([(0, .ref a0), (1, .int i1)], [.ref a0]))) rfl ?_
  refine gg_gR (b := (a0 + 113)) aMi137 rfl rfl rfl (gR_of (sh10_z ha0) (sh10_r1 ha0)) ?_
  refine go_ops aMi137 1 _ (f1 := (17, ([(0, .ref a0), (1, .int i1)], [.int i1, .ref (a0 + 113)]))) rfl ?_
  obtain ⟨j17_3, hxj17_3, h⟩ := Option.bind_eq_some_iff.mp h
  refine gg_lI (Or.inl ⟨rfl, rfl⟩) aMi137 rfl (lI_of (sh10_a1 ha0) hxj17_3) ?_
  cases h
  exact go_ret aMi137 rfl aRetI qX_ret
-- KernelGym.start ()I
def f143 (kad : Nat → Nat) (N : Nat) (Z : AZ) (a0 : Nat) (I : AI) : Option ((Int32 ⊕ String) × AI) :=
  if (I (a0 + 115) 0) = 0 then
    (f140 kad N Z a0 I).bind fun r24_1 =>
    xB r24_1 fun vr24_1 Ir24_1 =>
    (f72 kad N Z (a0 + 124) Ir24_1).bind fun r34_2 =>
    (f80 kad N Z (a0 + 114) (a0 + 113) r34_2.2).bind fun r45_3 =>
    (cA r45_3.2 (a0 + 113) 256 (0 : Int32) (a0 + 141) 256 (0 : Int32) (256 : Int32)).bind fun I62_4 =>
    (cA I62_4 (a0 + 123) 256 (0 : Int32) (a0 + 142) 256 (0 : Int32) (256 : Int32)).bind fun I84_5 =>
    some (.inl r45_3.1, I84_5)
  else
    some (.inr (aEC 1), I)
set_option maxRecDepth 20000 in
theorem Tf143 {kad : Nat → Nat} {N : Nat} {Z : AZ} {d : Nat} {t : Option Nat × (Nat × Nat)} (hd : 4 ≤ d) : ∀ (a0 : Nat) (ha0 : sh10 kad Z a0) (I : AI) (r : (Int32 ⊕ String) × AI), f143 kad N Z a0 I = some r → aGo kad d 143 (0, ([(0, .ref a0)], [])) (aMem Z I, t) (qX tvI Z t r) := by
  intro a0 ha0 I r h
  unfold f143 at h
  refine go_ops aMi143 1 _ (f1 := (1, ([(0, .ref a0)], [.ref a0]))) rfl ?_
  refine gg_gR (b := (a0 + 114)) aMi143 rfl rfl rfl (gR_of (sh10_z ha0) (sh10_r3 ha0)) ?_
  refine gg_gR (b := (a0 + 115)) aMi143 rfl rfl rfl (gR_of (sh8_z (sh10_s3 ha0)) (sh8_r0 (sh10_s3 ha0))) ?_
  refine gg_gI aMi143 rfl rfl rfl (gI_of (sh2_z (sh8_s0 (sh10_s3 ha0)))) ?_
  refine gg_br (b := decide ((I (a0 + 115) 0) = 0)) (tg := 23) (off := 13) aMi143 rfl rfl rfl rfl (fun hb => ?_) (fun hb => ?_)
  · rw [if_pos (of_decide_eq_true hb)] at h
    refine go_ops aMi143 1 _ (f1 := (24, ([(0, .ref a0)], [.ref a0]))) rfl ?_
    obtain ⟨r24_1, hxr24_1, h⟩ := Option.bind_eq_some_iff.mp h
    rcases xB_eq h with ⟨vr24_1, Ir24_1, her24_1, h2⟩ | ⟨Er24_1, Ir24_1, her24_1, h2⟩
    rotate_left
    · clear h
      subst her24_1
      subst h2
      exact gg_cvt (as := []) (r := []) aMi143 rfl rfl rfl aMi140 (Nat.le_of_ble_eq_true rfl) rfl (Nat.le_of_ble_eq_true rfl) (Nat.le_of_ble_eq_true rfl) (by omega) (isK_of (sh10_z ha0)) (Tf140 (by omega) a0 ha0 I _ hxr24_1) qX_thr
    clear h
    subst her24_1
    have h := h2
    clear h2
    refine gg_cv (as := []) (r := []) aMi143 rfl rfl rfl aMi140 (Nat.le_of_ble_eq_true rfl) rfl (Nat.le_of_ble_eq_true rfl) (Nat.le_of_ble_eq_true rfl) (by omega) (isK_of (sh10_z ha0)) (Tf140 (by omega) a0 ha0 I _ hxr24_1) ?_
    show aGo kad d 143 (27, ([(0, .ref a0)], [])) (aMem Z Ir24_1, t) _
    refine go_ops aMi143 1 _ (f1 := (28, ([(0, .ref a0)], [.ref a0]))) rfl ?_
    refine gg_gR (b := (a0 + 114)) aMi143 rfl rfl rfl (gR_of (sh10_z ha0) (sh10_r3 ha0)) ?_
    refine gg_gR (b := (a0 + 124)) aMi143 rfl rfl rfl (gR_of (sh8_z (sh10_s3 ha0)) (sh8_r4 (sh10_s3 ha0))) ?_
    obtain ⟨r34_2, hxr34_2, h⟩ := Option.bind_eq_some_iff.mp h
    refine gg_cv (as := []) (r := []) aMi143 rfl rfl rfl aMi72 (Nat.le_of_ble_eq_true rfl) rfl (Nat.le_of_ble_eq_true rfl) (Nat.le_of_ble_eq_true rfl) (by omega) (isK_of (sh6_z (sh8_s4 (sh10_s3 ha0)))) (Tf72 (by omega) (a0 + 124) (sh8_s4 (sh10_s3 ha0)) Ir24_1 _ hxr34_2) ?_
    show aGo kad d 143 (37, ([(0, .ref a0)], [])) (aMem Z r34_2.2, t) _
    refine go_ops aMi143 1 _ (f1 := (38, ([(0, .ref a0)], [.ref a0]))) rfl ?_
    refine gg_gR (b := (a0 + 114)) aMi143 rfl rfl rfl (gR_of (sh10_z ha0) (sh10_r3 ha0)) ?_
    refine go_ops aMi143 1 _ (f1 := (42, ([(0, .ref a0)], [.ref a0, .ref (a0 + 114)]))) rfl ?_
    refine gg_gR (b := (a0 + 113)) aMi143 rfl rfl rfl (gR_of (sh10_z ha0) (sh10_r1 ha0)) ?_
    obtain ⟨r45_3, hxr45_3, h⟩ := Option.bind_eq_some_iff.mp h
    refine gg_cv (as := [.ref (a0 + 113)]) (r := []) aMi143 rfl rfl rfl aMi80 (Nat.le_of_ble_eq_true rfl) rfl (Nat.le_of_ble_eq_true rfl) (Nat.le_of_ble_eq_true rfl) (by omega) (isK_of (sh8_z (sh10_s3 ha0))) (Tf80 (by omega) (a0 + 114) (sh10_s3 ha0) (a0 + 113) r34_2.2 _ hxr45_3) ?_
    show aGo kad d 143 (48, ([(0, .ref a0)], [.int r45_3.1])) (aMem Z r45_3.2, t) _
    refine go_ops aMi143 2 _ (f1 := (50, ([(1, .int r45_3.1), (0, .ref a0)], [.ref a0]))) rfl ?_
    refine gg_gR (b := (a0 + 113)) aMi143 rfl rfl rfl (gR_of (sh10_z ha0) (sh10_r1 ha0)) ?_
    refine go_ops aMi143 2 _ (f1 := (55, ([(1, .int r45_3.1), (0, .ref a0)], [.ref a0, .int (0 : Int32), .ref (a0 + 113)]))) rfl ?_
    refine gg_gR (b := (a0 + 141)) aMi143 rfl rfl rfl (gR_of (sh10_z ha0) (sh10_r6 ha0)) ?_
    refine go_ops aMi143 2 _ (f1 := (62, ([(1, .int r45_3.1), (0, .ref a0)], [.int (256 : Int32), .int (0 : Int32), .ref (a0 + 141), .int (0 : Int32), .ref (a0 + 113)]))) rfl ?_
    obtain ⟨I62_4, hxI62_4, h⟩ := Option.bind_eq_some_iff.mp h
    refine gg_cp aMi143 rfl rfl (Nat.le_of_ble_eq_true rfl) (cI_of (sh10_a1 ha0) (sh10_a6 ha0) hxI62_4) ?_
    refine go_ops aMi143 1 _ (f1 := (66, ([(1, .int r45_3.1), (0, .ref a0)], [.ref a0]))) rfl ?_
    refine gg_gR (b := (a0 + 114)) aMi143 rfl rfl rfl (gR_of (sh10_z ha0) (sh10_r3 ha0)) ?_
    refine gg_gR (b := (a0 + 122)) aMi143 rfl rfl rfl (gR_of (sh8_z (sh10_s3 ha0)) (sh8_r3 (sh10_s3 ha0))) ?_
    refine gg_gR (b := (a0 + 123)) aMi143 rfl rfl rfl (gR_of (sh3_z (sh8_s3 (sh10_s3 ha0))) (sh3_r0 (sh8_s3 (sh10_s3 ha0)))) ?_
    refine go_ops aMi143 2 _ (f1 := (77, ([(1, .int r45_3.1), (0, .ref a0)], [.ref a0, .int (0 : Int32), .ref (a0 + 123)]))) rfl ?_
    refine gg_gR (b := (a0 + 142)) aMi143 rfl rfl rfl (gR_of (sh10_z ha0) (sh10_r7 ha0)) ?_
    refine go_ops aMi143 2 _ (f1 := (84, ([(1, .int r45_3.1), (0, .ref a0)], [.int (256 : Int32), .int (0 : Int32), .ref (a0 + 142), .int (0 : Int32), .ref (a0 + 123)]))) rfl ?_
    obtain ⟨I84_5, hxI84_5, h⟩ := Option.bind_eq_some_iff.mp h
    refine gg_cp aMi143 rfl rfl (Nat.le_of_ble_eq_true rfl) (cI_of (sh3_a0 (sh8_s3 (sh10_s3 ha0))) (sh10_a7 ha0) hxI84_5) ?_
    refine go_ops aMi143 1 _ (f1 := (88, ([(1, .int r45_3.1), (0, .ref a0)], [.int r45_3.1]))) rfl ?_
    cases h
    exact go_ret aMi143 rfl aRetI qX_ret
  · rw [if_neg (of_decide_eq_false hb)] at h
    cases h
    exact go_thr (E := aEC 1) aMi143 rfl rfl rfl rfl rfl rfl qX_thr
-- KernelGym.requireOn ()V
def f165 (kad : Nat → Nat) (N : Nat) (Z : AZ) (a0 : Nat) (I : AI) : Option ((Unit ⊕ String) × AI) :=
  if ¬ (I (a0 + 115) 0) = 0 then
    some (.inl (), I)
  else
    some (.inr (aEC 1), I)
set_option maxRecDepth 20000 in
theorem Tf165 {kad : Nat → Nat} {N : Nat} {Z : AZ} {d : Nat} {t : Option Nat × (Nat × Nat)} (hd : 0 ≤ d) : ∀ (a0 : Nat) (ha0 : sh10 kad Z a0) (I : AI) (r : (Unit ⊕ String) × AI), f165 kad N Z a0 I = some r → aGo kad d 165 (0, ([(0, .ref a0)], [])) (aMem Z I, t) (qX tvV Z t r) := by
  intro a0 ha0 I r h
  unfold f165 at h
  refine go_ops aMi165 1 _ (f1 := (1, ([(0, .ref a0)], [.ref a0]))) rfl ?_
  refine gg_gR (b := (a0 + 114)) aMi165 rfl rfl rfl (gR_of (sh10_z ha0) (sh10_r3 ha0)) ?_
  refine gg_gR (b := (a0 + 115)) aMi165 rfl rfl rfl (gR_of (sh8_z (sh10_s3 ha0)) (sh8_r0 (sh10_s3 ha0))) ?_
  refine gg_gI aMi165 rfl rfl rfl (gI_of (sh2_z (sh8_s0 (sh10_s3 ha0)))) ?_
  refine gg_br (b := decide (¬ (I (a0 + 115) 0) = 0)) (tg := 24) (off := 14) aMi165 rfl rfl rfl rfl (fun hb => ?_) (fun hb => ?_)
  · rw [if_pos (of_decide_eq_true hb)] at h
    cases h
    exact go_ret aMi165 rfl rfl qX_ret
  · rw [if_neg (of_decide_eq_false hb)] at h
    cases h
    exact go_thr (E := aEC 1) aMi165 rfl rfl rfl rfl rfl rfl qX_thr
-- KernelGym.crash ()I
def f144 (kad : Nat → Nat) (N : Nat) (Z : AZ) (a0 : Nat) (I : AI) : Option ((Int32 ⊕ String) × AI) :=
  (f165 kad N Z a0 I).bind fun r1_1 =>
  xB r1_1 fun vr1_1 Ir1_1 =>
  (wI Ir1_1 a0 5 (0 : Int32)).bind fun I17_2 =>
  (f81 kad N Z (a0 + 114) I17_2).bind fun r24_3 =>
  some (.inl (Ir1_1 (a0 + 115) 2), r24_3.2)
set_option maxRecDepth 20000 in
theorem Tf144 {kad : Nat → Nat} {N : Nat} {Z : AZ} {d : Nat} {t : Option Nat × (Nat × Nat)} (hd : 3 ≤ d) : ∀ (a0 : Nat) (ha0 : sh10 kad Z a0) (I : AI) (r : (Int32 ⊕ String) × AI), f144 kad N Z a0 I = some r → aGo kad d 144 (0, ([(0, .ref a0)], [])) (aMem Z I, t) (qX tvI Z t r) := by
  intro a0 ha0 I r h
  unfold f144 at h
  refine go_ops aMi144 1 _ (f1 := (1, ([(0, .ref a0)], [.ref a0]))) rfl ?_
  obtain ⟨r1_1, hxr1_1, h⟩ := Option.bind_eq_some_iff.mp h
  rcases xB_eq h with ⟨vr1_1, Ir1_1, her1_1, h2⟩ | ⟨Er1_1, Ir1_1, her1_1, h2⟩
  rotate_left
  · clear h
    subst her1_1
    subst h2
    exact gg_cvt (as := []) (r := []) aMi144 rfl rfl rfl aMi165 (Nat.le_of_ble_eq_true rfl) rfl (Nat.le_of_ble_eq_true rfl) (Nat.le_of_ble_eq_true rfl) (by omega) (isK_of (sh10_z ha0)) (Tf165 (by omega) a0 ha0 I _ hxr1_1) qX_thr
  clear h
  subst her1_1
  have h := h2
  clear h2
  refine gg_cv (as := []) (r := []) aMi144 rfl rfl rfl aMi165 (Nat.le_of_ble_eq_true rfl) rfl (Nat.le_of_ble_eq_true rfl) (Nat.le_of_ble_eq_true rfl) (by omega) (isK_of (sh10_z ha0)) (Tf165 (by omega) a0 ha0 I _ hxr1_1) ?_
  show aGo kad d 144 (4, ([(0, .ref a0)], [])) (aMem Z Ir1_1, t) _
  refine go_ops aMi144 1 _ (f1 := (5, ([(0, .ref a0)], [.ref a0]))) rfl ?_
  refine gg_gR (b := (a0 + 114)) aMi144 rfl rfl rfl (gR_of (sh10_z ha0) (sh10_r3 ha0)) ?_
  refine gg_gR (b := (a0 + 115)) aMi144 rfl rfl rfl (gR_of (sh8_z (sh10_s3 ha0)) (sh8_r0 (sh10_s3 ha0))) ?_
  refine gg_gI aMi144 rfl rfl rfl (gI_of (sh2_z (sh8_s0 (sh10_s3 ha0)))) ?_
  refine go_ops aMi144 3 _ (f1 := (17, ([(1, .int (Ir1_1 (a0 + 115) 2)), (0, .ref a0)], [.int (0 : Int32), .ref a0]))) rfl ?_
  obtain ⟨I17_2, hxI17_2, h⟩ := Option.bind_eq_some_iff.mp h
  refine gg_pI aMi144 rfl rfl rfl rfl (by decide) (pI_of (sh10_z ha0) hxI17_2) ?_
  refine go_ops aMi144 1 _ (f1 := (21, ([(1, .int (Ir1_1 (a0 + 115) 2)), (0, .ref a0)], [.ref a0]))) rfl ?_
  refine gg_gR (b := (a0 + 114)) aMi144 rfl rfl rfl (gR_of (sh10_z ha0) (sh10_r3 ha0)) ?_
  obtain ⟨r24_3, hxr24_3, h⟩ := Option.bind_eq_some_iff.mp h
  refine gg_cv (as := []) (r := []) aMi144 rfl rfl rfl aMi81 (Nat.le_of_ble_eq_true rfl) rfl (Nat.le_of_ble_eq_true rfl) (Nat.le_of_ble_eq_true rfl) (by omega) (isK_of (sh8_z (sh10_s3 ha0))) (Tf81 (by omega) (a0 + 114) (sh10_s3 ha0) I17_2 _ hxr24_3) ?_
  show aGo kad d 144 (27, ([(1, .int (Ir1_1 (a0 + 115) 2)), (0, .ref a0)], [])) (aMem Z r24_3.2, t) _
  refine go_ops aMi144 1 _ (f1 := (28, ([(1, .int (Ir1_1 (a0 + 115) 2)), (0, .ref a0)], [.int (Ir1_1 (a0 + 115) 2)]))) rfl ?_
  cases h
  exact go_ret aMi144 rfl aRetI qX_ret
-- KernelGym.format ()I
def f145 (kad : Nat → Nat) (N : Nat) (Z : AZ) (a0 : Nat) (I : AI) : Option ((Int32 ⊕ String) × AI) :=
  if (I (a0 + 115) 0) = 0 then
    (f52 kad N Z (a0 + 122) I).bind fun r30_1 =>
    (f42 kad N Z (a0 + 122) r30_1.2).bind fun r41_2 =>
    some (.inl r30_1.1, r41_2.2)
  else
    some (.inr (aEC 1), I)
set_option maxRecDepth 20000 in
theorem Tf145 {kad : Nat → Nat} {N : Nat} {Z : AZ} {d : Nat} {t : Option Nat × (Nat × Nat)} (hd : 3 ≤ d) : ∀ (a0 : Nat) (ha0 : sh10 kad Z a0) (I : AI) (r : (Int32 ⊕ String) × AI), f145 kad N Z a0 I = some r → aGo kad d 145 (0, ([(0, .ref a0)], [])) (aMem Z I, t) (qX tvI Z t r) := by
  intro a0 ha0 I r h
  unfold f145 at h
  refine go_ops aMi145 1 _ (f1 := (1, ([(0, .ref a0)], [.ref a0]))) rfl ?_
  refine gg_gR (b := (a0 + 114)) aMi145 rfl rfl rfl (gR_of (sh10_z ha0) (sh10_r3 ha0)) ?_
  refine gg_gR (b := (a0 + 115)) aMi145 rfl rfl rfl (gR_of (sh8_z (sh10_s3 ha0)) (sh8_r0 (sh10_s3 ha0))) ?_
  refine gg_gI aMi145 rfl rfl rfl (gI_of (sh2_z (sh8_s0 (sh10_s3 ha0)))) ?_
  refine gg_br (b := decide ((I (a0 + 115) 0) = 0)) (tg := 23) (off := 13) aMi145 rfl rfl rfl rfl (fun hb => ?_) (fun hb => ?_)
  · rw [if_pos (of_decide_eq_true hb)] at h
    refine go_ops aMi145 1 _ (f1 := (24, ([(0, .ref a0)], [.ref a0]))) rfl ?_
    refine gg_gR (b := (a0 + 114)) aMi145 rfl rfl rfl (gR_of (sh10_z ha0) (sh10_r3 ha0)) ?_
    refine gg_gR (b := (a0 + 122)) aMi145 rfl rfl rfl (gR_of (sh8_z (sh10_s3 ha0)) (sh8_r3 (sh10_s3 ha0))) ?_
    obtain ⟨r30_1, hxr30_1, h⟩ := Option.bind_eq_some_iff.mp h
    refine gg_cv (as := []) (r := []) aMi145 rfl rfl rfl aMi52 (Nat.le_of_ble_eq_true rfl) rfl (Nat.le_of_ble_eq_true rfl) (Nat.le_of_ble_eq_true rfl) (by omega) (isK_of (sh3_z (sh8_s3 (sh10_s3 ha0)))) (Tf52 (by omega) (a0 + 122) (sh8_s3 (sh10_s3 ha0)) I _ hxr30_1) ?_
    show aGo kad d 145 (33, ([(0, .ref a0)], [.int r30_1.1])) (aMem Z r30_1.2, t) _
    refine go_ops aMi145 2 _ (f1 := (35, ([(1, .int r30_1.1), (0, .ref a0)], [.ref a0]))) rfl ?_
    refine gg_gR (b := (a0 + 114)) aMi145 rfl rfl rfl (gR_of (sh10_z ha0) (sh10_r3 ha0)) ?_
    refine gg_gR (b := (a0 + 122)) aMi145 rfl rfl rfl (gR_of (sh8_z (sh10_s3 ha0)) (sh8_r3 (sh10_s3 ha0))) ?_
    obtain ⟨r41_2, hxr41_2, h⟩ := Option.bind_eq_some_iff.mp h
    refine gg_cv (as := []) (r := []) aMi145 rfl rfl rfl aMi42 (Nat.le_of_ble_eq_true rfl) rfl (Nat.le_of_ble_eq_true rfl) (Nat.le_of_ble_eq_true rfl) (by omega) (isK_of (sh3_z (sh8_s3 (sh10_s3 ha0)))) (Tf42 (by omega) (a0 + 122) (sh8_s3 (sh10_s3 ha0)) r30_1.2 _ hxr41_2) ?_
    show aGo kad d 145 (44, ([(1, .int r30_1.1), (0, .ref a0)], [])) (aMem Z r41_2.2, t) _
    refine go_ops aMi145 1 _ (f1 := (45, ([(1, .int r30_1.1), (0, .ref a0)], [.int r30_1.1]))) rfl ?_
    cases h
    exact go_ret aMi145 rfl aRetI qX_ret
  · rw [if_neg (of_decide_eq_false hb)] at h
    cases h
    exact go_thr (E := aEC 1) aMi145 rfl rfl rfl rfl rfl rfl qX_thr
-- java/lang/Math.floorMod (II)I
def f305_b18 (kad : Nat → Nat) (N : Nat) (Z : AZ) (i2 : Int32) (I : AI) : Option (Int32 × AI) :=
  some (i2, I)
set_option maxRecDepth 20000 in
theorem Tf305_b18 {kad : Nat → Nat} {N : Nat} {Z : AZ} {d : Nat} {t : Option Nat × (Nat × Nat)} (hd : 0 ≤ d) : ∀ (i2 : Int32) (I : AI) (r : Int32 × AI), f305_b18 kad N Z i2 I = some r → aGo kad d 305 (18, ([(2, .int i2)], [])) (aMem Z I, t) (qI Z t r) := by
  intro i2 I r h
  unfold f305_b18 at h
  refine go_ops aMi305 1 _ (f1 := (19, ([(2, .int i2)], [.int i2]))) rfl ?_
  cases h
  exact go_ret aMi305 rfl aRetI ⟨rfl, rfl⟩
def f305 (kad : Nat → Nat) (N : Nat) (Z : AZ) (i0 : Int32) (i1 : Int32) (I : AI) : Option (Int32 × AI) :=
  if i1 = 0 then none else
  if 0 ≤ (i0 ^^^ i1) then
    f305_b18 kad N Z (i0 - i0 / i1 * i1) I
  else
    if (i0 - i0 / i1 * i1) = 0 then
      f305_b18 kad N Z (i0 - i0 / i1 * i1) I
    else
      some (((i0 - i0 / i1 * i1) + i1), I)
set_option maxRecDepth 20000 in
theorem Tf305 {kad : Nat → Nat} {N : Nat} {Z : AZ} {d : Nat} {t : Option Nat × (Nat × Nat)} (hd : 0 ≤ d) : ∀ (i0 : Int32) (i1 : Int32) (I : AI) (r : Int32 × AI), f305 kad N Z i0 i1 I = some r → aGo kad d 305 (0, ([(0, .int i0), (1, .int i1)], [])) (aMem Z I, t) (qI Z t r) := by
  intro i0 i1 I r h
  unfold f305 at h
  refine go_ops aMi305 2 _ (f1 := (2, ([(0, .int i0), (1, .int i1)], [.int i1, .int i0]))) rfl ?_
  by_cases hz2 : i1 = 0
  · rw [if_pos hz2] at h
    cases h
  rw [if_neg hz2] at h
  refine go_op (f1 := (3, ([(0, .int i0), (1, .int i1)], [.int (i0 - i0 / i1 * i1)]))) aMi305 rfl rfl (by show (if i1 = 0 then none else some _) = some _; rw [if_neg hz2]) ?_
  refine go_ops aMi305 4 _ (f1 := (7, ([(2, .int (i0 - i0 / i1 * i1)), (0, .int i0), (1, .int i1)], [.int (i0 ^^^ i1)]))) rfl ?_
  refine gg_br (b := decide (0 ≤ (i0 ^^^ i1))) (tg := 18) (off := 11) aMi305 rfl rfl rfl rfl (fun hb => ?_) (fun hb => ?_)
  · rw [if_pos (of_decide_eq_true hb)] at h
    refine go_le (lv1 := [(2, .int (i0 - i0 / i1 * i1))]) (aLe_of (show (List.map (fun q => q.1) ([(2, .int (i0 - i0 / i1 * i1))] : ALv)).Nodup from (by show ([2] : List Nat).Nodup; decide)) (aSubL_cons rfl aSubL_nil)) ?_
    exact Tf305_b18 hd (i0 - i0 / i1 * i1) I _ h
  · rw [if_neg (of_decide_eq_false hb)] at h
    refine go_ops aMi305 1 _ (f1 := (11, ([(2, .int (i0 - i0 / i1 * i1)), (0, .int i0), (1, .int i1)], [.int (i0 - i0 / i1 * i1)]))) rfl ?_
    refine gg_br (b := decide ((i0 - i0 / i1 * i1) = 0)) (tg := 18) (off := 7) aMi305 rfl rfl rfl rfl (fun hb => ?_) (fun hb => ?_)
    · rw [if_pos (of_decide_eq_true hb)] at h
      refine go_le (lv1 := [(2, .int (i0 - i0 / i1 * i1))]) (aLe_of (show (List.map (fun q => q.1) ([(2, .int (i0 - i0 / i1 * i1))] : ALv)).Nodup from (by show ([2] : List Nat).Nodup; decide)) (aSubL_cons rfl aSubL_nil)) ?_
      exact Tf305_b18 hd (i0 - i0 / i1 * i1) I _ h
    · rw [if_neg (of_decide_eq_false hb)] at h
      refine go_ops aMi305 3 _ (f1 := (17, ([(2, .int (i0 - i0 / i1 * i1)), (0, .int i0), (1, .int i1)], [.int ((i0 - i0 / i1 * i1) + i1)]))) rfl ?_
      cases h
      exact go_ret aMi305 rfl aRetI ⟨rfl, rfl⟩
-- KernelGym.keptStep (I)LKernelGym$Kept;
def f167 (kad : Nat → Nat) (N : Nat) (Z : AZ) (a0 : Nat) (i1 : Int32) (I : AI) : Option (Nat × AI) :=
  (f305 kad N Z i1 (200 : Int32) I).bind fun r8_1 =>
  (ixA 200 r8_1.1).bind fun j11_2 =>
  some ((a0 + (182 + 9 * j11_2)), r8_1.2)
set_option maxRecDepth 20000 in
theorem Tf167 {kad : Nat → Nat} {N : Nat} {Z : AZ} {d : Nat} {t : Option Nat × (Nat × Nat)} (hd : 1 ≤ d) : ∀ (a0 : Nat) (ha0 : sh10 kad Z a0) (i1 : Int32) (I : AI) (r : Nat × AI), f167 kad N Z a0 i1 I = some r → aGo kad d 167 (0, ([(0, .ref a0), (1, .int i1)], [])) (aMem Z I, t) (qA Z t r) := by
  intro a0 ha0 i1 I r h
  unfold f167 at h
  refine go_ops aMi167 1 _ (f1 := (1, ([(0, .ref a0), (1, .int i1)], [.ref a0]))) rfl ?_
  refine gg_gR (b := (a0 + 140)) aMi167 rfl rfl rfl (gR_of (sh10_z ha0) (sh10_r4 ha0)) ?_
  refine go_ops aMi167 2 _ (f1 := (8, ([(0, .ref a0), (1, .int i1)], [.int (200 : Int32), .int i1, .ref (a0 + 140)]))) rfl ?_
  obtain ⟨r8_1, hxr8_1, h⟩ := Option.bind_eq_some_iff.mp h
  refine gg_cs (as := [.int i1, .int (200 : Int32)]) (r := [.ref (a0 + 140)]) aMi167 rfl rfl rfl aMi305 rfl (Nat.le_of_ble_eq_true rfl) (Nat.le_of_ble_eq_true rfl) (by omega) (Tf305 (by omega) i1 (200 : Int32) I _ hxr8_1) ?_
  show aGo kad d 167 (11, ([(0, .ref a0), (1, .int i1)], [.int r8_1.1, .ref (a0 + 140)])) (aMem Z r8_1.2, t) _
  obtain ⟨j11_2, hxj11_2, h⟩ := Option.bind_eq_some_iff.mp h
  refine gg_lR (b := (a0 + (182 + 9 * j11_2))) aMi167 rfl (lR_of (sh10_a4 ha0) (by decide) hxj11_2 (sh10_e4 ha0 j11_2 (ixA_lt hxj11_2))) ?_
  cases h
  exact go_ret aMi167 rfl rfl ⟨rfl, rfl⟩
theorem Rf167 {kad : Nat → Nat} {N : Nat} {Z : AZ} : ∀ (a0 : Nat) (ha0 : sh10 kad Z a0) (i1 : Int32) (I : AI) (r : Nat × AI), f167 kad N Z a0 i1 I = some r → sh5 kad Z r.1 := by
  intro a0 ha0 i1 I r h
  unfold f167 at h
  obtain ⟨r8_1, hxr8_1, h⟩ := Option.bind_eq_some_iff.mp h
  obtain ⟨j11_2, hxj11_2, h⟩ := Option.bind_eq_some_iff.mp h
  cases h
  exact (sh10_f4 ha0 j11_2 (ixA_lt hxj11_2))
-- KernelGym.makeSteps (II)I
def f166_b100 (kad : Nat → Nat) (N : Nat) (Z : AZ) (k5 : Nat → Int32 → Int32 → Int32 → Int32 → AI → Option (Int32 × AI)) (a0 : Nat) (i1 : Int32) (i2 : Int32) (i3 : Int32) (s0 : Int32) (I : AI) : Option (Int32 × AI) :=
  k5 a0 i1 i2 i3 s0 I
set_option maxRecDepth 20000 in
theorem Tf166_b100 {kad : Nat → Nat} {N : Nat} {Z : AZ} {d : Nat} {t : Option Nat × (Nat × Nat)} (hd : 10 ≤ d) (k5 : Nat → Int32 → Int32 → Int32 → Int32 → AI → Option (Int32 × AI))  (hk5 : ∀ (a0 : Nat) (ha0 : sh10 kad Z a0) (i1 : Int32) (i2 : Int32) (i3 : Int32) (i4 : Int32) (I : AI) (r : Int32 × AI), k5 a0 i1 i2 i3 i4 I = some r → aGo kad d 166 (5, ([(0, .ref a0), (1, .int i1), (2, .int i2), (3, .int i3), (4, .int i4)], [])) (aMem Z I, t) (qI Z t r)) : ∀ (a0 : Nat) (ha0 : sh10 kad Z a0) (i1 : Int32) (i2 : Int32) (i3 : Int32) (s0 : Int32) (I : AI) (r : Int32 × AI), f166_b100 kad N Z k5 a0 i1 i2 i3 s0 I = some r → aGo kad d 166 (100, ([(0, .ref a0), (1, .int i1), (2, .int i2), (3, .int i3)], [.int s0])) (aMem Z I, t) (qI Z t r) := by
  intro a0 ha0 i1 i2 i3 s0 I r h
  unfold f166_b100 at h
  refine go_ops aMi166 2 _ (f1 := (5, ([(4, .int s0), (0, .ref a0), (1, .int i1), (2, .int i2), (3, .int i3)], []))) rfl ?_
  refine go_le (lv1 := [(0, .ref a0), (1, .int i1), (2, .int i2), (3, .int i3), (4, .int s0)]) (aLe_of (show (List.map (fun q => q.1) ([(0, .ref a0), (1, .int i1), (2, .int i2), (3, .int i3), (4, .int s0)] : ALv)).Nodup from (by show ([0, 1, 2, 3, 4] : List Nat).Nodup; decide)) (aSubL_cons rfl (aSubL_cons rfl (aSubL_cons rfl (aSubL_cons rfl (aSubL_cons rfl aSubL_nil)))))) ?_
  exact hk5 a0 ha0 i1 i2 i3 s0 I _ h
def f166_b99 (kad : Nat → Nat) (N : Nat) (Z : AZ) (k5 : Nat → Int32 → Int32 → Int32 → Int32 → AI → Option (Int32 × AI)) (a0 : Nat) (i1 : Int32) (i2 : Int32) (i3 : Int32) (I : AI) : Option (Int32 × AI) :=
  f166_b100 kad N Z k5 a0 i1 i2 i3 (0 : Int32) I
set_option maxRecDepth 20000 in
theorem Tf166_b99 {kad : Nat → Nat} {N : Nat} {Z : AZ} {d : Nat} {t : Option Nat × (Nat × Nat)} (hd : 10 ≤ d) (k5 : Nat → Int32 → Int32 → Int32 → Int32 → AI → Option (Int32 × AI))  (hk5 : ∀ (a0 : Nat) (ha0 : sh10 kad Z a0) (i1 : Int32) (i2 : Int32) (i3 : Int32) (i4 : Int32) (I : AI) (r : Int32 × AI), k5 a0 i1 i2 i3 i4 I = some r → aGo kad d 166 (5, ([(0, .ref a0), (1, .int i1), (2, .int i2), (3, .int i3), (4, .int i4)], [])) (aMem Z I, t) (qI Z t r)) : ∀ (a0 : Nat) (ha0 : sh10 kad Z a0) (i1 : Int32) (i2 : Int32) (i3 : Int32) (I : AI) (r : Int32 × AI), f166_b99 kad N Z k5 a0 i1 i2 i3 I = some r → aGo kad d 166 (99, ([(0, .ref a0), (1, .int i1), (2, .int i2), (3, .int i3)], [])) (aMem Z I, t) (qI Z t r) := by
  intro a0 ha0 i1 i2 i3 I r h
  unfold f166_b99 at h
  refine go_ops aMi166 1 _ (f1 := (100, ([(0, .ref a0), (1, .int i1), (2, .int i2), (3, .int i3)], [.int (0 : Int32)]))) rfl ?_
  exact Tf166_b100 hd k5 hk5 a0 ha0 i1 i2 i3 (0 : Int32) I _ h
def f166_b105 (kad : Nat → Nat) (N : Nat) (Z : AZ) (a0 : Nat) (i3 : Int32) (I : AI) : Option (Int32 × AI) :=
  some (i3, I)
set_option maxRecDepth 20000 in
theorem Tf166_b105 {kad : Nat → Nat} {N : Nat} {Z : AZ} {d : Nat} {t : Option Nat × (Nat × Nat)} (hd : 10 ≤ d) : ∀ (a0 : Nat) (ha0 : sh10 kad Z a0) (i3 : Int32) (I : AI) (r : Int32 × AI), f166_b105 kad N Z a0 i3 I = some r → aGo kad d 166 (105, ([(3, .int i3)], [])) (aMem Z I, t) (qI Z t r) := by
  intro a0 ha0 i3 I r h
  unfold f166_b105 at h
  refine go_ops aMi166 1 _ (f1 := (106, ([(3, .int i3)], [.int i3]))) rfl ?_
  cases h
  exact go_ret aMi166 rfl aRetI ⟨rfl, rfl⟩
def f166_b5 (kad : Nat → Nat) (N : Nat) (Z : AZ) : Nat → Nat → Int32 → Int32 → Int32 → Int32 → AI → Option (Int32 × AI)
  | 0, _, _, _, _, _, _ => none
  | F + 1, a0, i1, i2, i3, i4, I =>
    if i1 ≤ i3 then
      f166_b105 kad N Z a0 i3 I
    else
      if ¬ i4 = 0 then
        f166_b105 kad N Z a0 i3 I
      else
        (f82 kad N Z (a0 + 114) I).bind fun r19_1 =>
        if r19_1.1 = 0 then
          f166_b105 kad N Z a0 i3 r19_1.2
        else
          (f167 kad N Z a0 ((r19_1.2) (a0 + 115) 2) r19_1.2).bind fun r40_2 =>
          (f83 kad N Z (a0 + 114) r40_2.1 r40_2.2).bind fun r43_3 =>
          (wI r43_3.2 a0 5 (if (200 : Int32) < (((r43_3.2) a0 5) + (1 : Int32)) then (200 : Int32) else (((r43_3.2) a0 5) + (1 : Int32)))).bind fun I59_4 =>
          if ¬ (I59_4 (a0 + 115) 3) = i2 then
            f166_b99 kad N Z (fun p0 p1 p2 p3 p4 I => f166_b5 kad N Z F p0 p1 p2 p3 p4 I) a0 i1 i2 (i3 + (1 : Int32)) I59_4
          else
            (f63 kad N Z (a0 + 117) I59_4).bind fun r89_5 =>
            if ¬ r89_5.1 = 0 then
              f166_b99 kad N Z (fun p0 p1 p2 p3 p4 I => f166_b5 kad N Z F p0 p1 p2 p3 p4 I) a0 i1 i2 (i3 + (1 : Int32)) r89_5.2
            else
              f166_b100 kad N Z (fun p0 p1 p2 p3 p4 I => f166_b5 kad N Z F p0 p1 p2 p3 p4 I) a0 i1 i2 (i3 + (1 : Int32)) (1 : Int32) r89_5.2
set_option maxRecDepth 20000 in
theorem Tf166_b5 {kad : Nat → Nat} {N : Nat} {Z : AZ} {d : Nat} {t : Option Nat × (Nat × Nat)} (hd : 10 ≤ d) : ∀ (F : Nat) (a0 : Nat) (ha0 : sh10 kad Z a0) (i1 : Int32) (i2 : Int32) (i3 : Int32) (i4 : Int32) (I : AI) (r : Int32 × AI), f166_b5 kad N Z F a0 i1 i2 i3 i4 I = some r → aGo kad d 166 (5, ([(0, .ref a0), (1, .int i1), (2, .int i2), (3, .int i3), (4, .int i4)], [])) (aMem Z I, t) (qI Z t r) := by
  intro F
  induction F with
  | zero => intro a0 ha0 i1 i2 i3 i4 I r h; cases h
  | succ F ih =>
    intro a0 ha0 i1 i2 i3 i4 I r h
    unfold f166_b5 at h
    refine go_ops aMi166 2 _ (f1 := (7, ([(0, .ref a0), (1, .int i1), (2, .int i2), (3, .int i3), (4, .int i4)], [.int i1, .int i3]))) rfl ?_
    refine gg_br (b := decide (i1 ≤ i3)) (tg := 105) (off := 98) aMi166 rfl rfl rfl rfl (fun hb => ?_) (fun hb => ?_)
    · rw [if_pos (of_decide_eq_true hb)] at h
      refine go_le (lv1 := [(3, .int i3)]) (aLe_of (show (List.map (fun q => q.1) ([(3, .int i3)] : ALv)).Nodup from (by show ([3] : List Nat).Nodup; decide)) (aSubL_cons rfl aSubL_nil)) ?_
      exact Tf166_b105 hd a0 ha0 i3 I _ h
    · rw [if_neg (of_decide_eq_false hb)] at h
      refine go_ops aMi166 1 _ (f1 := (12, ([(0, .ref a0), (1, .int i1), (2, .int i2), (3, .int i3), (4, .int i4)], [.int i4]))) rfl ?_
      refine gg_br (b := decide (¬ i4 = 0)) (tg := 105) (off := 93) aMi166 rfl rfl rfl rfl (fun hb => ?_) (fun hb => ?_)
      · rw [if_pos (of_decide_eq_true hb)] at h
        refine go_le (lv1 := [(3, .int i3)]) (aLe_of (show (List.map (fun q => q.1) ([(3, .int i3)] : ALv)).Nodup from (by show ([3] : List Nat).Nodup; decide)) (aSubL_cons rfl aSubL_nil)) ?_
        exact Tf166_b105 hd a0 ha0 i3 I _ h
      · rw [if_neg (of_decide_eq_false hb)] at h
        refine go_ops aMi166 1 _ (f1 := (16, ([(0, .ref a0), (1, .int i1), (2, .int i2), (3, .int i3), (4, .int i4)], [.ref a0]))) rfl ?_
        refine gg_gR (b := (a0 + 114)) aMi166 rfl rfl rfl (gR_of (sh10_z ha0) (sh10_r3 ha0)) ?_
        obtain ⟨r19_1, hxr19_1, h⟩ := Option.bind_eq_some_iff.mp h
        refine gg_cv (as := []) (r := []) aMi166 rfl rfl rfl aMi82 (Nat.le_of_ble_eq_true rfl) rfl (Nat.le_of_ble_eq_true rfl) (Nat.le_of_ble_eq_true rfl) (by omega) (isK_of (sh8_z (sh10_s3 ha0))) (Tf82 (by omega) (a0 + 114) (sh10_s3 ha0) I _ hxr19_1) ?_
        show aGo kad d 166 (22, ([(0, .ref a0), (1, .int i1), (2, .int i2), (3, .int i3), (4, .int i4)], [.int r19_1.1])) (aMem Z r19_1.2, t) _
        refine gg_br (b := decide (r19_1.1 = 0)) (tg := 105) (off := 83) aMi166 rfl rfl rfl rfl (fun hb => ?_) (fun hb => ?_)
        · rw [if_pos (of_decide_eq_true hb)] at h
          refine go_le (lv1 := [(3, .int i3)]) (aLe_of (show (List.map (fun q => q.1) ([(3, .int i3)] : ALv)).Nodup from (by show ([3] : List Nat).Nodup; decide)) (aSubL_cons rfl aSubL_nil)) ?_
          exact Tf166_b105 hd a0 ha0 i3 r19_1.2 _ h
        · rw [if_neg (of_decide_eq_false hb)] at h
          refine go_ops aMi166 1 _ (f1 := (26, ([(0, .ref a0), (1, .int i1), (2, .int i2), (3, .int i3), (4, .int i4)], [.ref a0]))) rfl ?_
          refine gg_gR (b := (a0 + 114)) aMi166 rfl rfl rfl (gR_of (sh10_z ha0) (sh10_r3 ha0)) ?_
          refine go_ops aMi166 2 _ (f1 := (31, ([(0, .ref a0), (1, .int i1), (2, .int i2), (3, .int i3), (4, .int i4)], [.ref a0, .ref a0, .ref (a0 + 114)]))) rfl ?_
          refine gg_gR (b := (a0 + 114)) aMi166 rfl rfl rfl (gR_of (sh10_z ha0) (sh10_r3 ha0)) ?_
          refine gg_gR (b := (a0 + 115)) aMi166 rfl rfl rfl (gR_of (sh8_z (sh10_s3 ha0)) (sh8_r0 (sh10_s3 ha0))) ?_
          refine gg_gI aMi166 rfl rfl rfl (gI_of (sh2_z (sh8_s0 (sh10_s3 ha0)))) ?_
          obtain ⟨r40_2, hxr40_2, h⟩ := Option.bind_eq_some_iff.mp h
          refine gg_cv (as := [.int ((r19_1.2) (a0 + 115) 2)]) (r := [.ref (a0 + 114)]) aMi166 rfl rfl rfl aMi167 (Nat.le_of_ble_eq_true rfl) rfl (Nat.le_of_ble_eq_true rfl) (Nat.le_of_ble_eq_true rfl) (by omega) (isK_of (sh10_z ha0)) (Tf167 (by omega) a0 ha0 ((r19_1.2) (a0 + 115) 2) r19_1.2 _ hxr40_2) ?_
          show aGo kad d 166 (43, ([(0, .ref a0), (1, .int i1), (2, .int i2), (3, .int i3), (4, .int i4)], [.ref r40_2.1, .ref (a0 + 114)])) (aMem Z r40_2.2, t) _
          obtain ⟨r43_3, hxr43_3, h⟩ := Option.bind_eq_some_iff.mp h
          refine gg_cv (as := [.ref r40_2.1]) (r := []) aMi166 rfl rfl rfl aMi83 (Nat.le_of_ble_eq_true rfl) rfl (Nat.le_of_ble_eq_true rfl) (Nat.le_of_ble_eq_true rfl) (by omega) (isK_of (sh8_z (sh10_s3 ha0))) (Tf83 (by omega) (a0 + 114) (sh10_s3 ha0) r40_2.1 (Rf167 a0 ha0 ((r19_1.2) (a0 + 115) 2) r19_1.2 _ hxr40_2) r40_2.2 _ hxr43_3) ?_
          show aGo kad d 166 (46, ([(0, .ref a0), (1, .int i1), (2, .int i2), (3, .int i3), (4, .int i4)], [])) (aMem Z r43_3.2, t) _
          refine go_ops aMi166 2 _ (f1 := (48, ([(0, .ref a0), (1, .int i1), (2, .int i2), (3, .int i3), (4, .int i4)], [.ref a0, .ref a0]))) rfl ?_
          refine gg_gI aMi166 rfl rfl rfl (gI_of (sh10_z ha0)) ?_
          refine go_ops aMi166 3 _ (f1 := (56, ([(0, .ref a0), (1, .int i1), (2, .int i2), (3, .int i3), (4, .int i4)], [.int (200 : Int32), .int (((r43_3.2) a0 5) + (1 : Int32)), .ref a0]))) rfl ?_
          refine gg_mn aMi166 rfl rfl (Nat.le_of_ble_eq_true rfl) ?_
          obtain ⟨I59_4, hxI59_4, h⟩ := Option.bind_eq_some_iff.mp h
          refine gg_pI aMi166 rfl rfl rfl rfl (by decide) (pI_of (sh10_z ha0) hxI59_4) ?_
          refine go_ops aMi166 2 _ (f1 := (66, ([(3, .int (i3 + (1 : Int32))), (0, .ref a0), (1, .int i1), (2, .int i2), (4, .int i4)], [.ref a0]))) rfl ?_
          refine gg_gR (b := (a0 + 114)) aMi166 rfl rfl rfl (gR_of (sh10_z ha0) (sh10_r3 ha0)) ?_
          refine gg_gR (b := (a0 + 115)) aMi166 rfl rfl rfl (gR_of (sh8_z (sh10_s3 ha0)) (sh8_r0 (sh10_s3 ha0))) ?_
          refine gg_gI aMi166 rfl rfl rfl (gI_of (sh2_z (sh8_s0 (sh10_s3 ha0)))) ?_
          refine go_ops aMi166 1 _ (f1 := (76, ([(3, .int (i3 + (1 : Int32))), (0, .ref a0), (1, .int i1), (2, .int i2), (4, .int i4)], [.int i2, .int (I59_4 (a0 + 115) 3)]))) rfl ?_
          refine gg_br (b := decide (¬ (I59_4 (a0 + 115) 3) = i2)) (tg := 99) (off := 23) aMi166 rfl rfl rfl rfl (fun hb => ?_) (fun hb => ?_)
          · rw [if_pos (of_decide_eq_true hb)] at h
            refine go_le (lv1 := [(0, .ref a0), (1, .int i1), (2, .int i2), (3, .int (i3 + (1 : Int32)))]) (aLe_of (show (List.map (fun q => q.1) ([(0, .ref a0), (1, .int i1), (2, .int i2), (3, .int (i3 + (1 : Int32)))] : ALv)).Nodup from (by show ([0, 1, 2, 3] : List Nat).Nodup; decide)) (aSubL_cons rfl (aSubL_cons rfl (aSubL_cons rfl (aSubL_cons rfl aSubL_nil))))) ?_
            exact Tf166_b99 hd (fun p0 p1 p2 p3 p4 I => f166_b5 kad N Z F p0 p1 p2 p3 p4 I) (fun p0 q0 p1 p2 p3 p4 I r hh => ih p0 q0 p1 p2 p3 p4 I r hh) a0 ha0 i1 i2 (i3 + (1 : Int32)) I59_4 _ h
          · rw [if_neg (of_decide_eq_false hb)] at h
            refine go_ops aMi166 1 _ (f1 := (80, ([(3, .int (i3 + (1 : Int32))), (0, .ref a0), (1, .int i1), (2, .int i2), (4, .int i4)], [.ref a0]))) rfl ?_
            refine gg_gR (b := (a0 + 114)) aMi166 rfl rfl rfl (gR_of (sh10_z ha0) (sh10_r3 ha0)) ?_
            refine gg_gR (b := (a0 + 115)) aMi166 rfl rfl rfl (gR_of (sh8_z (sh10_s3 ha0)) (sh8_r0 (sh10_s3 ha0))) ?_
            refine gg_gR (b := (a0 + 117)) aMi166 rfl rfl rfl (gR_of (sh2_z (sh8_s0 (sh10_s3 ha0))) (sh2_r15 (sh8_s0 (sh10_s3 ha0)))) ?_
            obtain ⟨r89_5, hxr89_5, h⟩ := Option.bind_eq_some_iff.mp h
            refine gg_cv (as := []) (r := []) aMi166 rfl rfl rfl aMi63 (Nat.le_of_ble_eq_true rfl) rfl (Nat.le_of_ble_eq_true rfl) (Nat.le_of_ble_eq_true rfl) (by omega) (isK_of (sh4_z (sh2_s15 (sh8_s0 (sh10_s3 ha0))))) (Tf63 (by omega) (a0 + 117) (sh2_s15 (sh8_s0 (sh10_s3 ha0))) I59_4 _ hxr89_5) ?_
            show aGo kad d 166 (92, ([(3, .int (i3 + (1 : Int32))), (0, .ref a0), (1, .int i1), (2, .int i2), (4, .int i4)], [.int r89_5.1])) (aMem Z r89_5.2, t) _
            refine gg_br (b := decide (¬ r89_5.1 = 0)) (tg := 99) (off := 7) aMi166 rfl rfl rfl rfl (fun hb => ?_) (fun hb => ?_)
            · rw [if_pos (of_decide_eq_true hb)] at h
              refine go_le (lv1 := [(0, .ref a0), (1, .int i1), (2, .int i2), (3, .int (i3 + (1 : Int32)))]) (aLe_of (show (List.map (fun q => q.1) ([(0, .ref a0), (1, .int i1), (2, .int i2), (3, .int (i3 + (1 : Int32)))] : ALv)).Nodup from (by show ([0, 1, 2, 3] : List Nat).Nodup; decide)) (aSubL_cons rfl (aSubL_cons rfl (aSubL_cons rfl (aSubL_cons rfl aSubL_nil))))) ?_
              exact Tf166_b99 hd (fun p0 p1 p2 p3 p4 I => f166_b5 kad N Z F p0 p1 p2 p3 p4 I) (fun p0 q0 p1 p2 p3 p4 I r hh => ih p0 q0 p1 p2 p3 p4 I r hh) a0 ha0 i1 i2 (i3 + (1 : Int32)) r89_5.2 _ h
            · rw [if_neg (of_decide_eq_false hb)] at h
              refine go_ops aMi166 2 _ (f1 := (100, ([(3, .int (i3 + (1 : Int32))), (0, .ref a0), (1, .int i1), (2, .int i2), (4, .int i4)], [.int (1 : Int32)]))) rfl ?_
              refine go_le (lv1 := [(0, .ref a0), (1, .int i1), (2, .int i2), (3, .int (i3 + (1 : Int32)))]) (aLe_of (show (List.map (fun q => q.1) ([(0, .ref a0), (1, .int i1), (2, .int i2), (3, .int (i3 + (1 : Int32)))] : ALv)).Nodup from (by show ([0, 1, 2, 3] : List Nat).Nodup; decide)) (aSubL_cons rfl (aSubL_cons rfl (aSubL_cons rfl (aSubL_cons rfl aSubL_nil))))) ?_
              exact Tf166_b100 hd (fun p0 p1 p2 p3 p4 I => f166_b5 kad N Z F p0 p1 p2 p3 p4 I) (fun p0 q0 p1 p2 p3 p4 I r hh => ih p0 q0 p1 p2 p3 p4 I r hh) a0 ha0 i1 i2 (i3 + (1 : Int32)) (1 : Int32) r89_5.2 _ h
def f166 (kad : Nat → Nat) (N : Nat) (Z : AZ) (a0 : Nat) (i1 : Int32) (i2 : Int32) (I : AI) : Option (Int32 × AI) :=
  f166_b5 kad N Z N a0 i1 i2 (0 : Int32) (0 : Int32) I
set_option maxRecDepth 20000 in
theorem Tf166 {kad : Nat → Nat} {N : Nat} {Z : AZ} {d : Nat} {t : Option Nat × (Nat × Nat)} (hd : 10 ≤ d) : ∀ (a0 : Nat) (ha0 : sh10 kad Z a0) (i1 : Int32) (i2 : Int32) (I : AI) (r : Int32 × AI), f166 kad N Z a0 i1 i2 I = some r → aGo kad d 166 (0, ([(0, .ref a0), (1, .int i1), (2, .int i2)], [])) (aMem Z I, t) (qI Z t r) := by
  intro a0 ha0 i1 i2 I r h
  unfold f166 at h
  refine go_ops aMi166 4 _ (f1 := (5, ([(4, .int (0 : Int32)), (3, .int (0 : Int32)), (0, .ref a0), (1, .int i1), (2, .int i2)], []))) rfl ?_
  refine go_le (lv1 := [(0, .ref a0), (1, .int i1), (2, .int i2), (3, .int (0 : Int32)), (4, .int (0 : Int32))]) (aLe_of (show (List.map (fun q => q.1) ([(0, .ref a0), (1, .int i1), (2, .int i2), (3, .int (0 : Int32)), (4, .int (0 : Int32))] : ALv)).Nodup from (by show ([0, 1, 2, 3, 4] : List Nat).Nodup; decide)) (aSubL_cons rfl (aSubL_cons rfl (aSubL_cons rfl (aSubL_cons rfl (aSubL_cons rfl aSubL_nil)))))) ?_
  exact Tf166_b5 hd N a0 ha0 i1 i2 (0 : Int32) (0 : Int32) I _ h
-- KernelGym.step (I)I
def f146 (kad : Nat → Nat) (N : Nat) (Z : AZ) (a0 : Nat) (i1 : Int32) (I : AI) : Option ((Int32 ⊕ String) × AI) :=
  (f138 kad N Z i1 (1 : Int32) (100 : Int32) I).bind fun r4_1 =>
  xB r4_1 fun vr4_1 Ir4_1 =>
  (f165 kad N Z a0 Ir4_1).bind fun r8_2 =>
  xB r8_2 fun vr8_2 Ir8_2 =>
  (f166 kad N Z a0 i1 (Int32.ofInt (-1)) Ir8_2).bind fun r14_3 =>
  some (.inl r14_3.1, r14_3.2)
set_option maxRecDepth 20000 in
theorem Tf146 {kad : Nat → Nat} {N : Nat} {Z : AZ} {d : Nat} {t : Option Nat × (Nat × Nat)} (hd : 11 ≤ d) : ∀ (a0 : Nat) (ha0 : sh10 kad Z a0) (i1 : Int32) (I : AI) (r : (Int32 ⊕ String) × AI), f146 kad N Z a0 i1 I = some r → aGo kad d 146 (0, ([(0, .ref a0), (1, .int i1)], [])) (aMem Z I, t) (qX tvI Z t r) := by
  intro a0 ha0 i1 I r h
  unfold f146 at h
  refine go_ops aMi146 3 _ (f1 := (4, ([(0, .ref a0), (1, .int i1)], [.int (100 : Int32), .int (1 : Int32), .int i1]))) rfl ?_
  obtain ⟨r4_1, hxr4_1, h⟩ := Option.bind_eq_some_iff.mp h
  rcases xB_eq h with ⟨vr4_1, Ir4_1, her4_1, h2⟩ | ⟨Er4_1, Ir4_1, her4_1, h2⟩
  rotate_left
  · clear h
    subst her4_1
    subst h2
    exact gg_cst (as := [.int i1, .int (1 : Int32), .int (100 : Int32)]) (r := []) aMi146 rfl rfl rfl aMi138 rfl (Nat.le_of_ble_eq_true rfl) (Nat.le_of_ble_eq_true rfl) (by omega) (Tf138 (by omega) i1 (1 : Int32) (100 : Int32) I _ hxr4_1) qX_thr
  clear h
  subst her4_1
  have h := h2
  clear h2
  refine gg_cs (as := [.int i1, .int (1 : Int32), .int (100 : Int32)]) (r := []) aMi146 rfl rfl rfl aMi138 rfl (Nat.le_of_ble_eq_true rfl) (Nat.le_of_ble_eq_true rfl) (by omega) (Tf138 (by omega) i1 (1 : Int32) (100 : Int32) I _ hxr4_1) ?_
  show aGo kad d 146 (7, ([(0, .ref a0), (1, .int i1)], [])) (aMem Z Ir4_1, t) _
  refine go_ops aMi146 1 _ (f1 := (8, ([(0, .ref a0), (1, .int i1)], [.ref a0]))) rfl ?_
  obtain ⟨r8_2, hxr8_2, h⟩ := Option.bind_eq_some_iff.mp h
  rcases xB_eq h with ⟨vr8_2, Ir8_2, her8_2, h2⟩ | ⟨Er8_2, Ir8_2, her8_2, h2⟩
  rotate_left
  · clear h
    subst her8_2
    subst h2
    exact gg_cvt (as := []) (r := []) aMi146 rfl rfl rfl aMi165 (Nat.le_of_ble_eq_true rfl) rfl (Nat.le_of_ble_eq_true rfl) (Nat.le_of_ble_eq_true rfl) (by omega) (isK_of (sh10_z ha0)) (Tf165 (by omega) a0 ha0 Ir4_1 _ hxr8_2) qX_thr
  clear h
  subst her8_2
  have h := h2
  clear h2
  refine gg_cv (as := []) (r := []) aMi146 rfl rfl rfl aMi165 (Nat.le_of_ble_eq_true rfl) rfl (Nat.le_of_ble_eq_true rfl) (Nat.le_of_ble_eq_true rfl) (by omega) (isK_of (sh10_z ha0)) (Tf165 (by omega) a0 ha0 Ir4_1 _ hxr8_2) ?_
  show aGo kad d 146 (11, ([(0, .ref a0), (1, .int i1)], [])) (aMem Z Ir8_2, t) _
  refine go_ops aMi146 3 _ (f1 := (14, ([(0, .ref a0), (1, .int i1)], [.int (Int32.ofInt (-1)), .int i1, .ref a0]))) rfl ?_
  obtain ⟨r14_3, hxr14_3, h⟩ := Option.bind_eq_some_iff.mp h
  refine gg_cv (as := [.int i1, .int (Int32.ofInt (-1))]) (r := []) aMi146 rfl rfl rfl aMi166 (Nat.le_of_ble_eq_true rfl) rfl (Nat.le_of_ble_eq_true rfl) (Nat.le_of_ble_eq_true rfl) (by omega) (isK_of (sh10_z ha0)) (Tf166 (by omega) a0 ha0 i1 (Int32.ofInt (-1)) Ir8_2 _ hxr14_3) ?_
  show aGo kad d 146 (17, ([(0, .ref a0), (1, .int i1)], [.int r14_3.1])) (aMem Z r14_3.2, t) _
  cases h
  exact go_ret aMi146 rfl aRetI qX_ret
-- KernelGym.runTo (II)I
def f147 (kad : Nat → Nat) (N : Nat) (Z : AZ) (a0 : Nat) (i1 : Int32) (i2 : Int32) (I : AI) : Option ((Int32 ⊕ String) × AI) :=
  (f138 kad N Z i1 (0 : Int32) (255 : Int32) I).bind fun r5_1 =>
  xB r5_1 fun vr5_1 Ir5_1 =>
  (f138 kad N Z i2 (1 : Int32) (100 : Int32) Ir5_1).bind fun r12_2 =>
  xB r12_2 fun vr12_2 Ir12_2 =>
  (f165 kad N Z a0 Ir12_2).bind fun r16_3 =>
  xB r16_3 fun vr16_3 Ir16_3 =>
  (f166 kad N Z a0 i2 i1 Ir16_3).bind fun r22_4 =>
  some (.inl r22_4.1, r22_4.2)
set_option maxRecDepth 20000 in
theorem Tf147 {kad : Nat → Nat} {N : Nat} {Z : AZ} {d : Nat} {t : Option Nat × (Nat × Nat)} (hd : 11 ≤ d) : ∀ (a0 : Nat) (ha0 : sh10 kad Z a0) (i1 : Int32) (i2 : Int32) (I : AI) (r : (Int32 ⊕ String) × AI), f147 kad N Z a0 i1 i2 I = some r → aGo kad d 147 (0, ([(0, .ref a0), (1, .int i1), (2, .int i2)], [])) (aMem Z I, t) (qX tvI Z t r) := by
  intro a0 ha0 i1 i2 I r h
  unfold f147 at h
  refine go_ops aMi147 3 _ (f1 := (5, ([(0, .ref a0), (1, .int i1), (2, .int i2)], [.int (255 : Int32), .int (0 : Int32), .int i1]))) rfl ?_
  obtain ⟨r5_1, hxr5_1, h⟩ := Option.bind_eq_some_iff.mp h
  rcases xB_eq h with ⟨vr5_1, Ir5_1, her5_1, h2⟩ | ⟨Er5_1, Ir5_1, her5_1, h2⟩
  rotate_left
  · clear h
    subst her5_1
    subst h2
    exact gg_cst (as := [.int i1, .int (0 : Int32), .int (255 : Int32)]) (r := []) aMi147 rfl rfl rfl aMi138 rfl (Nat.le_of_ble_eq_true rfl) (Nat.le_of_ble_eq_true rfl) (by omega) (Tf138 (by omega) i1 (0 : Int32) (255 : Int32) I _ hxr5_1) qX_thr
  clear h
  subst her5_1
  have h := h2
  clear h2
  refine gg_cs (as := [.int i1, .int (0 : Int32), .int (255 : Int32)]) (r := []) aMi147 rfl rfl rfl aMi138 rfl (Nat.le_of_ble_eq_true rfl) (Nat.le_of_ble_eq_true rfl) (by omega) (Tf138 (by omega) i1 (0 : Int32) (255 : Int32) I _ hxr5_1) ?_
  show aGo kad d 147 (8, ([(0, .ref a0), (1, .int i1), (2, .int i2)], [])) (aMem Z Ir5_1, t) _
  refine go_ops aMi147 3 _ (f1 := (12, ([(0, .ref a0), (1, .int i1), (2, .int i2)], [.int (100 : Int32), .int (1 : Int32), .int i2]))) rfl ?_
  obtain ⟨r12_2, hxr12_2, h⟩ := Option.bind_eq_some_iff.mp h
  rcases xB_eq h with ⟨vr12_2, Ir12_2, her12_2, h2⟩ | ⟨Er12_2, Ir12_2, her12_2, h2⟩
  rotate_left
  · clear h
    subst her12_2
    subst h2
    exact gg_cst (as := [.int i2, .int (1 : Int32), .int (100 : Int32)]) (r := []) aMi147 rfl rfl rfl aMi138 rfl (Nat.le_of_ble_eq_true rfl) (Nat.le_of_ble_eq_true rfl) (by omega) (Tf138 (by omega) i2 (1 : Int32) (100 : Int32) Ir5_1 _ hxr12_2) qX_thr
  clear h
  subst her12_2
  have h := h2
  clear h2
  refine gg_cs (as := [.int i2, .int (1 : Int32), .int (100 : Int32)]) (r := []) aMi147 rfl rfl rfl aMi138 rfl (Nat.le_of_ble_eq_true rfl) (Nat.le_of_ble_eq_true rfl) (by omega) (Tf138 (by omega) i2 (1 : Int32) (100 : Int32) Ir5_1 _ hxr12_2) ?_
  show aGo kad d 147 (15, ([(0, .ref a0), (1, .int i1), (2, .int i2)], [])) (aMem Z Ir12_2, t) _
  refine go_ops aMi147 1 _ (f1 := (16, ([(0, .ref a0), (1, .int i1), (2, .int i2)], [.ref a0]))) rfl ?_
  obtain ⟨r16_3, hxr16_3, h⟩ := Option.bind_eq_some_iff.mp h
  rcases xB_eq h with ⟨vr16_3, Ir16_3, her16_3, h2⟩ | ⟨Er16_3, Ir16_3, her16_3, h2⟩
  rotate_left
  · clear h
    subst her16_3
    subst h2
    exact gg_cvt (as := []) (r := []) aMi147 rfl rfl rfl aMi165 (Nat.le_of_ble_eq_true rfl) rfl (Nat.le_of_ble_eq_true rfl) (Nat.le_of_ble_eq_true rfl) (by omega) (isK_of (sh10_z ha0)) (Tf165 (by omega) a0 ha0 Ir12_2 _ hxr16_3) qX_thr
  clear h
  subst her16_3
  have h := h2
  clear h2
  refine gg_cv (as := []) (r := []) aMi147 rfl rfl rfl aMi165 (Nat.le_of_ble_eq_true rfl) rfl (Nat.le_of_ble_eq_true rfl) (Nat.le_of_ble_eq_true rfl) (by omega) (isK_of (sh10_z ha0)) (Tf165 (by omega) a0 ha0 Ir12_2 _ hxr16_3) ?_
  show aGo kad d 147 (19, ([(0, .ref a0), (1, .int i1), (2, .int i2)], [])) (aMem Z Ir16_3, t) _
  refine go_ops aMi147 3 _ (f1 := (22, ([(0, .ref a0), (1, .int i1), (2, .int i2)], [.int i1, .int i2, .ref a0]))) rfl ?_
  obtain ⟨r22_4, hxr22_4, h⟩ := Option.bind_eq_some_iff.mp h
  refine gg_cv (as := [.int i2, .int i1]) (r := []) aMi147 rfl rfl rfl aMi166 (Nat.le_of_ble_eq_true rfl) rfl (Nat.le_of_ble_eq_true rfl) (Nat.le_of_ble_eq_true rfl) (by omega) (isK_of (sh10_z ha0)) (Tf166 (by omega) a0 ha0 i2 i1 Ir16_3 _ hxr22_4) ?_
  show aGo kad d 147 (25, ([(0, .ref a0), (1, .int i1), (2, .int i2)], [.int r22_4.1])) (aMem Z r22_4.2, t) _
  cases h
  exact go_ret aMi147 rfl aRetI qX_ret
