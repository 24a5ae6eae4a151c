-- KernelGym$Assembler.removeLines ()I
def f1 (kad : Nat → Nat) (N : Nat) (Z : AZ) (a0 : Nat) (I : AI) : Option (Int32 × AI) :=
  (wI I a0 0 (0 : Int32)).bind fun I7_1 =>
  some ((I a0 0), I7_1)
set_option maxRecDepth 20000 in
theorem Tf1 {kad : Nat → Nat} {N : Nat} {Z : AZ} {d : Nat} {t : Option Nat × (Nat × Nat)} (hd : 0 ≤ d) : ∀ (a0 : Nat) (ha0 : sh0 kad Z a0) (I : AI) (r : Int32 × AI), f1 kad N Z a0 I = some r → aGo kad d 1 (0, ([(0, .ref a0)], [])) (aMem Z I, t) (qI Z t r) := by
  intro a0 ha0 I r h
  unfold f1 at h
  refine go_ops aMi1 1 _ (f1 := (1, ([(0, .ref a0)], [.ref a0]))) rfl ?_
  refine gg_gI aMi1 rfl rfl rfl (gI_of (sh0_z ha0)) ?_
  refine go_ops aMi1 3 _ (f1 := (7, ([(1, .int (I a0 0)), (0, .ref a0)], [.int (0 : Int32), .ref a0]))) rfl ?_
  obtain ⟨I7_1, hxI7_1, h⟩ := Option.bind_eq_some_iff.mp h
  refine gg_pI aMi1 rfl rfl rfl rfl (by decide) (pI_of (sh0_z ha0) hxI7_1) ?_
  refine go_ops aMi1 1 _ (f1 := (11, ([(1, .int (I a0 0)), (0, .ref a0)], [.int (I a0 0)]))) rfl ?_
  cases h
  exact go_ret aMi1 rfl aRetI ⟨rfl, rfl⟩
-- KernelGym$Assembler.add (LKernelGym$Does;III)I
def f2_b67 (kad : Nat → Nat) (N : Nat) (Z : AZ) (a0 : Nat) (I : AI) : Option (Int32 × AI) :=
  some ((I a0 0), I)
set_option maxRecDepth 20000 in
theorem Tf2_b67 {kad : Nat → Nat} {N : Nat} {Z : AZ} {d : Nat} {t : Option Nat × (Nat × Nat)} (hd : 0 ≤ d) : ∀ (a0 : Nat) (ha0 : sh0 kad Z a0) (I : AI) (r : Int32 × AI), f2_b67 kad N Z a0 I = some r → aGo kad d 2 (67, ([(0, .ref a0)], [])) (aMem Z I, t) (qI Z t r) := by
  intro a0 ha0 I r h
  unfold f2_b67 at h
  refine go_ops aMi2 1 _ (f1 := (68, ([(0, .ref a0)], [.ref a0]))) rfl ?_
  refine gg_gI aMi2 rfl rfl rfl (gI_of (sh0_z ha0)) ?_
  cases h
  exact go_ret aMi2 rfl aRetI ⟨rfl, rfl⟩
def f2 (kad : Nat → Nat) (N : Nat) (Z : AZ) (a0 : Nat) (b1 : Nat) (i2 : Int32) (i3 : Int32) (i4 : Int32) (I : AI) : Option (Int32 × AI) :=
  if (100 : Int32) ≤ (I a0 0) then
    f2_b67 kad N Z a0 I
  else
    (ixA 100 (I a0 0)).bind fun j17_1 =>
    (pR Z I 7 0 (a0 + (12 + j17_1)) b1).bind fun I23_2 =>
    (wI I23_2 (a0 + (12 + j17_1)) 1 i2).bind fun I29_3 =>
    (wI I29_3 (a0 + (12 + j17_1)) 2 i3).bind fun I35_4 =>
    (wI I35_4 (a0 + (12 + j17_1)) 3 i4).bind fun I42_5 =>
    (wI I42_5 (a0 + (12 + j17_1)) 4 (0 : Int32)).bind fun I48_6 =>
    (wI I48_6 (a0 + (12 + j17_1)) 5 (0 : Int32)).bind fun I54_7 =>
    (wI I54_7 a0 0 ((I54_7 a0 0) + (1 : Int32))).bind fun I64_8 =>
    f2_b67 kad N Z a0 I64_8
set_option maxRecDepth 20000 in
theorem Tf2 {kad : Nat → Nat} {N : Nat} {Z : AZ} {d : Nat} {t : Option Nat × (Nat × Nat)} (hd : 0 ≤ d) : ∀ (a0 : Nat) (ha0 : sh0 kad Z a0) (b1 : Nat) (i2 : Int32) (i3 : Int32) (i4 : Int32) (I : AI) (r : Int32 × AI), f2 kad N Z a0 b1 i2 i3 i4 I = some r → aGo kad d 2 (0, ([(0, .ref a0), (1, .ref b1), (2, .int i2), (3, .int i3), (4, .int i4)], [])) (aMem Z I, t) (qI Z t r) := by
  intro a0 ha0 b1 i2 i3 i4 I r h
  unfold f2 at h
  refine go_ops aMi2 1 _ (f1 := (1, ([(0, .ref a0), (1, .ref b1), (2, .int i2), (3, .int i3), (4, .int i4)], [.ref a0]))) rfl ?_
  refine gg_gI aMi2 rfl rfl rfl (gI_of (sh0_z ha0)) ?_
  refine go_ops aMi2 1 _ (f1 := (6, ([(0, .ref a0), (1, .ref b1), (2, .int i2), (3, .int i3), (4, .int i4)], [.int (100 : Int32), .int (I a0 0)]))) rfl ?_
  refine gg_br (b := decide ((100 : Int32) ≤ (I a0 0))) (tg := 67) (off := 61) aMi2 rfl rfl rfl rfl (fun hb => ?_) (fun hb => ?_)
  · rw [if_pos (of_decide_eq_true hb)] at h
    refine go_le (lv1 := [(0, .ref a0)]) (aLe_of (show (List.map (fun q => q.1) ([(0, .ref a0)] : ALv)).Nodup from (by show ([0] : List Nat).Nodup; decide)) (aSubL_cons rfl aSubL_nil)) ?_
    exact Tf2_b67 hd a0 ha0 I _ h
  · rw [if_neg (of_decide_eq_false hb)] at h
    refine go_ops aMi2 1 _ (f1 := (10, ([(0, .ref a0), (1, .ref b1), (2, .int i2), (3, .int i3), (4, .int i4)], [.ref a0]))) rfl ?_
    refine gg_gR (b := (a0 + 2)) aMi2 rfl rfl rfl (gR_of (sh0_z ha0) (sh0_r2 ha0)) ?_
    refine go_ops aMi2 1 _ (f1 := (14, ([(0, .ref a0), (1, .ref b1), (2, .int i2), (3, .int i3), (4, .int i4)], [.ref a0, .ref (a0 + 2)]))) rfl ?_
    refine gg_gI aMi2 rfl rfl rfl (gI_of (sh0_z ha0)) ?_
    obtain ⟨j17_1, hxj17_1, h⟩ := Option.bind_eq_some_iff.mp h
    refine gg_lR (b := (a0 + (12 + j17_1))) aMi2 rfl (lR_of (sh0_a2 ha0) (by decide) hxj17_1 (sh0_e2 ha0 j17_1 (ixA_lt hxj17_1))) ?_
    refine go_ops aMi2 3 _ (f1 := (23, ([(5, .ref (a0 + (12 + j17_1))), (0, .ref a0), (1, .ref b1), (2, .int i2), (3, .int i3), (4, .int i4)], [.ref b1, .ref (a0 + (12 + j17_1))]))) rfl ?_
    obtain ⟨I23_2, hxI23_2, h⟩ := Option.bind_eq_some_iff.mp h
    refine gg_pR aMi2 rfl rfl rfl rfl (by decide) hxI23_2 ?_
    refine go_ops aMi2 2 _ (f1 := (29, ([(5, .ref (a0 + (12 + j17_1))), (0, .ref a0), (1, .ref b1), (2, .int i2), (3, .int i3), (4, .int i4)], [.int i2, .ref (a0 + (12 + j17_1))]))) rfl ?_
    obtain ⟨I29_3, hxI29_3, h⟩ := Option.bind_eq_some_iff.mp h
    refine gg_pI aMi2 rfl rfl rfl rfl (by decide) (pI_of (sh7_z (sh0_f2 ha0 j17_1 (ixA_lt hxj17_1))) hxI29_3) ?_
    refine go_ops aMi2 2 _ (f1 := (35, ([(5, .ref (a0 + (12 + j17_1))), (0, .ref a0), (1, .ref b1), (2, .int i2), (3, .int i3), (4, .int i4)], [.int i3, .ref (a0 + (12 + j17_1))]))) rfl ?_
    obtain ⟨I35_4, hxI35_4, h⟩ := Option.bind_eq_some_iff.mp h
    refine gg_pI aMi2 rfl rfl rfl rfl (by decide) (pI_of (sh7_z (sh0_f2 ha0 j17_1 (ixA_lt hxj17_1))) hxI35_4) ?_
    refine go_ops aMi2 2 _ (f1 := (42, ([(5, .ref (a0 + (12 + j17_1))), (0, .ref a0), (1, .ref b1), (2, .int i2), (3, .int i3), (4, .int i4)], [.int i4, .ref (a0 + (12 + j17_1))]))) rfl ?_
    obtain ⟨I42_5, hxI42_5, h⟩ := Option.bind_eq_some_iff.mp h
    refine gg_pI aMi2 rfl rfl rfl rfl (by decide) (pI_of (sh7_z (sh0_f2 ha0 j17_1 (ixA_lt hxj17_1))) hxI42_5) ?_
    refine go_ops aMi2 2 _ (f1 := (48, ([(5, .ref (a0 + (12 + j17_1))), (0, .ref a0), (1, .ref b1), (2, .int i2), (3, .int i3), (4, .int i4)], [.int (0 : Int32), .ref (a0 + (12 + j17_1))]))) rfl ?_
    obtain ⟨I48_6, hxI48_6, h⟩ := Option.bind_eq_some_iff.mp h
    refine gg_pI aMi2 rfl rfl rfl rfl (by decide) (pI_of (sh7_z (sh0_f2 ha0 j17_1 (ixA_lt hxj17_1))) hxI48_6) ?_
    refine go_ops aMi2 2 _ (f1 := (54, ([(5, .ref (a0 + (12 + j17_1))), (0, .ref a0), (1, .ref b1), (2, .int i2), (3, .int i3), (4, .int i4)], [.int (0 : Int32), .ref (a0 + (12 + j17_1))]))) rfl ?_
    obtain ⟨I54_7, hxI54_7, h⟩ := Option.bind_eq_some_iff.mp h
    refine gg_pI aMi2 rfl rfl rfl rfl (by decide) (pI_of (sh7_z (sh0_f2 ha0 j17_1 (ixA_lt hxj17_1))) hxI54_7) ?_
    refine go_ops aMi2 2 _ (f1 := (59, ([(5, .ref (a0 + (12 + j17_1))), (0, .ref a0), (1, .ref b1), (2, .int i2), (3, .int i3), (4, .int i4)], [.ref a0, .ref a0]))) rfl ?_
    refine gg_gI aMi2 rfl rfl rfl (gI_of (sh0_z ha0)) ?_
    refine go_ops aMi2 2 _ (f1 := (64, ([(5, .ref (a0 + (12 + j17_1))), (0, .ref a0), (1, .ref b1), (2, .int i2), (3, .int i3), (4, .int i4)], [.int ((I54_7 a0 0) + (1 : Int32)), .ref a0]))) rfl ?_
    obtain ⟨I64_8, hxI64_8, h⟩ := Option.bind_eq_some_iff.mp h
    refine gg_pI aMi2 rfl rfl rfl rfl (by decide) (pI_of (sh0_z ha0) hxI64_8) ?_
    refine go_le (lv1 := [(0, .ref a0)]) (aLe_of (show (List.map (fun q => q.1) ([(0, .ref a0)] : ALv)).Nodup from (by show ([0] : List Nat).Nodup; decide)) (aSubL_cons rfl aSubL_nil)) ?_
    exact Tf2_b67 hd a0 ha0 I64_8 _ h
-- KernelGym$Assembler.setSecondOperand (II)V
def f3_b38 (kad : Nat → Nat) (N : Nat) (Z : AZ) (a0 : Nat) (I : AI) : Option (Unit × AI) :=
  some ((), I)
set_option maxRecDepth 20000 in
theorem Tf3_b38 {kad : Nat → Nat} {N : Nat} {Z : AZ} {d : Nat} {t : Option Nat × (Nat × Nat)} (hd : 0 ≤ d) : ∀ (a0 : Nat) (ha0 : sh0 kad Z a0) (I : AI) (r : Unit × AI), f3_b38 kad N Z a0 I = some r → aGo kad d 3 (38, ([], [])) (aMem Z I, t) (qV Z t r) := by
  intro a0 ha0 I r h
  unfold f3_b38 at h
  cases h
  exact go_ret aMi3 rfl rfl ⟨rfl, rfl⟩
def f3 (kad : Nat → Nat) (N : Nat) (Z : AZ) (a0 : Nat) (i1 : Int32) (i2 : Int32) (I : AI) : Option (Unit × AI) :=
  if (I a0 0) ≤ 0 then
    f3_b38 kad N Z a0 I
  else
    if (100 : Int32) < (I a0 0) then
      f3_b38 kad N Z a0 I
    else
      (ixA 100 ((I a0 0) - (1 : Int32))).bind fun j26_1 =>
      (wI I (a0 + (12 + j26_1)) 4 i1).bind fun I30_2 =>
      (wI I30_2 (a0 + (12 + j26_1)) 5 i2).bind fun I35_3 =>
      f3_b38 kad N Z a0 I35_3
set_option maxRecDepth 20000 in
theorem Tf3 {kad : Nat → Nat} {N : Nat} {Z : AZ} {d : Nat} {t : Option Nat × (Nat × Nat)} (hd : 0 ≤ d) : ∀ (a0 : Nat) (ha0 : sh0 kad Z a0) (i1 : Int32) (i2 : Int32) (I : AI) (r : Unit × AI), f3 kad N Z a0 i1 i2 I = some r → aGo kad d 3 (0, ([(0, .ref a0), (1, .int i1), (2, .int i2)], [])) (aMem Z I, t) (qV Z t r) := by
  intro a0 ha0 i1 i2 I r h
  unfold f3 at h
  refine go_ops aMi3 1 _ (f1 := (1, ([(0, .ref a0), (1, .int i1), (2, .int i2)], [.ref a0]))) rfl ?_
  refine gg_gI aMi3 rfl rfl rfl (gI_of (sh0_z ha0)) ?_
  refine gg_br (b := decide ((I a0 0) ≤ 0)) (tg := 38) (off := 34) aMi3 rfl rfl rfl rfl (fun hb => ?_) (fun hb => ?_)
  · rw [if_pos (of_decide_eq_true hb)] at h
    refine go_le (lv1 := []) (aLe_of (show (List.map (fun q => q.1) ([] : ALv)).Nodup from (by show ([] : List Nat).Nodup; decide)) aSubL_nil) ?_
    exact Tf3_b38 hd a0 ha0 I _ h
  · rw [if_neg (of_decide_eq_false hb)] at h
    refine go_ops aMi3 1 _ (f1 := (8, ([(0, .ref a0), (1, .int i1), (2, .int i2)], [.ref a0]))) rfl ?_
    refine gg_gI aMi3 rfl rfl rfl (gI_of (sh0_z ha0)) ?_
    refine go_ops aMi3 1 _ (f1 := (13, ([(0, .ref a0), (1, .int i1), (2, .int i2)], [.int (100 : Int32), .int (I a0 0)]))) rfl ?_
    refine gg_br (b := decide ((100 : Int32) < (I a0 0))) (tg := 38) (off := 25) aMi3 rfl rfl rfl rfl (fun hb => ?_) (fun hb => ?_)
    · rw [if_pos (of_decide_eq_true hb)] at h
      refine go_le (lv1 := []) (aLe_of (show (List.map (fun q => q.1) ([] : ALv)).Nodup from (by show ([] : List Nat).Nodup; decide)) aSubL_nil) ?_
      exact Tf3_b38 hd a0 ha0 I _ h
    · rw [if_neg (of_decide_eq_false hb)] at h
      refine go_ops aMi3 1 _ (f1 := (17, ([(0, .ref a0), (1, .int i1), (2, .int i2)], [.ref a0]))) rfl ?_
      refine gg_gR (b := (a0 + 2)) aMi3 rfl rfl rfl (gR_of (sh0_z ha0) (sh0_r2 ha0)) ?_
      refine go_ops aMi3 1 _ (f1 := (21, ([(0, .ref a0), (1, .int i1), (2, .int i2)], [.ref a0, .ref (a0 + 2)]))) rfl ?_
      refine gg_gI aMi3 rfl rfl rfl (gI_of (sh0_z ha0)) ?_
      refine go_ops aMi3 2 _ (f1 := (26, ([(0, .ref a0), (1, .int i1), (2, .int i2)], [.int ((I a0 0) - (1 : Int32)), .ref (a0 + 2)]))) rfl ?_
      obtain ⟨j26_1, hxj26_1, h⟩ := Option.bind_eq_some_iff.mp h
      refine gg_lR (b := (a0 + (12 + j26_1))) aMi3 rfl (lR_of (sh0_a2 ha0) (by decide) hxj26_1 (sh0_e2 ha0 j26_1 (ixA_lt hxj26_1))) ?_
      refine go_ops aMi3 3 _ (f1 := (30, ([(3, .ref (a0 + (12 + j26_1))), (0, .ref a0), (1, .int i1), (2, .int i2)], [.int i1, .ref (a0 + (12 + j26_1))]))) rfl ?_
      obtain ⟨I30_2, hxI30_2, h⟩ := Option.bind_eq_some_iff.mp h
      refine gg_pI aMi3 rfl rfl rfl rfl (by decide) (pI_of (sh7_z (sh0_f2 ha0 j26_1 (ixA_lt hxj26_1))) hxI30_2) ?_
      refine go_ops aMi3 2 _ (f1 := (35, ([(3, .ref (a0 + (12 + j26_1))), (0, .ref a0), (1, .int i1), (2, .int i2)], [.int i2, .ref (a0 + (12 + j26_1))]))) rfl ?_
      obtain ⟨I35_3, hxI35_3, h⟩ := Option.bind_eq_some_iff.mp h
      refine gg_pI aMi3 rfl rfl rfl rfl (by decide) (pI_of (sh7_z (sh0_f2 ha0 j26_1 (ixA_lt hxj26_1))) hxI35_3) ?_
      refine go_le (lv1 := []) (aLe_of (show (List.map (fun q => q.1) ([] : ALv)).Nodup from (by show ([] : List Nat).Nodup; decide)) aSubL_nil) ?_
      exact Tf3_b38 hd a0 ha0 I35_3 _ h
-- KernelGym$Assembler.wordsTogether ()I
def f4 (kad : Nat → Nat) (N : Nat) (Z : AZ) (a0 : Nat) (I : AI) : Option (Int32 × AI) :=
  (ixA 2 (0 : Int32)).bind fun j5_1 =>
  (ixA 2 (1 : Int32)).bind fun j11_2 =>
  some (((I (a0 + 10) j5_1) + (I (a0 + 10) j11_2)), I)
set_option maxRecDepth 20000 in
theorem Tf4 {kad : Nat → Nat} {N : Nat} {Z : AZ} {d : Nat} {t : Option Nat × (Nat × Nat)} (hd : 0 ≤ d) : ∀ (a0 : Nat) (ha0 : sh0 kad Z a0) (I : AI) (r : Int32 × AI), f4 kad N Z a0 I = some r → aGo kad d 4 (0, ([(0, .ref a0)], [])) (aMem Z I, t) (qI Z t r) := by
  intro a0 ha0 I r h
  unfold f4 at h
  refine go_ops aMi4 1 _ (f1 := (1, ([(0, .ref a0)], [.ref a0]))) rfl ?_
  refine gg_gR (b := (a0 + 10)) aMi4 rfl rfl rfl (gR_of (sh0_z ha0) (sh0_r10 ha0)) ?_
  refine go_ops aMi4 1 _ (f1 := (5, ([(0, .ref a0)], [.int (0 : Int32), .ref (a0 + 10)]))) rfl ?_
  obtain ⟨j5_1, hxj5_1, h⟩ := Option.bind_eq_some_iff.mp h
  refine gg_lI (Or.inl ⟨rfl, rfl⟩) aMi4 rfl (lI_of (sh0_a10 ha0) hxj5_1) ?_
  refine go_ops aMi4 1 _ (f1 := (7, ([(0, .ref a0)], [.ref a0, .int (I (a0 + 10) j5_1)]))) rfl ?_
  refine gg_gR (b := (a0 + 10)) aMi4 rfl rfl rfl (gR_of (sh0_z ha0) (sh0_r10 ha0)) ?_
  refine go_ops aMi4 1 _ (f1 := (11, ([(0, .ref a0)], [.int (1 : Int32), .ref (a0 + 10), .int (I (a0 + 10) j5_1)]))) rfl ?_
  obtain ⟨j11_2, hxj11_2, h⟩ := Option.bind_eq_some_iff.mp h
  refine gg_lI (Or.inl ⟨rfl, rfl⟩) aMi4 rfl (lI_of (sh0_a10 ha0) hxj11_2) ?_
  refine go_ops aMi4 1 _ (f1 := (13, ([(0, .ref a0)], [.int ((I (a0 + 10) j5_1) + (I (a0 + 10) j11_2))]))) rfl ?_
  cases h
  exact go_ret aMi4 rfl aRetI ⟨rfl, rfl⟩
-- java/util/Arrays.fill ([II)V
def f53_b5 (kad : Nat → Nat) (N : Nat) (Z : AZ) : Nat → Nat → Int32 → Int32 → Int32 → AI → Option (Unit × AI)
  | 0, _, _, _, _, _ => none
  | F + 1, b0, i1, i2, i3, I =>
    if i3 ≤ i2 then
      some ((), I)
    else
      (sI Z I 100 b0 i2 i1).bind fun I13_1 =>
      f53_b5 kad N Z F b0 i1 (i2 + (1 : Int32)) i3 I13_1
set_option maxRecDepth 20000 in
theorem Tf53_b5 {kad : Nat → Nat} {N : Nat} {Z : AZ} {d : Nat} {t : Option Nat × (Nat × Nat)} (hd : 0 ≤ d) : ∀ (F : Nat) (b0 : Nat) (i1 : Int32) (i2 : Int32) (i3 : Int32) (I : AI) (r : Unit × AI), f53_b5 kad N Z F b0 i1 i2 i3 I = some r → aGo kad d 53 (5, ([(0, .ref b0), (1, .int i1), (2, .int i2), (3, .int i3)], [])) (aMem Z I, t) (qV Z t r) := by
  intro F
  induction F with
  | zero => intro b0 i1 i2 i3 I r h; cases h
  | succ F ih =>
    intro b0 i1 i2 i3 I r h
    unfold f53_b5 at h
    refine go_ops aMi53 2 _ (f1 := (7, ([(0, .ref b0), (1, .int i1), (2, .int i2), (3, .int i3)], [.int i3, .int i2]))) rfl ?_
    refine gg_br (b := decide (i3 ≤ i2)) (tg := 20) (off := 13) aMi53 rfl rfl rfl rfl (fun hb => ?_) (fun hb => ?_)
    · rw [if_pos (of_decide_eq_true hb)] at h
      cases h
      exact go_ret aMi53 rfl rfl ⟨rfl, rfl⟩
    · rw [if_neg (of_decide_eq_false hb)] at h
      refine go_ops aMi53 3 _ (f1 := (13, ([(0, .ref b0), (1, .int i1), (2, .int i2), (3, .int i3)], [.int i1, .int i2, .ref b0]))) rfl ?_
      obtain ⟨I13_1, hxI13_1, h⟩ := Option.bind_eq_some_iff.mp h
      refine gg_sI (Or.inl ⟨rfl, rfl⟩) aMi53 rfl hxI13_1 ?_
      refine go_ops aMi53 2 _ (f1 := (5, ([(2, .int (i2 + (1 : Int32))), (0, .ref b0), (1, .int i1), (3, .int i3)], []))) rfl ?_
      refine go_le (lv1 := [(0, .ref b0), (1, .int i1), (2, .int (i2 + (1 : Int32))), (3, .int i3)]) (aLe_of (show (List.map (fun q => q.1) ([(0, .ref b0), (1, .int i1), (2, .int (i2 + (1 : Int32))), (3, .int i3)] : ALv)).Nodup from (by show ([0, 1, 2, 3] : List Nat).Nodup; decide)) (aSubL_cons rfl (aSubL_cons rfl (aSubL_cons rfl (aSubL_cons rfl aSubL_nil))))) ?_
      exact ih b0 i1 (i2 + (1 : Int32)) i3 I13_1 _ h
def f53 (kad : Nat → Nat) (N : Nat) (Z : AZ) (b0 : Nat) (i1 : Int32) (I : AI) : Option (Unit × AI) :=
  (nL Z b0).bind fun x3_1 =>
  f53_b5 kad N Z N b0 i1 (0 : Int32) x3_1 I
set_option maxRecDepth 20000 in
theorem Tf53 {kad : Nat → Nat} {N : Nat} {Z : AZ} {d : Nat} {t : Option Nat × (Nat × Nat)} (hd : 0 ≤ d) : ∀ (b0 : Nat) (i1 : Int32) (I : AI) (r : Unit × AI), f53 kad N Z b0 i1 I = some r → aGo kad d 53 (0, ([(0, .ref b0), (1, .int i1)], [])) (aMem Z I, t) (qV Z t r) := by
  intro b0 i1 I r h
  unfold f53 at h
  refine go_ops aMi53 3 _ (f1 := (3, ([(2, .int (0 : Int32)), (0, .ref b0), (1, .int i1)], [.ref b0]))) rfl ?_
  obtain ⟨x3_1, hxx3_1, h⟩ := Option.bind_eq_some_iff.mp h
  refine gg_len aMi53 rfl hxx3_1 ?_
  refine go_ops aMi53 1 _ (f1 := (5, ([(3, .int x3_1), (2, .int (0 : Int32)), (0, .ref b0), (1, .int i1)], []))) rfl ?_
  refine go_le (lv1 := [(0, .ref b0), (1, .int i1), (2, .int (0 : Int32)), (3, .int x3_1)]) (aLe_of (show (List.map (fun q => q.1) ([(0, .ref b0), (1, .int i1), (2, .int (0 : Int32)), (3, .int x3_1)] : ALv)).Nodup from (by show ([0, 1, 2, 3] : List Nat).Nodup; decide)) (aSubL_cons rfl (aSubL_cons rfl (aSubL_cons rfl (aSubL_cons rfl aSubL_nil))))) ?_
  exact Tf53_b5 hd N b0 i1 (0 : Int32) x3_1 I _ h
-- KernelGym$Assembler.beginTime (Z)V
def f6 (kad : Nat → Nat) (N : Nat) (Z : AZ) (a0 : Nat) (i1 : Int32) (I : AI) : Option (Unit × AI) :=
  (wB I a0 12 i1).bind fun I2_1 =>
  (wI I2_1 a0 13 (0 : Int32)).bind fun I7_2 =>
  (wI I7_2 a0 14 (0 : Int32)).bind fun I12_3 =>
  (wI I12_3 a0 15 (0 : Int32)).bind fun I17_4 =>
  (f53 kad N Z (a0 + 10) (0 : Int32) I17_4).bind fun r25_5 =>
  (f53 kad N Z (a0 + 1) (0 : Int32) r25_5.2).bind fun r33_6 =>
  some ((), r33_6.2)
set_option maxRecDepth 20000 in
theorem Tf6 {kad : Nat → Nat} {N : Nat} {Z : AZ} {d : Nat} {t : Option Nat × (Nat × Nat)} (hd : 1 ≤ d) : ∀ (a0 : Nat) (ha0 : sh0 kad Z a0) (i1 : Int32) (I : AI) (r : Unit × AI), f6 kad N Z a0 i1 I = some r → aGo kad d 6 (0, ([(0, .ref a0), (1, .int i1)], [])) (aMem Z I, t) (qV Z t r) := by
  intro a0 ha0 i1 I r h
  unfold f6 at h
  refine go_ops aMi6 2 _ (f1 := (2, ([(0, .ref a0), (1, .int i1)], [.int i1, .ref a0]))) rfl ?_
  obtain ⟨I2_1, hxI2_1, h⟩ := Option.bind_eq_some_iff.mp h
  refine gg_pB aMi6 rfl rfl rfl rfl (by decide) (pB_of (sh0_z ha0) hxI2_1) ?_
  refine go_ops aMi6 2 _ (f1 := (7, ([(0, .ref a0), (1, .int i1)], [.int (0 : Int32), .ref a0]))) rfl ?_
  obtain ⟨I7_2, hxI7_2, h⟩ := Option.bind_eq_some_iff.mp h
  refine gg_pI aMi6 rfl rfl rfl rfl (by decide) (pI_of (sh0_z ha0) hxI7_2) ?_
  refine go_ops aMi6 2 _ (f1 := (12, ([(0, .ref a0), (1, .int i1)], [.int (0 : Int32), .ref a0]))) rfl ?_
  obtain ⟨I12_3, hxI12_3, h⟩ := Option.bind_eq_some_iff.mp h
  refine gg_pI aMi6 rfl rfl rfl rfl (by decide) (pI_of (sh0_z ha0) hxI12_3) ?_
  refine go_ops aMi6 2 _ (f1 := (17, ([(0, .ref a0), (1, .int i1)], [.int (0 : Int32), .ref a0]))) rfl ?_
  obtain ⟨I17_4, hxI17_4, h⟩ := Option.bind_eq_some_iff.mp h
  refine gg_pI aMi6 rfl rfl rfl rfl (by decide) (pI_of (sh0_z ha0) hxI17_4) ?_
  refine go_ops aMi6 1 _ (f1 := (21, ([(0, .ref a0), (1, .int i1)], [.ref a0]))) rfl ?_
  refine gg_gR (b := (a0 + 10)) aMi6 rfl rfl rfl (gR_of (sh0_z ha0) (sh0_r10 ha0)) ?_
  refine go_ops aMi6 1 _ (f1 := (25, ([(0, .ref a0), (1, .int i1)], [.int (0 : Int32), .ref (a0 + 10)]))) rfl ?_
  obtain ⟨r25_5, hxr25_5, h⟩ := Option.bind_eq_some_iff.mp h
  refine gg_cs (as := [.ref (a0 + 10), .int (0 : Int32)]) (r := []) aMi6 rfl rfl rfl aMi53 rfl (Nat.le_of_ble_eq_true rfl) (Nat.le_of_ble_eq_true rfl) (by omega) (Tf53 (by omega) (a0 + 10) (0 : Int32) I17_4 _ hxr25_5) ?_
  show aGo kad d 6 (28, ([(0, .ref a0), (1, .int i1)], [])) (aMem Z r25_5.2, t) _
  refine go_ops aMi6 1 _ (f1 := (29, ([(0, .ref a0), (1, .int i1)], [.ref a0]))) rfl ?_
  refine gg_gR (b := (a0 + 1)) aMi6 rfl rfl rfl (gR_of (sh0_z ha0) (sh0_r1 ha0)) ?_
  refine go_ops aMi6 1 _ (f1 := (33, ([(0, .ref a0), (1, .int i1)], [.int (0 : Int32), .ref (a0 + 1)]))) rfl ?_
  obtain ⟨r33_6, hxr33_6, h⟩ := Option.bind_eq_some_iff.mp h
  refine gg_cs (as := [.ref (a0 + 1), .int (0 : Int32)]) (r := []) aMi6 rfl rfl rfl aMi53 rfl (Nat.le_of_ble_eq_true rfl) (Nat.le_of_ble_eq_true rfl) (by omega) (Tf53 (by omega) (a0 + 1) (0 : Int32) r25_5.2 _ hxr33_6) ?_
  show aGo kad d 6 (36, ([(0, .ref a0), (1, .int i1)], [])) (aMem Z r33_6.2, t) _
  cases h
  exact go_ret aMi6 rfl rfl ⟨rfl, rfl⟩
-- KernelGym$Assembler.growBy (I)Z
def f12_b47 (kad : Nat → Nat) (N : Nat) (Z : AZ) (a0 : Nat) (s0 : Int32) (I : AI) : Option (Int32 × AI) :=
  if s0 = 0 ∨ s0 = 1 then some (s0, I) else none
set_option maxRecDepth 20000 in
theorem Tf12_b47 {kad : Nat → Nat} {N : Nat} {Z : AZ} {d : Nat} {t : Option Nat × (Nat × Nat)} (hd : 1 ≤ d) : ∀ (a0 : Nat) (ha0 : sh0 kad Z a0) (s0 : Int32) (I : AI) (r : Int32 × AI), f12_b47 kad N Z a0 s0 I = some r → aGo kad d 12 (47, ([], [.int s0])) (aMem Z I, t) (qI Z t r) := by
  intro a0 ha0 s0 I r h
  unfold f12_b47 at h
  split at h
  · rename_i hz
    cases h
    exact go_ret aMi12 rfl (aRetZ hz) ⟨rfl, rfl⟩
  · cases h
def f12_b32 (kad : Nat → Nat) (N : Nat) (Z : AZ) (a0 : Nat) (I : AI) : Option (Int32 × AI) :=
  (f4 kad N Z a0 I).bind fun r33_1 =>
  if (248 : Int32) < r33_1.1 then
    f12_b47 kad N Z a0 (0 : Int32) r33_1.2
  else
    f12_b47 kad N Z a0 (1 : Int32) r33_1.2
set_option maxRecDepth 20000 in
theorem Tf12_b32 {kad : Nat → Nat} {N : Nat} {Z : AZ} {d : Nat} {t : Option Nat × (Nat × Nat)} (hd : 1 ≤ d) : ∀ (a0 : Nat) (ha0 : sh0 kad Z a0) (I : AI) (r : Int32 × AI), f12_b32 kad N Z a0 I = some r → aGo kad d 12 (32, ([(0, .ref a0)], [])) (aMem Z I, t) (qI Z t r) := by
  intro a0 ha0 I r h
  unfold f12_b32 at h
  refine go_ops aMi12 1 _ (f1 := (33, ([(0, .ref a0)], [.ref a0]))) rfl ?_
  obtain ⟨r33_1, hxr33_1, h⟩ := Option.bind_eq_some_iff.mp h
  refine gg_cv (as := []) (r := []) aMi12 rfl rfl rfl aMi4 (Nat.le_of_ble_eq_true rfl) rfl (Nat.le_of_ble_eq_true rfl) (Nat.le_of_ble_eq_true rfl) (by omega) (isK_of (sh0_z ha0)) (Tf4 (by omega) a0 ha0 I _ hxr33_1) ?_
  show aGo kad d 12 (36, ([(0, .ref a0)], [.int r33_1.1])) (aMem Z r33_1.2, t) _
  refine go_ops aMi12 1 _ (f1 := (39, ([(0, .ref a0)], [.int (248 : Int32), .int r33_1.1]))) rfl ?_
  refine gg_br (b := decide ((248 : Int32) < r33_1.1)) (tg := 46) (off := 7) aMi12 rfl rfl rfl rfl (fun hb => ?_) (fun hb => ?_)
  · rw [if_pos (of_decide_eq_true hb)] at h
    refine go_ops aMi12 1 _ (f1 := (47, ([(0, .ref a0)], [.int (0 : Int32)]))) rfl ?_
    refine go_le (lv1 := []) (aLe_of (show (List.map (fun q => q.1) ([] : ALv)).Nodup from (by show ([] : List Nat).Nodup; decide)) aSubL_nil) ?_
    exact Tf12_b47 hd a0 ha0 (0 : Int32) r33_1.2 _ h
  · rw [if_neg (of_decide_eq_false hb)] at h
    refine go_ops aMi12 2 _ (f1 := (47, ([(0, .ref a0)], [.int (1 : Int32)]))) rfl ?_
    refine go_le (lv1 := []) (aLe_of (show (List.map (fun q => q.1) ([] : ALv)).Nodup from (by show ([] : List Nat).Nodup; decide)) aSubL_nil) ?_
    exact Tf12_b47 hd a0 ha0 (1 : Int32) r33_1.2 _ h
def f12 (kad : Nat → Nat) (N : Nat) (Z : AZ) (a0 : Nat) (i1 : Int32) (I : AI) : Option (Int32 × AI) :=
  if (I a0 15) < 0 then
    f12_b32 kad N Z a0 I
  else
    if (2 : Int32) ≤ (I a0 15) then
      f12_b32 kad N Z a0 I
    else
      (ixA 2 (I a0 15)).bind fun j28_1 =>
      (ixA 2 (I a0 15)).bind fun j31_3 =>
      (wI I (a0 + 10) j31_3 ((I (a0 + 10) j28_1) + i1)).bind fun I31_2 =>
      f12_b32 kad N Z a0 I31_2
set_option maxRecDepth 20000 in
theorem Tf12 {kad : Nat → Nat} {N : Nat} {Z : AZ} {d : Nat} {t : Option Nat × (Nat × Nat)} (hd : 1 ≤ d) : ∀ (a0 : Nat) (ha0 : sh0 kad Z a0) (i1 : Int32) (I : AI) (r : Int32 × AI), f12 kad N Z a0 i1 I = some r → aGo kad d 12 (0, ([(0, .ref a0), (1, .int i1)], [])) (aMem Z I, t) (qI Z t r) := by
  intro a0 ha0 i1 I r h
  unfold f12 at h
  refine go_ops aMi12 1 _ (f1 := (1, ([(0, .ref a0), (1, .int i1)], [.ref a0]))) rfl ?_
  refine gg_gI aMi12 rfl rfl rfl (gI_of (sh0_z ha0)) ?_
  refine gg_br (b := decide ((I a0 15) < 0)) (tg := 32) (off := 28) aMi12 rfl rfl rfl rfl (fun hb => ?_) (fun hb => ?_)
  · rw [if_pos (of_decide_eq_true hb)] at h
    refine go_le (lv1 := [(0, .ref a0)]) (aLe_of (show (List.map (fun q => q.1) ([(0, .ref a0)] : ALv)).Nodup from (by show ([0] : List Nat).Nodup; decide)) (aSubL_cons rfl aSubL_nil)) ?_
    exact Tf12_b32 hd a0 ha0 I _ h
  · rw [if_neg (of_decide_eq_false hb)] at h
    refine go_ops aMi12 1 _ (f1 := (8, ([(0, .ref a0), (1, .int i1)], [.ref a0]))) rfl ?_
    refine gg_gI aMi12 rfl rfl rfl (gI_of (sh0_z ha0)) ?_
    refine go_ops aMi12 1 _ (f1 := (12, ([(0, .ref a0), (1, .int i1)], [.ref a0, .int (I a0 15)]))) rfl ?_
    refine gg_gR (b := (a0 + 10)) aMi12 rfl rfl rfl (gR_of (sh0_z ha0) (sh0_r10 ha0)) ?_
    refine gg_len aMi12 rfl (nL_of (sh0_a10 ha0) (by decide)) ?_
    refine gg_br (b := decide ((2 : Int32) ≤ (I a0 15))) (tg := 32) (off := 16) aMi12 rfl rfl rfl rfl (fun hb => ?_) (fun hb => ?_)
    · rw [if_pos (of_decide_eq_true hb)] at h
      refine go_le (lv1 := [(0, .ref a0)]) (aLe_of (show (List.map (fun q => q.1) ([(0, .ref a0)] : ALv)).Nodup from (by show ([0] : List Nat).Nodup; decide)) (aSubL_cons rfl aSubL_nil)) ?_
      exact Tf12_b32 hd a0 ha0 I _ h
    · rw [if_neg (of_decide_eq_false hb)] at h
      refine go_ops aMi12 1 _ (f1 := (20, ([(0, .ref a0), (1, .int i1)], [.ref a0]))) rfl ?_
      refine gg_gR (b := (a0 + 10)) aMi12 rfl rfl rfl (gR_of (sh0_z ha0) (sh0_r10 ha0)) ?_
      refine go_ops aMi12 1 _ (f1 := (24, ([(0, .ref a0), (1, .int i1)], [.ref a0, .ref (a0 + 10)]))) rfl ?_
      refine gg_gI aMi12 rfl rfl rfl (gI_of (sh0_z ha0)) ?_
      refine go_ops aMi12 1 _ (f1 := (28, ([(0, .ref a0), (1, .int i1)], [.int (I a0 15), .ref (a0 + 10), .int (I a0 15), .ref (a0 + 10)]))) rfl ?_
      obtain ⟨j28_1, hxj28_1, h⟩ := Option.bind_eq_some_iff.mp h
      refine gg_lI (Or.inl ⟨rfl, rfl⟩) aMi12 rfl (lI_of (sh0_a10 ha0) hxj28_1) ?_
      refine go_ops aMi12 2 _ (f1 := (31, ([(0, .ref a0), (1, .int i1)], [.int ((I (a0 + 10) j28_1) + i1), .int (I a0 15), .ref (a0 + 10)]))) rfl ?_
      obtain ⟨j31_3, hxj31_3, h⟩ := Option.bind_eq_some_iff.mp h
      obtain ⟨I31_2, hxI31_2, h⟩ := Option.bind_eq_some_iff.mp h
      refine gg_sI (Or.inl ⟨rfl, rfl⟩) aMi12 rfl (sI_of (sh0_a10 ha0) hxj31_3 hxI31_2) ?_
      refine go_le (lv1 := [(0, .ref a0)]) (aLe_of (show (List.map (fun q => q.1) ([(0, .ref a0)] : ALv)).Nodup from (by show ([0] : List Nat).Nodup; decide)) (aSubL_cons rfl aSubL_nil)) ?_
      exact Tf12_b32 hd a0 ha0 I31_2 _ h
-- KernelGym$Assembler.slotOf (II)I
def f13_b15 (kad : Nat → Nat) (N : Nat) (Z : AZ) (s0 : Int32) (I : AI) : Option (Int32 × AI) :=
  some (s0, I)
set_option maxRecDepth 20000 in
theorem Tf13_b15 {kad : Nat → Nat} {N : Nat} {Z : AZ} {d : Nat} {t : Option Nat × (Nat × Nat)} (hd : 0 ≤ d) : ∀ (s0 : Int32) (I : AI) (r : Int32 × AI), f13_b15 kad N Z s0 I = some r → aGo kad d 13 (15, ([], [.int s0])) (aMem Z I, t) (qI Z t r) := by
  intro s0 I r h
  unfold f13_b15 at h
  cases h
  exact go_ret aMi13 rfl aRetI ⟨rfl, rfl⟩
def f13 (kad : Nat → Nat) (N : Nat) (Z : AZ) (i0 : Int32) (i1 : Int32) (I : AI) : Option (Int32 × AI) :=
  if (16 : Int32) ≤ i0 then
    f13_b15 kad N Z (i0 + ((4 : Int32) * i1)) I
  else
    f13_b15 kad N Z i0 I
set_option maxRecDepth 20000 in
theorem Tf13 {kad : Nat → Nat} {N : Nat} {Z : AZ} {d : Nat} {t : Option Nat × (Nat × Nat)} (hd : 0 ≤ d) : ∀ (i0 : Int32) (i1 : Int32) (I : AI) (r : Int32 × AI), f13 kad N Z i0 i1 I = some r → aGo kad d 13 (0, ([(0, .int i0), (1, .int i1)], [])) (aMem Z I, t) (qI Z t r) := by
  intro i0 i1 I r h
  unfold f13 at h
  refine go_ops aMi13 2 _ (f1 := (3, ([(0, .int i0), (1, .int i1)], [.int (16 : Int32), .int i0]))) rfl ?_
  refine gg_br (b := decide ((16 : Int32) ≤ i0)) (tg := 10) (off := 7) aMi13 rfl rfl rfl rfl (fun hb => ?_) (fun hb => ?_)
  · rw [if_pos (of_decide_eq_true hb)] at h
    refine go_ops aMi13 5 _ (f1 := (15, ([(0, .int i0), (1, .int i1)], [.int (i0 + ((4 : Int32) * i1))]))) rfl ?_
    refine go_le (lv1 := []) (aLe_of (show (List.map (fun q => q.1) ([] : ALv)).Nodup from (by show ([] : List Nat).Nodup; decide)) aSubL_nil) ?_
    exact Tf13_b15 hd (i0 + ((4 : Int32) * i1)) I _ h
  · rw [if_neg (of_decide_eq_false hb)] at h
    refine go_ops aMi13 2 _ (f1 := (15, ([(0, .int i0), (1, .int i1)], [.int i0]))) rfl ?_
    refine go_le (lv1 := []) (aLe_of (show (List.map (fun q => q.1) ([] : ALv)).Nodup from (by show ([] : List Nat).Nodup; decide)) aSubL_nil) ?_
    exact Tf13_b15 hd i0 I _ h
-- KernelGym$Assembler.addressOf (I)I
def f21_b23 (kad : Nat → Nat) (N : Nat) (Z : AZ) (a0 : Nat) (I : AI) : Option (Int32 × AI) :=
  some ((Int32.ofInt (-1)), I)
set_option maxRecDepth 20000 in
theorem Tf21_b23 {kad : Nat → Nat} {N : Nat} {Z : AZ} {d : Nat} {t : Option Nat × (Nat × Nat)} (hd : 0 ≤ d) : ∀ (a0 : Nat) (ha0 : sh0 kad Z a0) (I : AI) (r : Int32 × AI), f21_b23 kad N Z a0 I = some r → aGo kad d 21 (23, ([], [])) (aMem Z I, t) (qI Z t r) := by
  intro a0 ha0 I r h
  unfold f21_b23 at h
  refine go_ops aMi21 1 _ (f1 := (24, ([], [.int (Int32.ofInt (-1))]))) rfl ?_
  cases h
  exact go_ret aMi21 rfl aRetI ⟨rfl, rfl⟩
def f21_b49 (kad : Nat → Nat) (N : Nat) (Z : AZ) (a0 : Nat) (i1 : Int32) (s0 : Int32) (I : AI) : Option (Int32 × AI) :=
  (ixA 1220 i1).bind fun j54_1 =>
  some ((s0 + (I (a0 + 7) j54_1)), I)
set_option maxRecDepth 20000 in
theorem Tf21_b49 {kad : Nat → Nat} {N : Nat} {Z : AZ} {d : Nat} {t : Option Nat × (Nat × Nat)} (hd : 0 ≤ d) : ∀ (a0 : Nat) (ha0 : sh0 kad Z a0) (i1 : Int32) (s0 : Int32) (I : AI) (r : Int32 × AI), f21_b49 kad N Z a0 i1 s0 I = some r → aGo kad d 21 (49, ([(0, .ref a0), (1, .int i1)], [.int s0])) (aMem Z I, t) (qI Z t r) := by
  intro a0 ha0 i1 s0 I r h
  unfold f21_b49 at h
  refine go_ops aMi21 1 _ (f1 := (50, ([(0, .ref a0), (1, .int i1)], [.ref a0, .int s0]))) rfl ?_
  refine gg_gR (b := (a0 + 7)) aMi21 rfl rfl rfl (gR_of (sh0_z ha0) (sh0_r7 ha0)) ?_
  refine go_ops aMi21 1 _ (f1 := (54, ([(0, .ref a0), (1, .int i1)], [.int i1, .ref (a0 + 7), .int s0]))) rfl ?_
  obtain ⟨j54_1, hxj54_1, h⟩ := Option.bind_eq_some_iff.mp h
  refine gg_lI (Or.inl ⟨rfl, rfl⟩) aMi21 rfl (lI_of (sh0_a7 ha0) hxj54_1) ?_
  refine go_ops aMi21 1 _ (f1 := (56, ([(0, .ref a0), (1, .int i1)], [.int (s0 + (I (a0 + 7) j54_1))]))) rfl ?_
  cases h
  exact go_ret aMi21 rfl aRetI ⟨rfl, rfl⟩
def f21 (kad : Nat → Nat) (N : Nat) (Z : AZ) (a0 : Nat) (i1 : Int32) (I : AI) : Option (Int32 × AI) :=
  if i1 < 0 then
    f21_b23 kad N Z a0 I
  else
    if (1220 : Int32) ≤ i1 then
      f21_b23 kad N Z a0 I
    else
      (ixA 1220 i1).bind fun j18_1 =>
      if ¬ (I (a0 + 7) j18_1) = (Int32.ofInt (-1)) then
        (ixA 1220 i1).bind fun j30_2 =>
        if ¬ (I (a0 + 6) j30_2) = 0 then
          (ixA 2 (1 : Int32)).bind fun j48_3 =>
          f21_b49 kad N Z a0 i1 (I (a0 + 11) j48_3) I
        else
          (ixA 2 (0 : Int32)).bind fun j39_4 =>
          f21_b49 kad N Z a0 i1 (I (a0 + 11) j39_4) I
      else
        f21_b23 kad N Z a0 I
set_option maxRecDepth 20000 in
theorem Tf21 {kad : Nat → Nat} {N : Nat} {Z : AZ} {d : Nat} {t : Option Nat × (Nat × Nat)} (hd : 0 ≤ d) : ∀ (a0 : Nat) (ha0 : sh0 kad Z a0) (i1 : Int32) (I : AI) (r : Int32 × AI), f21 kad N Z a0 i1 I = some r → aGo kad d 21 (0, ([(0, .ref a0), (1, .int i1)], [])) (aMem Z I, t) (qI Z t r) := by
  intro a0 ha0 i1 I r h
  unfold f21 at h
  refine go_ops aMi21 1 _ (f1 := (1, ([(0, .ref a0), (1, .int i1)], [.int i1]))) rfl ?_
  refine gg_br (b := decide (i1 < 0)) (tg := 23) (off := 22) aMi21 rfl rfl rfl rfl (fun hb => ?_) (fun hb => ?_)
  · rw [if_pos (of_decide_eq_true hb)] at h
    refine go_le (lv1 := []) (aLe_of (show (List.map (fun q => q.1) ([] : ALv)).Nodup from (by show ([] : List Nat).Nodup; decide)) aSubL_nil) ?_
    exact Tf21_b23 hd a0 ha0 I _ h
  · rw [if_neg (of_decide_eq_false hb)] at h
    refine go_ops aMi21 2 _ (f1 := (6, ([(0, .ref a0), (1, .int i1)], [.ref a0, .int i1]))) rfl ?_
    refine gg_gR (b := (a0 + 7)) aMi21 rfl rfl rfl (gR_of (sh0_z ha0) (sh0_r7 ha0)) ?_
    refine gg_len aMi21 rfl (nL_of (sh0_a7 ha0) (by decide)) ?_
    refine gg_br (b := decide ((1220 : Int32) ≤ i1)) (tg := 23) (off := 13) aMi21 rfl rfl rfl rfl (fun hb => ?_) (fun hb => ?_)
    · rw [if_pos (of_decide_eq_true hb)] at h
      refine go_le (lv1 := []) (aLe_of (show (List.map (fun q => q.1) ([] : ALv)).Nodup from (by show ([] : List Nat).Nodup; decide)) aSubL_nil) ?_
      exact Tf21_b23 hd a0 ha0 I _ h
    · rw [if_neg (of_decide_eq_false hb)] at h
      refine go_ops aMi21 1 _ (f1 := (14, ([(0, .ref a0), (1, .int i1)], [.ref a0]))) rfl ?_
      refine gg_gR (b := (a0 + 7)) aMi21 rfl rfl rfl (gR_of (sh0_z ha0) (sh0_r7 ha0)) ?_
      refine go_ops aMi21 1 _ (f1 := (18, ([(0, .ref a0), (1, .int i1)], [.int i1, .ref (a0 + 7)]))) rfl ?_
      obtain ⟨j18_1, hxj18_1, h⟩ := Option.bind_eq_some_iff.mp h
      refine gg_lI (Or.inl ⟨rfl, rfl⟩) aMi21 rfl (lI_of (sh0_a7 ha0) hxj18_1) ?_
      refine go_ops aMi21 1 _ (f1 := (20, ([(0, .ref a0), (1, .int i1)], [.int (Int32.ofInt (-1)), .int (I (a0 + 7) j18_1)]))) rfl ?_
      refine gg_br (b := decide (¬ (I (a0 + 7) j18_1) = (Int32.ofInt (-1)))) (tg := 25) (off := 5) aMi21 rfl rfl rfl rfl (fun hb => ?_) (fun hb => ?_)
      · rw [if_pos (of_decide_eq_true hb)] at h
        refine go_ops aMi21 1 _ (f1 := (26, ([(0, .ref a0), (1, .int i1)], [.ref a0]))) rfl ?_
        refine gg_gR (b := (a0 + 6)) aMi21 rfl rfl rfl (gR_of (sh0_z ha0) (sh0_r6 ha0)) ?_
        refine go_ops aMi21 1 _ (f1 := (30, ([(0, .ref a0), (1, .int i1)], [.int i1, .ref (a0 + 6)]))) rfl ?_
        obtain ⟨j30_2, hxj30_2, h⟩ := Option.bind_eq_some_iff.mp h
        refine gg_lI (Or.inl ⟨rfl, rfl⟩) aMi21 rfl (lI_of (sh0_a6 ha0) hxj30_2) ?_
        refine gg_br (b := decide (¬ (I (a0 + 6) j30_2) = 0)) (tg := 43) (off := 12) aMi21 rfl rfl rfl rfl (fun hb => ?_) (fun hb => ?_)
        · rw [if_pos (of_decide_eq_true hb)] at h
          refine go_ops aMi21 1 _ (f1 := (44, ([(0, .ref a0), (1, .int i1)], [.ref a0]))) rfl ?_
          refine gg_gR (b := (a0 + 11)) aMi21 rfl rfl rfl (gR_of (sh0_z ha0) (sh0_r11 ha0)) ?_
          refine go_ops aMi21 1 _ (f1 := (48, ([(0, .ref a0), (1, .int i1)], [.int (1 : Int32), .ref (a0 + 11)]))) rfl ?_
          obtain ⟨j48_3, hxj48_3, h⟩ := Option.bind_eq_some_iff.mp h
          refine gg_lI (Or.inl ⟨rfl, rfl⟩) aMi21 rfl (lI_of (sh0_a11 ha0) hxj48_3) ?_
          exact Tf21_b49 hd a0 ha0 i1 (I (a0 + 11) j48_3) I _ h
        · rw [if_neg (of_decide_eq_false hb)] at h
          refine go_ops aMi21 1 _ (f1 := (35, ([(0, .ref a0), (1, .int i1)], [.ref a0]))) rfl ?_
          refine gg_gR (b := (a0 + 11)) aMi21 rfl rfl rfl (gR_of (sh0_z ha0) (sh0_r11 ha0)) ?_
          refine go_ops aMi21 1 _ (f1 := (39, ([(0, .ref a0), (1, .int i1)], [.int (0 : Int32), .ref (a0 + 11)]))) rfl ?_
          obtain ⟨j39_4, hxj39_4, h⟩ := Option.bind_eq_some_iff.mp h
          refine gg_lI (Or.inl ⟨rfl, rfl⟩) aMi21 rfl (lI_of (sh0_a11 ha0) hxj39_4) ?_
          refine go_ops aMi21 1 _ (f1 := (49, ([(0, .ref a0), (1, .int i1)], [.int (I (a0 + 11) j39_4)]))) rfl ?_
          exact Tf21_b49 hd a0 ha0 i1 (I (a0 + 11) j39_4) I _ h
      · rw [if_neg (of_decide_eq_false hb)] at h
        refine go_le (lv1 := []) (aLe_of (show (List.map (fun q => q.1) ([] : ALv)).Nodup from (by show ([] : List Nat).Nodup; decide)) aSubL_nil) ?_
        exact Tf21_b23 hd a0 ha0 I _ h
-- KernelGym$Assembler.valueOf (III)I
def f19_b32 (kad : Nat → Nat) (N : Nat) (Z : AZ) (a0 : Nat) (I : AI) : Option (Int32 × AI) :=
  some ((Int32.ofInt (-1)), I)
set_option maxRecDepth 20000 in
theorem Tf19_b32 {kad : Nat → Nat} {N : Nat} {Z : AZ} {d : Nat} {t : Option Nat × (Nat × Nat)} (hd : 1 ≤ d) : ∀ (a0 : Nat) (ha0 : sh0 kad Z a0) (I : AI) (r : Int32 × AI), f19_b32 kad N Z a0 I = some r → aGo kad d 19 (32, ([], [])) (aMem Z I, t) (qI Z t r) := by
  intro a0 ha0 I r h
  unfold f19_b32 at h
  refine go_ops aMi19 1 _ (f1 := (33, ([], [.int (Int32.ofInt (-1))]))) rfl ?_
  cases h
  exact go_ret aMi19 rfl aRetI ⟨rfl, rfl⟩
def f19_b54 (kad : Nat → Nat) (N : Nat) (Z : AZ) (a0 : Nat) (i2 : Int32) (s0 : Int32) (I : AI) : Option (Int32 × AI) :=
  some (((s0 + i2) &&& (65535 : Int32)), I)
set_option maxRecDepth 20000 in
theorem Tf19_b54 {kad : Nat → Nat} {N : Nat} {Z : AZ} {d : Nat} {t : Option Nat × (Nat × Nat)} (hd : 1 ≤ d) : ∀ (a0 : Nat) (ha0 : sh0 kad Z a0) (i2 : Int32) (s0 : Int32) (I : AI) (r : Int32 × AI), f19_b54 kad N Z a0 i2 s0 I = some r → aGo kad d 19 (54, ([(2, .int i2)], [.int s0])) (aMem Z I, t) (qI Z t r) := by
  intro a0 ha0 i2 s0 I r h
  unfold f19_b54 at h
  refine go_ops aMi19 4 _ (f1 := (60, ([(4, .int s0), (2, .int i2)], [.int (s0 + i2)]))) rfl ?_
  refine gg_kI (Or.inl ⟨rfl, rfl⟩) aMi19 rfl rfl ?_
  refine go_ops aMi19 1 _ (f1 := (63, ([(4, .int s0), (2, .int i2)], [.int ((s0 + i2) &&& (65535 : Int32))]))) rfl ?_
  cases h
  exact go_ret aMi19 rfl aRetI ⟨rfl, rfl⟩
def f19 (kad : Nat → Nat) (N : Nat) (Z : AZ) (a0 : Nat) (i1 : Int32) (i2 : Int32) (i3 : Int32) (I : AI) : Option (Int32 × AI) :=
  if ¬ i1 = 0 then
    if ¬ i1 = (1 : Int32) then
      if i3 ≤ 0 then
        f19_b32 kad N Z a0 I
      else
        if i3 ≤ (300 : Int32) then
          if ¬ i1 = (2 : Int32) then
            (ixA 301 i3).bind fun j53_1 =>
            f19_b54 kad N Z a0 i2 (I (a0 + 9) j53_1) I
          else
            (ixA 301 i3).bind fun j44_2 =>
            f19_b54 kad N Z a0 i2 (I (a0 + 8) j44_2) I
        else
          f19_b32 kad N Z a0 I
    else
      (f13 kad N Z i2 i3 I).bind fun r14_3 =>
      (f21 kad N Z a0 r14_3.1 r14_3.2).bind fun r17_4 =>
      some (r17_4.1, r17_4.2)
  else
    some (i2, I)
set_option maxRecDepth 20000 in
theorem Tf19 {kad : Nat → Nat} {N : Nat} {Z : AZ} {d : Nat} {t : Option Nat × (Nat × Nat)} (hd : 1 ≤ d) : ∀ (a0 : Nat) (ha0 : sh0 kad Z a0) (i1 : Int32) (i2 : Int32) (i3 : Int32) (I : AI) (r : Int32 × AI), f19 kad N Z a0 i1 i2 i3 I = some r → aGo kad d 19 (0, ([(0, .ref a0), (1, .int i1), (2, .int i2), (3, .int i3)], [])) (aMem Z I, t) (qI Z t r) := by
  intro a0 ha0 i1 i2 i3 I r h
  unfold f19 at h
  refine go_ops aMi19 1 _ (f1 := (1, ([(0, .ref a0), (1, .int i1), (2, .int i2), (3, .int i3)], [.int i1]))) rfl ?_
  refine gg_br (b := decide (¬ i1 = 0)) (tg := 6) (off := 5) aMi19 rfl rfl rfl rfl (fun hb => ?_) (fun hb => ?_)
  · rw [if_pos (of_decide_eq_true hb)] at h
    refine go_ops aMi19 2 _ (f1 := (8, ([(0, .ref a0), (1, .int i1), (2, .int i2), (3, .int i3)], [.int (1 : Int32), .int i1]))) rfl ?_
    refine gg_br (b := decide (¬ i1 = (1 : Int32))) (tg := 21) (off := 13) aMi19 rfl rfl rfl rfl (fun hb => ?_) (fun hb => ?_)
    · rw [if_pos (of_decide_eq_true hb)] at h
      refine go_ops aMi19 1 _ (f1 := (22, ([(0, .ref a0), (1, .int i1), (2, .int i2), (3, .int i3)], [.int i3]))) rfl ?_
      refine gg_br (b := decide (i3 ≤ 0)) (tg := 32) (off := 10) aMi19 rfl rfl rfl rfl (fun hb => ?_) (fun hb => ?_)
      · rw [if_pos (of_decide_eq_true hb)] at h
        refine go_le (lv1 := []) (aLe_of (show (List.map (fun q => q.1) ([] : ALv)).Nodup from (by show ([] : List Nat).Nodup; decide)) aSubL_nil) ?_
        exact Tf19_b32 hd a0 ha0 I _ h
      · rw [if_neg (of_decide_eq_false hb)] at h
        refine go_ops aMi19 2 _ (f1 := (29, ([(0, .ref a0), (1, .int i1), (2, .int i2), (3, .int i3)], [.int (300 : Int32), .int i3]))) rfl ?_
        refine gg_br (b := decide (i3 ≤ (300 : Int32))) (tg := 34) (off := 5) aMi19 rfl rfl rfl rfl (fun hb => ?_) (fun hb => ?_)
        · rw [if_pos (of_decide_eq_true hb)] at h
          refine go_ops aMi19 2 _ (f1 := (36, ([(0, .ref a0), (1, .int i1), (2, .int i2), (3, .int i3)], [.int (2 : Int32), .int i1]))) rfl ?_
          refine gg_br (b := decide (¬ i1 = (2 : Int32))) (tg := 48) (off := 12) aMi19 rfl rfl rfl rfl (fun hb => ?_) (fun hb => ?_)
          · rw [if_pos (of_decide_eq_true hb)] at h
            refine go_ops aMi19 1 _ (f1 := (49, ([(0, .ref a0), (1, .int i1), (2, .int i2), (3, .int i3)], [.ref a0]))) rfl ?_
            refine gg_gR (b := (a0 + 9)) aMi19 rfl rfl rfl (gR_of (sh0_z ha0) (sh0_r9 ha0)) ?_
            refine go_ops aMi19 1 _ (f1 := (53, ([(0, .ref a0), (1, .int i1), (2, .int i2), (3, .int i3)], [.int i3, .ref (a0 + 9)]))) rfl ?_
            obtain ⟨j53_1, hxj53_1, h⟩ := Option.bind_eq_some_iff.mp h
            refine gg_lI (Or.inl ⟨rfl, rfl⟩) aMi19 rfl (lI_of (sh0_a9 ha0) hxj53_1) ?_
            refine go_le (lv1 := [(2, .int i2)]) (aLe_of (show (List.map (fun q => q.1) ([(2, .int i2)] : ALv)).Nodup from (by show ([2] : List Nat).Nodup; decide)) (aSubL_cons rfl aSubL_nil)) ?_
            exact Tf19_b54 hd a0 ha0 i2 (I (a0 + 9) j53_1) I _ h
          · rw [if_neg (of_decide_eq_false hb)] at h
            refine go_ops aMi19 1 _ (f1 := (40, ([(0, .ref a0), (1, .int i1), (2, .int i2), (3, .int i3)], [.ref a0]))) rfl ?_
            refine gg_gR (b := (a0 + 8)) aMi19 rfl rfl rfl (gR_of (sh0_z ha0) (sh0_r8 ha0)) ?_
            refine go_ops aMi19 1 _ (f1 := (44, ([(0, .ref a0), (1, .int i1), (2, .int i2), (3, .int i3)], [.int i3, .ref (a0 + 8)]))) rfl ?_
            obtain ⟨j44_2, hxj44_2, h⟩ := Option.bind_eq_some_iff.mp h
            refine gg_lI (Or.inl ⟨rfl, rfl⟩) aMi19 rfl (lI_of (sh0_a8 ha0) hxj44_2) ?_
            refine go_ops aMi19 1 _ (f1 := (54, ([(0, .ref a0), (1, .int i1), (2, .int i2), (3, .int i3)], [.int (I (a0 + 8) j44_2)]))) rfl ?_
            refine go_le (lv1 := [(2, .int i2)]) (aLe_of (show (List.map (fun q => q.1) ([(2, .int i2)] : ALv)).Nodup from (by show ([2] : List Nat).Nodup; decide)) (aSubL_cons rfl aSubL_nil)) ?_
            exact Tf19_b54 hd a0 ha0 i2 (I (a0 + 8) j44_2) I _ h
        · rw [if_neg (of_decide_eq_false hb)] at h
          refine go_le (lv1 := []) (aLe_of (show (List.map (fun q => q.1) ([] : ALv)).Nodup from (by show ([] : List Nat).Nodup; decide)) aSubL_nil) ?_
          exact Tf19_b32 hd a0 ha0 I _ h
    · rw [if_neg (of_decide_eq_false hb)] at h
      refine go_ops aMi19 3 _ (f1 := (14, ([(0, .ref a0), (1, .int i1), (2, .int i2), (3, .int i3)], [.int i3, .int i2, .ref a0]))) rfl ?_
      obtain ⟨r14_3, hxr14_3, h⟩ := Option.bind_eq_some_iff.mp h
      refine gg_cs (as := [.int i2, .int i3]) (r := [.ref a0]) aMi19 rfl rfl rfl aMi13 rfl (Nat.le_of_ble_eq_true rfl) (Nat.le_of_ble_eq_true rfl) (by omega) (Tf13 (by omega) i2 i3 I _ hxr14_3) ?_
      show aGo kad d 19 (17, ([(0, .ref a0), (1, .int i1), (2, .int i2), (3, .int i3)], [.int r14_3.1, .ref a0])) (aMem Z r14_3.2, t) _
      obtain ⟨r17_4, hxr17_4, h⟩ := Option.bind_eq_some_iff.mp h
      refine gg_cv (as := [.int r14_3.1]) (r := []) aMi19 rfl rfl rfl aMi21 (Nat.le_of_ble_eq_true rfl) rfl (Nat.le_of_ble_eq_true rfl) (Nat.le_of_ble_eq_true rfl) (by omega) (isK_of (sh0_z ha0)) (Tf21 (by omega) a0 ha0 r14_3.1 r14_3.2 _ hxr17_4) ?_
      show aGo kad d 19 (20, ([(0, .ref a0), (1, .int i1), (2, .int i2), (3, .int i3)], [.int r17_4.1])) (aMem Z r17_4.2, t) _
      cases h
      exact go_ret aMi19 rfl aRetI ⟨rfl, rfl⟩
  · rw [if_neg (of_decide_eq_false hb)] at h
    refine go_ops aMi19 1 _ (f1 := (5, ([(0, .ref a0), (1, .int i1), (2, .int i2), (3, .int i3)], [.int i2]))) rfl ?_
    cases h
    exact go_ret aMi19 rfl aRetI ⟨rfl, rfl⟩
-- KernelGym$Assembler.errorOf (II)I
def f20_b21 (kad : Nat → Nat) (N : Nat) (Z : AZ) (s0 : Int32) (I : AI) : Option (Int32 × AI) :=
  some (s0, I)
set_option maxRecDepth 20000 in
theorem Tf20_b21 {kad : Nat → Nat} {N : Nat} {Z : AZ} {d : Nat} {t : Option Nat × (Nat × Nat)} (hd : 0 ≤ d) : ∀ (s0 : Int32) (I : AI) (r : Int32 × AI), f20_b21 kad N Z s0 I = some r → aGo kad d 20 (21, ([], [.int s0])) (aMem Z I, t) (qI Z t r) := by
  intro s0 I r h
  unfold f20_b21 at h
  cases h
  exact go_ret aMi20 rfl aRetI ⟨rfl, rfl⟩
def f20 (kad : Nat → Nat) (N : Nat) (Z : AZ) (i0 : Int32) (i1 : Int32) (I : AI) : Option (Int32 × AI) :=
  if i1 = (Int32.ofInt (-1)) then
    if ¬ i0 = (1 : Int32) then
      f20_b21 kad N Z (7 : Int32) I
    else
      f20_b21 kad N Z (6 : Int32) I
  else
    f20_b21 kad N Z (0 : Int32) I
set_option maxRecDepth 20000 in
theorem Tf20 {kad : Nat → Nat} {N : Nat} {Z : AZ} {d : Nat} {t : Option Nat × (Nat × Nat)} (hd : 0 ≤ d) : ∀ (i0 : Int32) (i1 : Int32) (I : AI) (r : Int32 × AI), f20 kad N Z i0 i1 I = some r → aGo kad d 20 (0, ([(0, .int i0), (1, .int i1)], [])) (aMem Z I, t) (qI Z t r) := by
  intro i0 i1 I r h
  unfold f20 at h
  refine go_ops aMi20 2 _ (f1 := (2, ([(0, .int i0), (1, .int i1)], [.int (Int32.ofInt (-1)), .int i1]))) rfl ?_
  refine gg_br (b := decide (i1 = (Int32.ofInt (-1)))) (tg := 9) (off := 7) aMi20 rfl rfl rfl rfl (fun hb => ?_) (fun hb => ?_)
  · rw [if_pos (of_decide_eq_true hb)] at h
    refine go_ops aMi20 2 _ (f1 := (11, ([(0, .int i0), (1, .int i1)], [.int (1 : Int32), .int i0]))) rfl ?_
    refine gg_br (b := decide (¬ i0 = (1 : Int32))) (tg := 19) (off := 8) aMi20 rfl rfl rfl rfl (fun hb => ?_) (fun hb => ?_)
    · rw [if_pos (of_decide_eq_true hb)] at h
      refine go_ops aMi20 1 _ (f1 := (21, ([(0, .int i0), (1, .int i1)], [.int (7 : Int32)]))) rfl ?_
      refine go_le (lv1 := []) (aLe_of (show (List.map (fun q => q.1) ([] : ALv)).Nodup from (by show ([] : List Nat).Nodup; decide)) aSubL_nil) ?_
      exact Tf20_b21 hd (7 : Int32) I _ h
    · rw [if_neg (of_decide_eq_false hb)] at h
      refine go_ops aMi20 2 _ (f1 := (21, ([(0, .int i0), (1, .int i1)], [.int (6 : Int32)]))) rfl ?_
      refine go_le (lv1 := []) (aLe_of (show (List.map (fun q => q.1) ([] : ALv)).Nodup from (by show ([] : List Nat).Nodup; decide)) aSubL_nil) ?_
      exact Tf20_b21 hd (6 : Int32) I _ h
  · rw [if_neg (of_decide_eq_false hb)] at h
    refine go_ops aMi20 2 _ (f1 := (21, ([(0, .int i0), (1, .int i1)], [.int (0 : Int32)]))) rfl ?_
    refine go_le (lv1 := []) (aLe_of (show (List.map (fun q => q.1) ([] : ALv)).Nodup from (by show ([] : List Nat).Nodup; decide)) aSubL_nil) ?_
    exact Tf20_b21 hd (0 : Int32) I _ h
-- KernelGym$Assembler.setArguments (III)V
def f22_b25 (kad : Nat → Nat) (N : Nat) (Z : AZ) (a0 : Nat) (I : AI) : Option (Unit × AI) :=
  some ((), I)
set_option maxRecDepth 20000 in
theorem Tf22_b25 {kad : Nat → Nat} {N : Nat} {Z : AZ} {d : Nat} {t : Option Nat × (Nat × Nat)} (hd : 0 ≤ d) : ∀ (a0 : Nat) (ha0 : sh0 kad Z a0) (I : AI) (r : Unit × AI), f22_b25 kad N Z a0 I = some r → aGo kad d 22 (25, ([], [])) (aMem Z I, t) (qV Z t r) := by
  intro a0 ha0 I r h
  unfold f22_b25 at h
  cases h
  exact go_ret aMi22 rfl rfl ⟨rfl, rfl⟩
def f22 (kad : Nat → Nat) (N : Nat) (Z : AZ) (a0 : Nat) (i1 : Int32) (i2 : Int32) (i3 : Int32) (I : AI) : Option (Unit × AI) :=
  if i1 ≤ 0 then
    f22_b25 kad N Z a0 I
  else
    if (300 : Int32) < i1 then
      f22_b25 kad N Z a0 I
    else
      (ixA 301 i1).bind fun j17_2 =>
      (wI I (a0 + 8) j17_2 i2).bind fun I17_1 =>
      (ixA 301 i1).bind fun j24_4 =>
      (wI I17_1 (a0 + 9) j24_4 i3).bind fun I24_3 =>
      f22_b25 kad N Z a0 I24_3
set_option maxRecDepth 20000 in
theorem Tf22 {kad : Nat → Nat} {N : Nat} {Z : AZ} {d : Nat} {t : Option Nat × (Nat × Nat)} (hd : 0 ≤ d) : ∀ (a0 : Nat) (ha0 : sh0 kad Z a0) (i1 : Int32) (i2 : Int32) (i3 : Int32) (I : AI) (r : Unit × AI), f22 kad N Z a0 i1 i2 i3 I = some r → aGo kad d 22 (0, ([(0, .ref a0), (1, .int i1), (2, .int i2), (3, .int i3)], [])) (aMem Z I, t) (qV Z t r) := by
  intro a0 ha0 i1 i2 i3 I r h
  unfold f22 at h
  refine go_ops aMi22 1 _ (f1 := (1, ([(0, .ref a0), (1, .int i1), (2, .int i2), (3, .int i3)], [.int i1]))) rfl ?_
  refine gg_br (b := decide (i1 ≤ 0)) (tg := 25) (off := 24) aMi22 rfl rfl rfl rfl (fun hb => ?_) (fun hb => ?_)
  · rw [if_pos (of_decide_eq_true hb)] at h
    refine go_le (lv1 := []) (aLe_of (show (List.map (fun q => q.1) ([] : ALv)).Nodup from (by show ([] : List Nat).Nodup; decide)) aSubL_nil) ?_
    exact Tf22_b25 hd a0 ha0 I _ h
  · rw [if_neg (of_decide_eq_false hb)] at h
    refine go_ops aMi22 2 _ (f1 := (8, ([(0, .ref a0), (1, .int i1), (2, .int i2), (3, .int i3)], [.int (300 : Int32), .int i1]))) rfl ?_
    refine gg_br (b := decide ((300 : Int32) < i1)) (tg := 25) (off := 17) aMi22 rfl rfl rfl rfl (fun hb => ?_) (fun hb => ?_)
    · rw [if_pos (of_decide_eq_true hb)] at h
      refine go_le (lv1 := []) (aLe_of (show (List.map (fun q => q.1) ([] : ALv)).Nodup from (by show ([] : List Nat).Nodup; decide)) aSubL_nil) ?_
      exact Tf22_b25 hd a0 ha0 I _ h
    · rw [if_neg (of_decide_eq_false hb)] at h
      refine go_ops aMi22 1 _ (f1 := (12, ([(0, .ref a0), (1, .int i1), (2, .int i2), (3, .int i3)], [.ref a0]))) rfl ?_
      refine gg_gR (b := (a0 + 8)) aMi22 rfl rfl rfl (gR_of (sh0_z ha0) (sh0_r8 ha0)) ?_
      refine go_ops aMi22 2 _ (f1 := (17, ([(0, .ref a0), (1, .int i1), (2, .int i2), (3, .int i3)], [.int i2, .int i1, .ref (a0 + 8)]))) rfl ?_
      obtain ⟨j17_2, hxj17_2, h⟩ := Option.bind_eq_some_iff.mp h
      obtain ⟨I17_1, hxI17_1, h⟩ := Option.bind_eq_some_iff.mp h
      refine gg_sI (Or.inl ⟨rfl, rfl⟩) aMi22 rfl (sI_of (sh0_a8 ha0) hxj17_2 hxI17_1) ?_
      refine go_ops aMi22 1 _ (f1 := (19, ([(0, .ref a0), (1, .int i1), (2, .int i2), (3, .int i3)], [.ref a0]))) rfl ?_
      refine gg_gR (b := (a0 + 9)) aMi22 rfl rfl rfl (gR_of (sh0_z ha0) (sh0_r9 ha0)) ?_
      refine go_ops aMi22 2 _ (f1 := (24, ([(0, .ref a0), (1, .int i1), (2, .int i2), (3, .int i3)], [.int i3, .int i1, .ref (a0 + 9)]))) rfl ?_
      obtain ⟨j24_4, hxj24_4, h⟩ := Option.bind_eq_some_iff.mp h
      obtain ⟨I24_3, hxI24_3, h⟩ := Option.bind_eq_some_iff.mp h
      refine gg_sI (Or.inl ⟨rfl, rfl⟩) aMi22 rfl (sI_of (sh0_a9 ha0) hxj24_4 hxI24_3) ?_
      refine go_le (lv1 := []) (aLe_of (show (List.map (fun q => q.1) ([] : ALv)).Nodup from (by show ([] : List Nat).Nodup; decide)) aSubL_nil) ?_
      exact Tf22_b25 hd a0 ha0 I24_3 _ h
-- KernelGym$Assembler.errorAt (II)I
def f7 (kad : Nat → Nat) (N : Nat) (Z : AZ) (i0 : Int32) (i1 : Int32) (I : AI) : Option (Int32 × AI) :=
  some ((((100 : Int32) * i0) + i1), I)
set_option maxRecDepth 20000 in
theorem Tf7 {kad : Nat → Nat} {N : Nat} {Z : AZ} {d : Nat} {t : Option Nat × (Nat × Nat)} (hd : 0 ≤ d) : ∀ (i0 : Int32) (i1 : Int32) (I : AI) (r : Int32 × AI), f7 kad N Z i0 i1 I = some r → aGo kad d 7 (0, ([(0, .int i0), (1, .int i1)], [])) (aMem Z I, t) (qI Z t r) := by
  intro i0 i1 I r h
  unfold f7 at h
  refine go_ops aMi7 5 _ (f1 := (6, ([(0, .int i0), (1, .int i1)], [.int (((100 : Int32) * i0) + i1)]))) rfl ?_
  cases h
  exact go_ret aMi7 rfl aRetI ⟨rfl, rfl⟩
-- KernelGym$Assembler.putWord (II)V
def f24_b18 (kad : Nat → Nat) (N : Nat) (Z : AZ) (a0 : Nat) (I : AI) : Option (Unit × AI) :=
  some ((), I)
set_option maxRecDepth 20000 in
theorem Tf24_b18 {kad : Nat → Nat} {N : Nat} {Z : AZ} {d : Nat} {t : Option Nat × (Nat × Nat)} (hd : 0 ≤ d) : ∀ (a0 : Nat) (ha0 : sh0 kad Z a0) (I : AI) (r : Unit × AI), f24_b18 kad N Z a0 I = some r → aGo kad d 24 (18, ([], [])) (aMem Z I, t) (qV Z t r) := by
  intro a0 ha0 I r h
  unfold f24_b18 at h
  cases h
  exact go_ret aMi24 rfl rfl ⟨rfl, rfl⟩
def f24 (kad : Nat → Nat) (N : Nat) (Z : AZ) (a0 : Nat) (i1 : Int32) (i2 : Int32) (I : AI) : Option (Unit × AI) :=
  if i1 < 0 then
    f24_b18 kad N Z a0 I
  else
    if (256 : Int32) ≤ i1 then
      f24_b18 kad N Z a0 I
    else
      (ixA 256 i1).bind fun j17_2 =>
      (wI I (a0 + 1) j17_2 i2).bind fun I17_1 =>
      f24_b18 kad N Z a0 I17_1
set_option maxRecDepth 20000 in
theorem Tf24 {kad : Nat → Nat} {N : Nat} {Z : AZ} {d : Nat} {t : Option Nat × (Nat × Nat)} (hd : 0 ≤ d) : ∀ (a0 : Nat) (ha0 : sh0 kad Z a0) (i1 : Int32) (i2 : Int32) (I : AI) (r : Unit × AI), f24 kad N Z a0 i1 i2 I = some r → aGo kad d 24 (0, ([(0, .ref a0), (1, .int i1), (2, .int i2)], [])) (aMem Z I, t) (qV Z t r) := by
  intro a0 ha0 i1 i2 I r h
  unfold f24 at h
  refine go_ops aMi24 1 _ (f1 := (1, ([(0, .ref a0), (1, .int i1), (2, .int i2)], [.int i1]))) rfl ?_
  refine gg_br (b := decide (i1 < 0)) (tg := 18) (off := 17) aMi24 rfl rfl rfl rfl (fun hb => ?_) (fun hb => ?_)
  · rw [if_pos (of_decide_eq_true hb)] at h
    refine go_le (lv1 := []) (aLe_of (show (List.map (fun q => q.1) ([] : ALv)).Nodup from (by show ([] : List Nat).Nodup; decide)) aSubL_nil) ?_
    exact Tf24_b18 hd a0 ha0 I _ h
  · rw [if_neg (of_decide_eq_false hb)] at h
    refine go_ops aMi24 2 _ (f1 := (8, ([(0, .ref a0), (1, .int i1), (2, .int i2)], [.int (256 : Int32), .int i1]))) rfl ?_
    refine gg_br (b := decide ((256 : Int32) ≤ i1)) (tg := 18) (off := 10) aMi24 rfl rfl rfl rfl (fun hb => ?_) (fun hb => ?_)
    · rw [if_pos (of_decide_eq_true hb)] at h
      refine go_le (lv1 := []) (aLe_of (show (List.map (fun q => q.1) ([] : ALv)).Nodup from (by show ([] : List Nat).Nodup; decide)) aSubL_nil) ?_
      exact Tf24_b18 hd a0 ha0 I _ h
    · rw [if_neg (of_decide_eq_false hb)] at h
      refine go_ops aMi24 1 _ (f1 := (12, ([(0, .ref a0), (1, .int i1), (2, .int i2)], [.ref a0]))) rfl ?_
      refine gg_gR (b := (a0 + 1)) aMi24 rfl rfl rfl (gR_of (sh0_z ha0) (sh0_r1 ha0)) ?_
      refine go_ops aMi24 2 _ (f1 := (17, ([(0, .ref a0), (1, .int i1), (2, .int i2)], [.int i2, .int i1, .ref (a0 + 1)]))) rfl ?_
      obtain ⟨j17_2, hxj17_2, h⟩ := Option.bind_eq_some_iff.mp h
      obtain ⟨I17_1, hxI17_1, h⟩ := Option.bind_eq_some_iff.mp h
      refine gg_sI (Or.inl ⟨rfl, rfl⟩) aMi24 rfl (sI_of (sh0_a1 ha0) hxj17_2 hxI17_1) ?_
      refine go_le (lv1 := []) (aLe_of (show (List.map (fun q => q.1) ([] : ALv)).Nodup from (by show ([] : List Nat).Nodup; decide)) aSubL_nil) ?_
      exact Tf24_b18 hd a0 ha0 I17_1 _ h
-- KernelGym$Assembler.putAtEnd (I)V
def f23_b56 (kad : Nat → Nat) (N : Nat) (Z : AZ) (a0 : Nat) (I : AI) : Option (Unit × AI) :=
  some ((), I)
set_option maxRecDepth 20000 in
theorem Tf23_b56 {kad : Nat → Nat} {N : Nat} {Z : AZ} {d : Nat} {t : Option Nat × (Nat × Nat)} (hd : 1 ≤ d) : ∀ (a0 : Nat) (ha0 : sh0 kad Z a0) (I : AI) (r : Unit × AI), f23_b56 kad N Z a0 I = some r → aGo kad d 23 (56, ([], [])) (aMem Z I, t) (qV Z t r) := by
  intro a0 ha0 I r h
  unfold f23_b56 at h
  cases h
  exact go_ret aMi23 rfl rfl ⟨rfl, rfl⟩
def f23 (kad : Nat → Nat) (N : Nat) (Z : AZ) (a0 : Nat) (i1 : Int32) (I : AI) : Option (Unit × AI) :=
  if (I a0 15) < 0 then
    f23_b56 kad N Z a0 I
  else
    if (2 : Int32) ≤ (I a0 15) then
      f23_b56 kad N Z a0 I
    else
      (ixA 2 (I a0 15)).bind fun j28_1 =>
      (ixA 2 (I a0 15)).bind fun j37_2 =>
      (f24 kad N Z a0 ((I (a0 + 11) j28_1) + (I (a0 + 10) j37_2)) i1 I).bind fun r40_3 =>
      (ixA 2 ((r40_3.2) a0 15)).bind fun j52_4 =>
      (ixA 2 ((r40_3.2) a0 15)).bind fun j55_6 =>
      (wI r40_3.2 (a0 + 10) j55_6 ((r40_3.2 (a0 + 10) j52_4) + (1 : Int32))).bind fun I55_5 =>
      f23_b56 kad N Z a0 I55_5
set_option maxRecDepth 20000 in
theorem Tf23 {kad : Nat → Nat} {N : Nat} {Z : AZ} {d : Nat} {t : Option Nat × (Nat × Nat)} (hd : 1 ≤ d) : ∀ (a0 : Nat) (ha0 : sh0 kad Z a0) (i1 : Int32) (I : AI) (r : Unit × AI), f23 kad N Z a0 i1 I = some r → aGo kad d 23 (0, ([(0, .ref a0), (1, .int i1)], [])) (aMem Z I, t) (qV Z t r) := by
  intro a0 ha0 i1 I r h
  unfold f23 at h
  refine go_ops aMi23 1 _ (f1 := (1, ([(0, .ref a0), (1, .int i1)], [.ref a0]))) rfl ?_
  refine gg_gI aMi23 rfl rfl rfl (gI_of (sh0_z ha0)) ?_
  refine gg_br (b := decide ((I a0 15) < 0)) (tg := 56) (off := 52) aMi23 rfl rfl rfl rfl (fun hb => ?_) (fun hb => ?_)
  · rw [if_pos (of_decide_eq_true hb)] at h
    refine go_le (lv1 := []) (aLe_of (show (List.map (fun q => q.1) ([] : ALv)).Nodup from (by show ([] : List Nat).Nodup; decide)) aSubL_nil) ?_
    exact Tf23_b56 hd a0 ha0 I _ h
  · rw [if_neg (of_decide_eq_false hb)] at h
    refine go_ops aMi23 1 _ (f1 := (8, ([(0, .ref a0), (1, .int i1)], [.ref a0]))) rfl ?_
    refine gg_gI aMi23 rfl rfl rfl (gI_of (sh0_z ha0)) ?_
    refine go_ops aMi23 1 _ (f1 := (12, ([(0, .ref a0), (1, .int i1)], [.ref a0, .int (I a0 15)]))) rfl ?_
    refine gg_gR (b := (a0 + 10)) aMi23 rfl rfl rfl (gR_of (sh0_z ha0) (sh0_r10 ha0)) ?_
    refine gg_len aMi23 rfl (nL_of (sh0_a10 ha0) (by decide)) ?_
    refine gg_br (b := decide ((2 : Int32) ≤ (I a0 15))) (tg := 56) (off := 40) aMi23 rfl rfl rfl rfl (fun hb => ?_) (fun hb => ?_)
    · rw [if_pos (of_decide_eq_true hb)] at h
      refine go_le (lv1 := []) (aLe_of (show (List.map (fun q => q.1) ([] : ALv)).Nodup from (by show ([] : List Nat).Nodup; decide)) aSubL_nil) ?_
      exact Tf23_b56 hd a0 ha0 I _ h
    · rw [if_neg (of_decide_eq_false hb)] at h
      refine go_ops aMi23 2 _ (f1 := (21, ([(0, .ref a0), (1, .int i1)], [.ref a0, .ref a0]))) rfl ?_
      refine gg_gR (b := (a0 + 11)) aMi23 rfl rfl rfl (gR_of (sh0_z ha0) (sh0_r11 ha0)) ?_
      refine go_ops aMi23 1 _ (f1 := (25, ([(0, .ref a0), (1, .int i1)], [.ref a0, .ref (a0 + 11), .ref a0]))) rfl ?_
      refine gg_gI aMi23 rfl rfl rfl (gI_of (sh0_z ha0)) ?_
      obtain ⟨j28_1, hxj28_1, h⟩ := Option.bind_eq_some_iff.mp h
      refine gg_lI (Or.inl ⟨rfl, rfl⟩) aMi23 rfl (lI_of (sh0_a11 ha0) hxj28_1) ?_
      refine go_ops aMi23 1 _ (f1 := (30, ([(0, .ref a0), (1, .int i1)], [.ref a0, .int (I (a0 + 11) j28_1), .ref a0]))) rfl ?_
      refine gg_gR (b := (a0 + 10)) aMi23 rfl rfl rfl (gR_of (sh0_z ha0) (sh0_r10 ha0)) ?_
      refine go_ops aMi23 1 _ (f1 := (34, ([(0, .ref a0), (1, .int i1)], [.ref a0, .ref (a0 + 10), .int (I (a0 + 11) j28_1), .ref a0]))) rfl ?_
      refine gg_gI aMi23 rfl rfl rfl (gI_of (sh0_z ha0)) ?_
      obtain ⟨j37_2, hxj37_2, h⟩ := Option.bind_eq_some_iff.mp h
      refine gg_lI (Or.inl ⟨rfl, rfl⟩) aMi23 rfl (lI_of (sh0_a10 ha0) hxj37_2) ?_
      refine go_ops aMi23 2 _ (f1 := (40, ([(0, .ref a0), (1, .int i1)], [.int i1, .int ((I (a0 + 11) j28_1) + (I (a0 + 10) j37_2)), .ref a0]))) rfl ?_
      obtain ⟨r40_3, hxr40_3, h⟩ := Option.bind_eq_some_iff.mp h
      refine gg_cv (as := [.int ((I (a0 + 11) j28_1) + (I (a0 + 10) j37_2)), .int i1]) (r := []) aMi23 rfl rfl rfl aMi24 (Nat.le_of_ble_eq_true rfl) rfl (Nat.le_of_ble_eq_true rfl) (Nat.le_of_ble_eq_true rfl) (by omega) (isK_of (sh0_z ha0)) (Tf24 (by omega) a0 ha0 ((I (a0 + 11) j28_1) + (I (a0 + 10) j37_2)) i1 I _ hxr40_3) ?_
      show aGo kad d 23 (43, ([(0, .ref a0), (1, .int i1)], [])) (aMem Z r40_3.2, t) _
      refine go_ops aMi23 1 _ (f1 := (44, ([(0, .ref a0), (1, .int i1)], [.ref a0]))) rfl ?_
      refine gg_gR (b := (a0 + 10)) aMi23 rfl rfl rfl (gR_of (sh0_z ha0) (sh0_r10 ha0)) ?_
      refine go_ops aMi23 1 _ (f1 := (48, ([(0, .ref a0), (1, .int i1)], [.ref a0, .ref (a0 + 10)]))) rfl ?_
      refine gg_gI aMi23 rfl rfl rfl (gI_of (sh0_z ha0)) ?_
      refine go_ops aMi23 1 _ (f1 := (52, ([(0, .ref a0), (1, .int i1)], [.int ((r40_3.2) a0 15), .ref (a0 + 10), .int ((r40_3.2) a0 15), .ref (a0 + 10)]))) rfl ?_
      obtain ⟨j52_4, hxj52_4, h⟩ := Option.bind_eq_some_iff.mp h
      refine gg_lI (Or.inl ⟨rfl, rfl⟩) aMi23 rfl (lI_of (sh0_a10 ha0) hxj52_4) ?_
      refine go_ops aMi23 2 _ (f1 := (55, ([(0, .ref a0), (1, .int i1)], [.int ((r40_3.2 (a0 + 10) j52_4) + (1 : Int32)), .int ((r40_3.2) a0 15), .ref (a0 + 10)]))) rfl ?_
      obtain ⟨j55_6, hxj55_6, h⟩ := Option.bind_eq_some_iff.mp h
      obtain ⟨I55_5, hxI55_5, h⟩ := Option.bind_eq_some_iff.mp h
      refine gg_sI (Or.inl ⟨rfl, rfl⟩) aMi23 rfl (sI_of (sh0_a10 ha0) hxj55_6 hxI55_5) ?_
      refine go_le (lv1 := []) (aLe_of (show (List.map (fun q => q.1) ([] : ALv)).Nodup from (by show ([] : List Nat).Nodup; decide)) aSubL_nil) ?_
      exact Tf23_b56 hd a0 ha0 I55_5 _ h
-- KernelGym$Assembler.useOperands (LKernelGym$Line;II)I
def f18_b157 (kad : Nat → Nat) (N : Nat) (Z : AZ) (a0 : Nat) (a1 : Nat) (I : AI) : Option (Int32 × AI) :=
  some ((0 : Int32), I)
set_option maxRecDepth 20000 in
theorem Tf18_b157 {kad : Nat → Nat} {N : Nat} {Z : AZ} {d : Nat} {t : Option Nat × (Nat × Nat)} (hd : 2 ≤ d) : ∀ (a0 : Nat) (ha0 : sh0 kad Z a0) (a1 : Nat) (ha1 : sh7 kad Z a1) (I : AI) (r : Int32 × AI), f18_b157 kad N Z a0 a1 I = some r → aGo kad d 18 (157, ([], [])) (aMem Z I, t) (qI Z t r) := by
  intro a0 ha0 a1 ha1 I r h
  unfold f18_b157 at h
  refine go_ops aMi18 1 _ (f1 := (158, ([], [.int (0 : Int32)]))) rfl ?_
  cases h
  exact go_ret aMi18 rfl aRetI ⟨rfl, rfl⟩
def f18_b151 (kad : Nat → Nat) (N : Nat) (Z : AZ) (a0 : Nat) (a1 : Nat) (i4 : Int32) (I : AI) : Option (Int32 × AI) :=
  (f23 kad N Z a0 i4 I).bind fun r154_1 =>
  f18_b157 kad N Z a0 a1 r154_1.2
set_option maxRecDepth 20000 in
theorem Tf18_b151 {kad : Nat → Nat} {N : Nat} {Z : AZ} {d : Nat} {t : Option Nat × (Nat × Nat)} (hd : 2 ≤ d) : ∀ (a0 : Nat) (ha0 : sh0 kad Z a0) (a1 : Nat) (ha1 : sh7 kad Z a1) (i4 : Int32) (I : AI) (r : Int32 × AI), f18_b151 kad N Z a0 a1 i4 I = some r → aGo kad d 18 (151, ([(0, .ref a0), (4, .int i4)], [])) (aMem Z I, t) (qI Z t r) := by
  intro a0 ha0 a1 ha1 i4 I r h
  unfold f18_b151 at h
  refine go_ops aMi18 2 _ (f1 := (154, ([(0, .ref a0), (4, .int i4)], [.int i4, .ref a0]))) rfl ?_
  obtain ⟨r154_1, hxr154_1, h⟩ := Option.bind_eq_some_iff.mp h
  refine gg_cv (as := [.int i4]) (r := []) aMi18 rfl rfl rfl aMi23 (Nat.le_of_ble_eq_true rfl) rfl (Nat.le_of_ble_eq_true rfl) (Nat.le_of_ble_eq_true rfl) (by omega) (isK_of (sh0_z ha0)) (Tf23 (by omega) a0 ha0 i4 I _ hxr154_1) ?_
  show aGo kad d 18 (157, ([(0, .ref a0), (4, .int i4)], [])) (aMem Z r154_1.2, t) _
  refine go_le (lv1 := []) (aLe_of (show (List.map (fun q => q.1) ([] : ALv)).Nodup from (by show ([] : List Nat).Nodup; decide)) aSubL_nil) ?_
  exact Tf18_b157 hd a0 ha0 a1 ha1 r154_1.2 _ h
def f18_b131 (kad : Nat → Nat) (N : Nat) (Z : AZ) (a0 : Nat) (a1 : Nat) (i4 : Int32) (I : AI) : Option (Int32 × AI) :=
  if (kad (dzo (I a1 0))) = (kad 2) then
    f18_b151 kad N Z a0 a1 i4 I
  else
    if ¬ (kad (dzo (I a1 0))) = (kad 3) then
      f18_b157 kad N Z a0 a1 I
    else
      f18_b151 kad N Z a0 a1 i4 I
set_option maxRecDepth 20000 in
theorem Tf18_b131 {kad : Nat → Nat} {N : Nat} {Z : AZ} {d : Nat} {t : Option Nat × (Nat × Nat)} (hd : 2 ≤ d) : ∀ (a0 : Nat) (ha0 : sh0 kad Z a0) (a1 : Nat) (ha1 : sh7 kad Z a1) (i4 : Int32) (I : AI) (r : Int32 × AI), f18_b131 kad N Z a0 a1 i4 I = some r → aGo kad d 18 (131, ([(0, .ref a0), (1, .ref a1), (4, .int i4)], [])) (aMem Z I, t) (qI Z t r) := by
  intro a0 ha0 a1 ha1 i4 I r h
  unfold f18_b131 at h
  refine go_ops aMi18 1 _ (f1 := (132, ([(0, .ref a0), (1, .ref a1), (4, .int i4)], [.ref a1]))) rfl ?_
  refine gg_gR (b := (kad (dzo (I a1 0)))) aMi18 rfl rfl rfl (gR_of2 (sh7_z ha1) (sh7_d ha1 _)) ?_
  refine gg_gs aMi18 rfl rfl ?_
  refine gg_br (b := decide ((kad (dzo (I a1 0))) = (kad 2))) (tg := 151) (off := 13) aMi18 rfl rfl rfl rfl (fun hb => ?_) (fun hb => ?_)
  · rw [if_pos (of_decide_eq_true hb)] at h
    refine go_le (lv1 := [(0, .ref a0), (4, .int i4)]) (aLe_of (show (List.map (fun q => q.1) ([(0, .ref a0), (4, .int i4)] : ALv)).Nodup from (by show ([0, 4] : List Nat).Nodup; decide)) (aSubL_cons rfl (aSubL_cons rfl aSubL_nil))) ?_
    exact Tf18_b151 hd a0 ha0 a1 ha1 i4 I _ h
  · rw [if_neg (of_decide_eq_false hb)] at h
    refine go_ops aMi18 1 _ (f1 := (142, ([(0, .ref a0), (1, .ref a1), (4, .int i4)], [.ref a1]))) rfl ?_
    refine gg_gR (b := (kad (dzo (I a1 0)))) aMi18 rfl rfl rfl (gR_of2 (sh7_z ha1) (sh7_d ha1 _)) ?_
    refine gg_gs aMi18 rfl rfl ?_
    refine gg_br (b := decide (¬ (kad (dzo (I a1 0))) = (kad 3))) (tg := 157) (off := 9) aMi18 rfl rfl rfl rfl (fun hb => ?_) (fun hb => ?_)
    · rw [if_pos (of_decide_eq_true hb)] at h
      refine go_le (lv1 := []) (aLe_of (show (List.map (fun q => q.1) ([] : ALv)).Nodup from (by show ([] : List Nat).Nodup; decide)) aSubL_nil) ?_
      exact Tf18_b157 hd a0 ha0 a1 ha1 I _ h
    · rw [if_neg (of_decide_eq_false hb)] at h
      refine go_le (lv1 := [(0, .ref a0), (4, .int i4)]) (aLe_of (show (List.map (fun q => q.1) ([(0, .ref a0), (4, .int i4)] : ALv)).Nodup from (by show ([0, 4] : List Nat).Nodup; decide)) (aSubL_cons rfl (aSubL_cons rfl aSubL_nil))) ?_
      exact Tf18_b151 hd a0 ha0 a1 ha1 i4 I _ h
def f18_b113 (kad : Nat → Nat) (N : Nat) (Z : AZ) (a0 : Nat) (a1 : Nat) (i4 : Int32) (I : AI) : Option (Int32 × AI) :=
  if ¬ (kad (dzo (I a1 0))) = (kad 2) then
    f18_b131 kad N Z a0 a1 i4 I
  else
    (f23 kad N Z a0 (I a1 1) I).bind fun r128_1 =>
    f18_b131 kad N Z a0 a1 i4 r128_1.2
set_option maxRecDepth 20000 in
theorem Tf18_b113 {kad : Nat → Nat} {N : Nat} {Z : AZ} {d : Nat} {t : Option Nat × (Nat × Nat)} (hd : 2 ≤ d) : ∀ (a0 : Nat) (ha0 : sh0 kad Z a0) (a1 : Nat) (ha1 : sh7 kad Z a1) (i4 : Int32) (I : AI) (r : Int32 × AI), f18_b113 kad N Z a0 a1 i4 I = some r → aGo kad d 18 (113, ([(0, .ref a0), (1, .ref a1), (4, .int i4)], [])) (aMem Z I, t) (qI Z t r) := by
  intro a0 ha0 a1 ha1 i4 I r h
  unfold f18_b113 at h
  refine go_ops aMi18 1 _ (f1 := (114, ([(0, .ref a0), (1, .ref a1), (4, .int i4)], [.ref a1]))) rfl ?_
  refine gg_gR (b := (kad (dzo (I a1 0)))) aMi18 rfl rfl rfl (gR_of2 (sh7_z ha1) (sh7_d ha1 _)) ?_
  refine gg_gs aMi18 rfl rfl ?_
  refine gg_br (b := decide (¬ (kad (dzo (I a1 0))) = (kad 2))) (tg := 131) (off := 11) aMi18 rfl rfl rfl rfl (fun hb => ?_) (fun hb => ?_)
  · rw [if_pos (of_decide_eq_true hb)] at h
    exact Tf18_b131 hd a0 ha0 a1 ha1 i4 I _ h
  · rw [if_neg (of_decide_eq_false hb)] at h
    refine go_ops aMi18 2 _ (f1 := (125, ([(0, .ref a0), (1, .ref a1), (4, .int i4)], [.ref a1, .ref a0]))) rfl ?_
    refine gg_gI aMi18 rfl rfl rfl (gI_of (sh7_z ha1)) ?_
    obtain ⟨r128_1, hxr128_1, h⟩ := Option.bind_eq_some_iff.mp h
    refine gg_cv (as := [.int (I a1 1)]) (r := []) aMi18 rfl rfl rfl aMi23 (Nat.le_of_ble_eq_true rfl) rfl (Nat.le_of_ble_eq_true rfl) (Nat.le_of_ble_eq_true rfl) (by omega) (isK_of (sh0_z ha0)) (Tf23 (by omega) a0 ha0 (I a1 1) I _ hxr128_1) ?_
    show aGo kad d 18 (131, ([(0, .ref a0), (1, .ref a1), (4, .int i4)], [])) (aMem Z r128_1.2, t) _
    exact Tf18_b131 hd a0 ha0 a1 ha1 i4 r128_1.2 _ h
def f18_b81 (kad : Nat → Nat) (N : Nat) (Z : AZ) (a0 : Nat) (a1 : Nat) (i2 : Int32) (i4 : Int32) (i5 : Int32) (I : AI) : Option (Int32 × AI) :=
  if i5 = 0 then
    if ¬ (kad (dzo (I a1 0))) = (kad 5) then
      f18_b113 kad N Z a0 a1 i4 I
    else
      (f24 kad N Z a0 (I a1 1) i4 I).bind fun r110_1 =>
      f18_b113 kad N Z a0 a1 i4 r110_1.2
  else
    (f7 kad N Z i5 i2 I).bind fun r89_2 =>
    some (r89_2.1, r89_2.2)
set_option maxRecDepth 20000 in
theorem Tf18_b81 {kad : Nat → Nat} {N : Nat} {Z : AZ} {d : Nat} {t : Option Nat × (Nat × Nat)} (hd : 2 ≤ d) : ∀ (a0 : Nat) (ha0 : sh0 kad Z a0) (a1 : Nat) (ha1 : sh7 kad Z a1) (i2 : Int32) (i4 : Int32) (i5 : Int32) (I : AI) (r : Int32 × AI), f18_b81 kad N Z a0 a1 i2 i4 i5 I = some r → aGo kad d 18 (81, ([(0, .ref a0), (1, .ref a1), (2, .int i2), (4, .int i4), (5, .int i5)], [])) (aMem Z I, t) (qI Z t r) := by
  intro a0 ha0 a1 ha1 i2 i4 i5 I r h
  unfold f18_b81 at h
  refine go_ops aMi18 1 _ (f1 := (83, ([(0, .ref a0), (1, .ref a1), (2, .int i2), (4, .int i4), (5, .int i5)], [.int i5]))) rfl ?_
  refine gg_br (b := decide (i5 = 0)) (tg := 93) (off := 10) aMi18 rfl rfl rfl rfl (fun hb => ?_) (fun hb => ?_)
  · rw [if_pos (of_decide_eq_true hb)] at h
    refine go_ops aMi18 1 _ (f1 := (94, ([(0, .ref a0), (1, .ref a1), (2, .int i2), (4, .int i4), (5, .int i5)], [.ref a1]))) rfl ?_
    refine gg_gR (b := (kad (dzo (I a1 0)))) aMi18 rfl rfl rfl (gR_of2 (sh7_z ha1) (sh7_d ha1 _)) ?_
    refine gg_gs aMi18 rfl rfl ?_
    refine gg_br (b := decide (¬ (kad (dzo (I a1 0))) = (kad 5))) (tg := 113) (off := 13) aMi18 rfl rfl rfl rfl (fun hb => ?_) (fun hb => ?_)
    · rw [if_pos (of_decide_eq_true hb)] at h
      refine go_le (lv1 := [(0, .ref a0), (1, .ref a1), (4, .int i4)]) (aLe_of (show (List.map (fun q => q.1) ([(0, .ref a0), (1, .ref a1), (4, .int i4)] : ALv)).Nodup from (by show ([0, 1, 4] : List Nat).Nodup; decide)) (aSubL_cons rfl (aSubL_cons rfl (aSubL_cons rfl aSubL_nil)))) ?_
      exact Tf18_b113 hd a0 ha0 a1 ha1 i4 I _ h
    · rw [if_neg (of_decide_eq_false hb)] at h
      refine go_ops aMi18 2 _ (f1 := (105, ([(0, .ref a0), (1, .ref a1), (2, .int i2), (4, .int i4), (5, .int i5)], [.ref a1, .ref a0]))) rfl ?_
      refine gg_gI aMi18 rfl rfl rfl (gI_of (sh7_z ha1)) ?_
      refine go_ops aMi18 1 _ (f1 := (110, ([(0, .ref a0), (1, .ref a1), (2, .int i2), (4, .int i4), (5, .int i5)], [.int i4, .int (I a1 1), .ref a0]))) rfl ?_
      obtain ⟨r110_1, hxr110_1, h⟩ := Option.bind_eq_some_iff.mp h
      refine gg_cv (as := [.int (I a1 1), .int i4]) (r := []) aMi18 rfl rfl rfl aMi24 (Nat.le_of_ble_eq_true rfl) rfl (Nat.le_of_ble_eq_true rfl) (Nat.le_of_ble_eq_true rfl) (by omega) (isK_of (sh0_z ha0)) (Tf24 (by omega) a0 ha0 (I a1 1) i4 I _ hxr110_1) ?_
      show aGo kad d 18 (113, ([(0, .ref a0), (1, .ref a1), (2, .int i2), (4, .int i4), (5, .int i5)], [])) (aMem Z r110_1.2, t) _
      refine go_le (lv1 := [(0, .ref a0), (1, .ref a1), (4, .int i4)]) (aLe_of (show (List.map (fun q => q.1) ([(0, .ref a0), (1, .ref a1), (4, .int i4)] : ALv)).Nodup from (by show ([0, 1, 4] : List Nat).Nodup; decide)) (aSubL_cons rfl (aSubL_cons rfl (aSubL_cons rfl aSubL_nil)))) ?_
      exact Tf18_b113 hd a0 ha0 a1 ha1 i4 r110_1.2 _ h
  · rw [if_neg (of_decide_eq_false hb)] at h
    refine go_ops aMi18 2 _ (f1 := (89, ([(0, .ref a0), (1, .ref a1), (2, .int i2), (4, .int i4), (5, .int i5)], [.int i2, .int i5]))) rfl ?_
    obtain ⟨r89_2, hxr89_2, h⟩ := Option.bind_eq_some_iff.mp h
    refine gg_cs (as := [.int i5, .int i2]) (r := []) aMi18 rfl rfl rfl aMi7 rfl (Nat.le_of_ble_eq_true rfl) (Nat.le_of_ble_eq_true rfl) (by omega) (Tf7 (by omega) i5 i2 I _ hxr89_2) ?_
    show aGo kad d 18 (92, ([(0, .ref a0), (1, .ref a1), (2, .int i2), (4, .int i4), (5, .int i5)], [.int r89_2.1])) (aMem Z r89_2.2, t) _
    cases h
    exact go_ret aMi18 rfl aRetI ⟨rfl, rfl⟩
def f18 (kad : Nat → Nat) (N : Nat) (Z : AZ) (a0 : Nat) (a1 : Nat) (i2 : Int32) (i3 : Int32) (I : AI) : Option (Int32 × AI) :=
  (f19 kad N Z a0 (I a1 2) (I a1 3) i3 I).bind fun r10_1 =>
  (f20 kad N Z ((r10_1.2) a1 2) r10_1.1 r10_1.2).bind fun r21_2 =>
  if ¬ r21_2.1 = 0 then
    f18_b81 kad N Z a0 a1 i2 r10_1.1 r21_2.1 r21_2.2
  else
    if ¬ (kad (dzo (r21_2.2 a1 0))) = (kad 8) then
      f18_b81 kad N Z a0 a1 i2 r10_1.1 r21_2.1 r21_2.2
    else
      (f19 kad N Z a0 ((r21_2.2) a1 4) ((r21_2.2) a1 5) i3 r21_2.2).bind fun r51_3 =>
      (f20 kad N Z ((r51_3.2) a1 4) r51_3.1 r51_3.2).bind fun r62_4 =>
      (f22 kad N Z a0 (((r62_4.2) a0 14) + (1 : Int32)) r10_1.1 r51_3.1 r62_4.2).bind fun r78_5 =>
      f18_b81 kad N Z a0 a1 i2 r10_1.1 r62_4.1 r78_5.2
set_option maxRecDepth 20000 in
theorem Tf18 {kad : Nat → Nat} {N : Nat} {Z : AZ} {d : Nat} {t : Option Nat × (Nat × Nat)} (hd : 2 ≤ d) : ∀ (a0 : Nat) (ha0 : sh0 kad Z a0) (a1 : Nat) (ha1 : sh7 kad Z a1) (i2 : Int32) (i3 : Int32) (I : AI) (r : Int32 × AI), f18 kad N Z a0 a1 i2 i3 I = some r → aGo kad d 18 (0, ([(0, .ref a0), (1, .ref a1), (2, .int i2), (3, .int i3)], [])) (aMem Z I, t) (qI Z t r) := by
  intro a0 ha0 a1 ha1 i2 i3 I r h
  unfold f18 at h
  refine go_ops aMi18 2 _ (f1 := (2, ([(0, .ref a0), (1, .ref a1), (2, .int i2), (3, .int i3)], [.ref a1, .ref a0]))) rfl ?_
  refine gg_gI aMi18 rfl rfl rfl (gI_of (sh7_z ha1)) ?_
  refine go_ops aMi18 1 _ (f1 := (6, ([(0, .ref a0), (1, .ref a1), (2, .int i2), (3, .int i3)], [.ref a1, .int (I a1 2), .ref a0]))) rfl ?_
  refine gg_gI aMi18 rfl rfl rfl (gI_of (sh7_z ha1)) ?_
  refine go_ops aMi18 1 _ (f1 := (10, ([(0, .ref a0), (1, .ref a1), (2, .int i2), (3, .int i3)], [.int i3, .int (I a1 3), .int (I a1 2), .ref a0]))) rfl ?_
  obtain ⟨r10_1, hxr10_1, h⟩ := Option.bind_eq_some_iff.mp h
  refine gg_cv (as := [.int (I a1 2), .int (I a1 3), .int i3]) (r := []) aMi18 rfl rfl rfl aMi19 (Nat.le_of_ble_eq_true rfl) rfl (Nat.le_of_ble_eq_true rfl) (Nat.le_of_ble_eq_true rfl) (by omega) (isK_of (sh0_z ha0)) (Tf19 (by omega) a0 ha0 (I a1 2) (I a1 3) i3 I _ hxr10_1) ?_
  show aGo kad d 18 (13, ([(0, .ref a0), (1, .ref a1), (2, .int i2), (3, .int i3)], [.int r10_1.1])) (aMem Z r10_1.2, t) _
  refine go_ops aMi18 2 _ (f1 := (16, ([(4, .int r10_1.1), (0, .ref a0), (1, .ref a1), (2, .int i2), (3, .int i3)], [.ref a1]))) rfl ?_
  refine gg_gI aMi18 rfl rfl rfl (gI_of (sh7_z ha1)) ?_
  refine go_ops aMi18 1 _ (f1 := (21, ([(4, .int r10_1.1), (0, .ref a0), (1, .ref a1), (2, .int i2), (3, .int i3)], [.int r10_1.1, .int ((r10_1.2) a1 2)]))) rfl ?_
  obtain ⟨r21_2, hxr21_2, h⟩ := Option.bind_eq_some_iff.mp h
  refine gg_cs (as := [.int ((r10_1.2) a1 2), .int r10_1.1]) (r := []) aMi18 rfl rfl rfl aMi20 rfl (Nat.le_of_ble_eq_true rfl) (Nat.le_of_ble_eq_true rfl) (by omega) (Tf20 (by omega) ((r10_1.2) a1 2) r10_1.1 r10_1.2 _ hxr21_2) ?_
  show aGo kad d 18 (24, ([(4, .int r10_1.1), (0, .ref a0), (1, .ref a1), (2, .int i2), (3, .int i3)], [.int r21_2.1])) (aMem Z r21_2.2, t) _
  refine go_ops aMi18 2 _ (f1 := (28, ([(5, .int r21_2.1), (4, .int r10_1.1), (0, .ref a0), (1, .ref a1), (2, .int i2), (3, .int i3)], [.int r21_2.1]))) rfl ?_
  refine gg_br (b := decide (¬ r21_2.1 = 0)) (tg := 81) (off := 53) aMi18 rfl rfl rfl rfl (fun hb => ?_) (fun hb => ?_)
  · rw [if_pos (of_decide_eq_true hb)] at h
    refine go_le (lv1 := [(0, .ref a0), (1, .ref a1), (2, .int i2), (4, .int r10_1.1), (5, .int r21_2.1)]) (aLe_of (show (List.map (fun q => q.1) ([(0, .ref a0), (1, .ref a1), (2, .int i2), (4, .int r10_1.1), (5, .int r21_2.1)] : ALv)).Nodup from (by show ([0, 1, 2, 4, 5] : List Nat).Nodup; decide)) (aSubL_cons rfl (aSubL_cons rfl (aSubL_cons rfl (aSubL_cons rfl (aSubL_cons rfl aSubL_nil)))))) ?_
    exact Tf18_b81 hd a0 ha0 a1 ha1 i2 r10_1.1 r21_2.1 r21_2.2 _ h
  · rw [if_neg (of_decide_eq_false hb)] at h
    refine go_ops aMi18 1 _ (f1 := (32, ([(5, .int r21_2.1), (4, .int r10_1.1), (0, .ref a0), (1, .ref a1), (2, .int i2), (3, .int i3)], [.ref a1]))) rfl ?_
    refine gg_gR (b := (kad (dzo (r21_2.2 a1 0)))) aMi18 rfl rfl rfl (gR_of2 (sh7_z ha1) (sh7_d ha1 _)) ?_
    refine gg_gs aMi18 rfl rfl ?_
    refine gg_br (b := decide (¬ (kad (dzo (r21_2.2 a1 0))) = (kad 8))) (tg := 81) (off := 43) aMi18 rfl rfl rfl rfl (fun hb => ?_) (fun hb => ?_)
    · rw [if_pos (of_decide_eq_true hb)] at h
      refine go_le (lv1 := [(0, .ref a0), (1, .ref a1), (2, .int i2), (4, .int r10_1.1), (5, .int r21_2.1)]) (aLe_of (show (List.map (fun q => q.1) ([(0, .ref a0), (1, .ref a1), (2, .int i2), (4, .int r10_1.1), (5, .int r21_2.1)] : ALv)).Nodup from (by show ([0, 1, 2, 4, 5] : List Nat).Nodup; decide)) (aSubL_cons rfl (aSubL_cons rfl (aSubL_cons rfl (aSubL_cons rfl (aSubL_cons rfl aSubL_nil)))))) ?_
      exact Tf18_b81 hd a0 ha0 a1 ha1 i2 r10_1.1 r21_2.1 r21_2.2 _ h
    · rw [if_neg (of_decide_eq_false hb)] at h
      refine go_ops aMi18 2 _ (f1 := (43, ([(5, .int r21_2.1), (4, .int r10_1.1), (0, .ref a0), (1, .ref a1), (2, .int i2), (3, .int i3)], [.ref a1, .ref a0]))) rfl ?_
      refine gg_gI aMi18 rfl rfl rfl (gI_of (sh7_z ha1)) ?_
      refine go_ops aMi18 1 _ (f1 := (47, ([(5, .int r21_2.1), (4, .int r10_1.1), (0, .ref a0), (1, .ref a1), (2, .int i2), (3, .int i3)], [.ref a1, .int ((r21_2.2) a1 4), .ref a0]))) rfl ?_
      refine gg_gI aMi18 rfl rfl rfl (gI_of (sh7_z ha1)) ?_
      refine go_ops aMi18 1 _ (f1 := (51, ([(5, .int r21_2.1), (4, .int r10_1.1), (0, .ref a0), (1, .ref a1), (2, .int i2), (3, .int i3)], [.int i3, .int ((r21_2.2) a1 5), .int ((r21_2.2) a1 4), .ref a0]))) rfl ?_
      obtain ⟨r51_3, hxr51_3, h⟩ := Option.bind_eq_some_iff.mp h
      refine gg_cv (as := [.int ((r21_2.2) a1 4), .int ((r21_2.2) a1 5), .int i3]) (r := []) aMi18 rfl rfl rfl aMi19 (Nat.le_of_ble_eq_true rfl) rfl (Nat.le_of_ble_eq_true rfl) (Nat.le_of_ble_eq_true rfl) (by omega) (isK_of (sh0_z ha0)) (Tf19 (by omega) a0 ha0 ((r21_2.2) a1 4) ((r21_2.2) a1 5) i3 r21_2.2 _ hxr51_3) ?_
      show aGo kad d 18 (54, ([(5, .int r21_2.1), (4, .int r10_1.1), (0, .ref a0), (1, .ref a1), (2, .int i2), (3, .int i3)], [.int r51_3.1])) (aMem Z r51_3.2, t) _
      refine go_ops aMi18 2 _ (f1 := (57, ([(6, .int r51_3.1), (5, .int r21_2.1), (4, .int r10_1.1), (0, .ref a0), (1, .ref a1), (2, .int i2), (3, .int i3)], [.ref a1]))) rfl ?_
      refine gg_gI aMi18 rfl rfl rfl (gI_of (sh7_z ha1)) ?_
      refine go_ops aMi18 1 _ (f1 := (62, ([(6, .int r51_3.1), (5, .int r21_2.1), (4, .int r10_1.1), (0, .ref a0), (1, .ref a1), (2, .int i2), (3, .int i3)], [.int r51_3.1, .int ((r51_3.2) a1 4)]))) rfl ?_
      obtain ⟨r62_4, hxr62_4, h⟩ := Option.bind_eq_some_iff.mp h
      refine gg_cs (as := [.int ((r51_3.2) a1 4), .int r51_3.1]) (r := []) aMi18 rfl rfl rfl aMi20 rfl (Nat.le_of_ble_eq_true rfl) (Nat.le_of_ble_eq_true rfl) (by omega) (Tf20 (by omega) ((r51_3.2) a1 4) r51_3.1 r51_3.2 _ hxr62_4) ?_
      show aGo kad d 18 (65, ([(6, .int r51_3.1), (5, .int r21_2.1), (4, .int r10_1.1), (0, .ref a0), (1, .ref a1), (2, .int i2), (3, .int i3)], [.int r62_4.1])) (aMem Z r62_4.2, t) _
      refine go_ops aMi18 3 _ (f1 := (69, ([(5, .int r62_4.1), (6, .int r51_3.1), (4, .int r10_1.1), (0, .ref a0), (1, .ref a1), (2, .int i2), (3, .int i3)], [.ref a0, .ref a0]))) rfl ?_
      refine gg_gI aMi18 rfl rfl rfl (gI_of (sh0_z ha0)) ?_
      refine go_ops aMi18 4 _ (f1 := (78, ([(5, .int r62_4.1), (6, .int r51_3.1), (4, .int r10_1.1), (0, .ref a0), (1, .ref a1), (2, .int i2), (3, .int i3)], [.int r51_3.1, .int r10_1.1, .int (((r62_4.2) a0 14) + (1 : Int32)), .ref a0]))) rfl ?_
      obtain ⟨r78_5, hxr78_5, h⟩ := Option.bind_eq_some_iff.mp h
      refine gg_cv (as := [.int (((r62_4.2) a0 14) + (1 : Int32)), .int r10_1.1, .int r51_3.1]) (r := []) aMi18 rfl rfl rfl aMi22 (Nat.le_of_ble_eq_true rfl) rfl (Nat.le_of_ble_eq_true rfl) (Nat.le_of_ble_eq_true rfl) (by omega) (isK_of (sh0_z ha0)) (Tf22 (by omega) a0 ha0 (((r62_4.2) a0 14) + (1 : Int32)) r10_1.1 r51_3.1 r62_4.2 _ hxr78_5) ?_
      show aGo kad d 18 (81, ([(5, .int r62_4.1), (6, .int r51_3.1), (4, .int r10_1.1), (0, .ref a0), (1, .ref a1), (2, .int i2), (3, .int i3)], [])) (aMem Z r78_5.2, t) _
      refine go_le (lv1 := [(0, .ref a0), (1, .ref a1), (2, .int i2), (4, .int r10_1.1), (5, .int r62_4.1)]) (aLe_of (show (List.map (fun q => q.1) ([(0, .ref a0), (1, .ref a1), (2, .int i2), (4, .int r10_1.1), (5, .int r62_4.1)] : ALv)).Nodup from (by show ([0, 1, 2, 4, 5] : List Nat).Nodup; decide)) (aSubL_cons rfl (aSubL_cons rfl (aSubL_cons rfl (aSubL_cons rfl (aSubL_cons rfl aSubL_nil)))))) ?_
      exact Tf18_b81 hd a0 ha0 a1 ha1 i2 r10_1.1 r62_4.1 r78_5.2 _ h
-- KernelGym$Assembler.secondTime (LKernelGym$Line;II)I
def f17_b89 (kad : Nat → Nat) (N : Nat) (Z : AZ) (a0 : Nat) (a1 : Nat) (I : AI) : Option (Int32 × AI) :=
  some ((0 : Int32), I)
set_option maxRecDepth 20000 in
theorem Tf17_b89 {kad : Nat → Nat} {N : Nat} {Z : AZ} {d : Nat} {t : Option Nat × (Nat × Nat)} (hd : 3 ≤ d) : ∀ (a0 : Nat) (ha0 : sh0 kad Z a0) (a1 : Nat) (ha1 : sh7 kad Z a1) (I : AI) (r : Int32 × AI), f17_b89 kad N Z a0 a1 I = some r → aGo kad d 17 (89, ([], [])) (aMem Z I, t) (qI Z t r) := by
  intro a0 ha0 a1 ha1 I r h
  unfold f17_b89 at h
  refine go_ops aMi17 1 _ (f1 := (90, ([], [.int (0 : Int32)]))) rfl ?_
  cases h
  exact go_ret aMi17 rfl aRetI ⟨rfl, rfl⟩
def f17_b81 (kad : Nat → Nat) (N : Nat) (Z : AZ) (a0 : Nat) (a1 : Nat) (i2 : Int32) (i3 : Int32) (I : AI) : Option (Int32 × AI) :=
  (f18 kad N Z a0 a1 i2 i3 I).bind fun r85_1 =>
  some (r85_1.1, r85_1.2)
set_option maxRecDepth 20000 in
theorem Tf17_b81 {kad : Nat → Nat} {N : Nat} {Z : AZ} {d : Nat} {t : Option Nat × (Nat × Nat)} (hd : 3 ≤ d) : ∀ (a0 : Nat) (ha0 : sh0 kad Z a0) (a1 : Nat) (ha1 : sh7 kad Z a1) (i2 : Int32) (i3 : Int32) (I : AI) (r : Int32 × AI), f17_b81 kad N Z a0 a1 i2 i3 I = some r → aGo kad d 17 (81, ([(0, .ref a0), (1, .ref a1), (2, .int i2), (3, .int i3)], [])) (aMem Z I, t) (qI Z t r) := by
  intro a0 ha0 a1 ha1 i2 i3 I r h
  unfold f17_b81 at h
  refine go_ops aMi17 4 _ (f1 := (85, ([(0, .ref a0), (1, .ref a1), (2, .int i2), (3, .int i3)], [.int i3, .int i2, .ref a1, .ref a0]))) rfl ?_
  obtain ⟨r85_1, hxr85_1, h⟩ := Option.bind_eq_some_iff.mp h
  refine gg_cv (as := [.ref a1, .int i2, .int i3]) (r := []) aMi17 rfl rfl rfl aMi18 (Nat.le_of_ble_eq_true rfl) rfl (Nat.le_of_ble_eq_true rfl) (Nat.le_of_ble_eq_true rfl) (by omega) (isK_of (sh0_z ha0)) (Tf18 (by omega) a0 ha0 a1 ha1 i2 i3 I _ hxr85_1) ?_
  show aGo kad d 17 (88, ([(0, .ref a0), (1, .ref a1), (2, .int i2), (3, .int i3)], [.int r85_1.1])) (aMem Z r85_1.2, t) _
  cases h
  exact go_ret aMi17 rfl aRetI ⟨rfl, rfl⟩
def f17 (kad : Nat → Nat) (N : Nat) (Z : AZ) (a0 : Nat) (a1 : Nat) (i2 : Int32) (i3 : Int32) (I : AI) : Option (Int32 × AI) :=
  (orI kad (kad (dzo (I a1 0)))).bind fun x7_1 =>
  (swI kad Z x7_1).bind fun x10_2 =>
  if x10_2 = (1 : Int32) then
    (wI I a0 15 (I a1 1)).bind fun I65_3 =>
    some ((0 : Int32), I65_3)
  else
  if x10_2 = (2 : Int32) then
    f17_b89 kad N Z a0 a1 I
  else
  if x10_2 = (3 : Int32) then
    f17_b81 kad N Z a0 a1 i2 i3 I
  else
  if x10_2 = (4 : Int32) then
    f17_b81 kad N Z a0 a1 i2 i3 I
  else
  if x10_2 = (5 : Int32) then
    (f12 kad N Z a0 (I a1 1) I).bind fun r75_4 =>
    some ((0 : Int32), r75_4.2)
  else
  if x10_2 = (6 : Int32) then
    f17_b89 kad N Z a0 a1 I
  else
  if x10_2 = (7 : Int32) then
    f17_b89 kad N Z a0 a1 I
  else
  if x10_2 = (8 : Int32) then
    f17_b81 kad N Z a0 a1 i2 i3 I
  else
  if x10_2 = (9 : Int32) then
    f17_b81 kad N Z a0 a1 i2 i3 I
  else
    f17_b89 kad N Z a0 a1 I
set_option maxRecDepth 20000 in
theorem Tf17 {kad : Nat → Nat} {N : Nat} {Z : AZ} {d : Nat} {t : Option Nat × (Nat × Nat)} (hd : 3 ≤ d) : ∀ (a0 : Nat) (ha0 : sh0 kad Z a0) (a1 : Nat) (ha1 : sh7 kad Z a1) (i2 : Int32) (i3 : Int32) (I : AI) (r : Int32 × AI), f17 kad N Z a0 a1 i2 i3 I = some r → aGo kad d 17 (0, ([(0, .ref a0), (1, .ref a1), (2, .int i2), (3, .int i3)], [])) (aMem Z I, t) (qI Z t r) := by
  intro a0 ha0 a1 ha1 i2 i3 I r h
  unfold f17 at h
  refine gg_gs aMi17 rfl rfl ?_
  refine go_ops aMi17 1 _ (f1 := (4, ([(0, .ref a0), (1, .ref a1), (2, .int i2), (3, .int i3)], [.ref a1, .ref (kad 9)]))) rfl ?_
  refine gg_gR (b := (kad (dzo (I a1 0)))) aMi17 rfl rfl rfl (gR_of2 (sh7_z ha1) (sh7_d ha1 _)) ?_
  obtain ⟨x7_1, hxx7_1, h⟩ := Option.bind_eq_some_iff.mp h
  refine gg_or aMi17 rfl rfl (Nat.le_of_ble_eq_true rfl) hxx7_1 ?_
  obtain ⟨x10_2, hxx10_2, h⟩ := Option.bind_eq_some_iff.mp h
  refine gg_sw aMi17 rfl hxx10_2 ?_
  by_cases hs0 : x10_2 = (1 : Int32)
  · rw [if_pos hs0] at h
    refine go_sw (f1 := (60, ([(0, .ref a0), (1, .ref a1), (2, .int i2), (3, .int i3)], []))) aMi17 rfl (by rw [hs0]; rfl) ?_
    refine go_ops aMi17 2 _ (f1 := (62, ([(0, .ref a0), (1, .ref a1), (2, .int i2), (3, .int i3)], [.ref a1, .ref a0]))) rfl ?_
    refine gg_gI aMi17 rfl rfl rfl (gI_of (sh7_z ha1)) ?_
    obtain ⟨I65_3, hxI65_3, h⟩ := Option.bind_eq_some_iff.mp h
    refine gg_pI aMi17 rfl rfl rfl rfl (by decide) (pI_of (sh0_z ha0) hxI65_3) ?_
    refine go_ops aMi17 1 _ (f1 := (69, ([(0, .ref a0), (1, .ref a1), (2, .int i2), (3, .int i3)], [.int (0 : Int32)]))) rfl ?_
    cases h
    exact go_ret aMi17 rfl aRetI ⟨rfl, rfl⟩
  rw [if_neg hs0] at h
  by_cases hs1 : x10_2 = (2 : Int32)
  · rw [if_pos hs1] at h
    refine go_sw (f1 := (89, ([(0, .ref a0), (1, .ref a1), (2, .int i2), (3, .int i3)], []))) aMi17 rfl (by rw [hs1]; rfl) ?_
    refine go_le (lv1 := []) (aLe_of (show (List.map (fun q => q.1) ([] : ALv)).Nodup from (by show ([] : List Nat).Nodup; decide)) aSubL_nil) ?_
    exact Tf17_b89 hd a0 ha0 a1 ha1 I _ h
  rw [if_neg hs1] at h
  by_cases hs2 : x10_2 = (3 : Int32)
  · rw [if_pos hs2] at h
    refine go_sw (f1 := (81, ([(0, .ref a0), (1, .ref a1), (2, .int i2), (3, .int i3)], []))) aMi17 rfl (by rw [hs2]; rfl) ?_
    exact Tf17_b81 hd a0 ha0 a1 ha1 i2 i3 I _ h
  rw [if_neg hs2] at h
  by_cases hs3 : x10_2 = (4 : Int32)
  · rw [if_pos hs3] at h
    refine go_sw (f1 := (81, ([(0, .ref a0), (1, .ref a1), (2, .int i2), (3, .int i3)], []))) aMi17 rfl (by rw [hs3]; rfl) ?_
    exact Tf17_b81 hd a0 ha0 a1 ha1 i2 i3 I _ h
  rw [if_neg hs3] at h
  by_cases hs4 : x10_2 = (5 : Int32)
  · rw [if_pos hs4] at h
    refine go_sw (f1 := (70, ([(0, .ref a0), (1, .ref a1), (2, .int i2), (3, .int i3)], []))) aMi17 rfl (by rw [hs4]; rfl) ?_
    refine go_ops aMi17 2 _ (f1 := (72, ([(0, .ref a0), (1, .ref a1), (2, .int i2), (3, .int i3)], [.ref a1, .ref a0]))) rfl ?_
    refine gg_gI aMi17 rfl rfl rfl (gI_of (sh7_z ha1)) ?_
    obtain ⟨r75_4, hxr75_4, h⟩ := Option.bind_eq_some_iff.mp h
    refine gg_cv (as := [.int (I a1 1)]) (r := []) aMi17 rfl rfl rfl aMi12 (Nat.le_of_ble_eq_true rfl) rfl (Nat.le_of_ble_eq_true rfl) (Nat.le_of_ble_eq_true rfl) (by omega) (isK_of (sh0_z ha0)) (Tf12 (by omega) a0 ha0 (I a1 1) I _ hxr75_4) ?_
    show aGo kad d 17 (78, ([(0, .ref a0), (1, .ref a1), (2, .int i2), (3, .int i3)], [.int r75_4.1])) (aMem Z r75_4.2, t) _
    refine go_ops aMi17 2 _ (f1 := (80, ([(0, .ref a0), (1, .ref a1), (2, .int i2), (3, .int i3)], [.int (0 : Int32)]))) rfl ?_
    cases h
    exact go_ret aMi17 rfl aRetI ⟨rfl, rfl⟩
  rw [if_neg hs4] at h
  by_cases hs5 : x10_2 = (6 : Int32)
  · rw [if_pos hs5] at h
    refine go_sw (f1 := (89, ([(0, .ref a0), (1, .ref a1), (2, .int i2), (3, .int i3)], []))) aMi17 rfl (by rw [hs5]; rfl) ?_
    refine go_le (lv1 := []) (aLe_of (show (List.map (fun q => q.1) ([] : ALv)).Nodup from (by show ([] : List Nat).Nodup; decide)) aSubL_nil) ?_
    exact Tf17_b89 hd a0 ha0 a1 ha1 I _ h
  rw [if_neg hs5] at h
  by_cases hs6 : x10_2 = (7 : Int32)
  · rw [if_pos hs6] at h
    refine go_sw (f1 := (89, ([(0, .ref a0), (1, .ref a1), (2, .int i2), (3, .int i3)], []))) aMi17 rfl (by rw [hs6]; rfl) ?_
    refine go_le (lv1 := []) (aLe_of (show (List.map (fun q => q.1) ([] : ALv)).Nodup from (by show ([] : List Nat).Nodup; decide)) aSubL_nil) ?_
    exact Tf17_b89 hd a0 ha0 a1 ha1 I _ h
  rw [if_neg hs6] at h
  by_cases hs7 : x10_2 = (8 : Int32)
  · rw [if_pos hs7] at h
    refine go_sw (f1 := (81, ([(0, .ref a0), (1, .ref a1), (2, .int i2), (3, .int i3)], []))) aMi17 rfl (by rw [hs7]; rfl) ?_
    exact Tf17_b81 hd a0 ha0 a1 ha1 i2 i3 I _ h
  rw [if_neg hs7] at h
  by_cases hs8 : x10_2 = (9 : Int32)
  · rw [if_pos hs8] at h
    refine go_sw (f1 := (81, ([(0, .ref a0), (1, .ref a1), (2, .int i2), (3, .int i3)], []))) aMi17 rfl (by rw [hs8]; rfl) ?_
    exact Tf17_b81 hd a0 ha0 a1 ha1 i2 i3 I _ h
  rw [if_neg hs8] at h
  refine go_swd (tg := 89) (m := 9) aMi17 rfl rfl (by decide) (fun k hk => ?_) ?_
  · match k, hk with
    | 0, _ => exact hs0
    | 1, _ => exact hs1
    | 2, _ => exact hs2
    | 3, _ => exact hs3
    | 4, _ => exact hs4
    | 5, _ => exact hs5
    | 6, _ => exact hs6
    | 7, _ => exact hs7
    | 8, _ => exact hs8
    | k + 9, hk => exact absurd hk (by omega)
  refine go_le (lv1 := []) (aLe_of (show (List.map (fun q => q.1) ([] : ALv)).Nodup from (by show ([] : List Nat).Nodup; decide)) aSubL_nil) ?_
  exact Tf17_b89 hd a0 ha0 a1 ha1 I _ h
-- KernelGym$Assembler.setLabel (II)Z
def f14_b29 (kad : Nat → Nat) (N : Nat) (Z : AZ) (a0 : Nat) (I : AI) : Option (Int32 × AI) :=
  some ((0 : Int32), I)
set_option maxRecDepth 20000 in
theorem Tf14_b29 {kad : Nat → Nat} {N : Nat} {Z : AZ} {d : Nat} {t : Option Nat × (Nat × Nat)} (hd : 1 ≤ d) : ∀ (a0 : Nat) (ha0 : sh0 kad Z a0) (I : AI) (r : Int32 × AI), f14_b29 kad N Z a0 I = some r → aGo kad d 14 (29, ([], [])) (aMem Z I, t) (qI Z t r) := by
  intro a0 ha0 I r h
  unfold f14_b29 at h
  refine go_ops aMi14 1 _ (f1 := (30, ([], [.int (0 : Int32)]))) rfl ?_
  cases h
  exact go_ret aMi14 rfl (aRetZ (Or.inl rfl)) ⟨rfl, rfl⟩
def f14_b75 (kad : Nat → Nat) (N : Nat) (Z : AZ) (a0 : Nat) (I : AI) : Option (Int32 × AI) :=
  some ((1 : Int32), I)
set_option maxRecDepth 20000 in
theorem Tf14_b75 {kad : Nat → Nat} {N : Nat} {Z : AZ} {d : Nat} {t : Option Nat × (Nat × Nat)} (hd : 1 ≤ d) : ∀ (a0 : Nat) (ha0 : sh0 kad Z a0) (I : AI) (r : Int32 × AI), f14_b75 kad N Z a0 I = some r → aGo kad d 14 (75, ([], [])) (aMem Z I, t) (qI Z t r) := by
  intro a0 ha0 I r h
  unfold f14_b75 at h
  refine go_ops aMi14 1 _ (f1 := (76, ([], [.int (1 : Int32)]))) rfl ?_
  cases h
  exact go_ret aMi14 rfl (aRetZ (Or.inr rfl)) ⟨rfl, rfl⟩
def f14 (kad : Nat → Nat) (N : Nat) (Z : AZ) (a0 : Nat) (i1 : Int32) (i2 : Int32) (I : AI) : Option (Int32 × AI) :=
  (f13 kad N Z i1 i2 I).bind fun r2_1 =>
  if r2_1.1 < 0 then
    f14_b29 kad N Z a0 r2_1.2
  else
    if (1220 : Int32) ≤ r2_1.1 then
      f14_b29 kad N Z a0 r2_1.2
    else
      (ixA 1220 r2_1.1).bind fun j24_2 =>
      if (r2_1.2 (a0 + 7) j24_2) = (Int32.ofInt (-1)) then
        if ((r2_1.2) a0 15) < 0 then
          f14_b75 kad N Z a0 r2_1.2
        else
          if (2 : Int32) ≤ ((r2_1.2) a0 15) then
            f14_b75 kad N Z a0 r2_1.2
          else
            (ixA 1220 r2_1.1).bind fun j59_4 =>
            (wI r2_1.2 (a0 + 6) j59_4 ((r2_1.2) a0 15)).bind fun I59_3 =>
            (ixA 2 (I59_3 a0 15)).bind fun j73_5 =>
            (ixA 1220 r2_1.1).bind fun j74_7 =>
            (wI I59_3 (a0 + 7) j74_7 (I59_3 (a0 + 10) j73_5)).bind fun I74_6 =>
            f14_b75 kad N Z a0 I74_6
      else
        f14_b29 kad N Z a0 r2_1.2
set_option maxRecDepth 20000 in
theorem Tf14 {kad : Nat → Nat} {N : Nat} {Z : AZ} {d : Nat} {t : Option Nat × (Nat × Nat)} (hd : 1 ≤ d) : ∀ (a0 : Nat) (ha0 : sh0 kad Z a0) (i1 : Int32) (i2 : Int32) (I : AI) (r : Int32 × AI), f14 kad N Z a0 i1 i2 I = some r → aGo kad d 14 (0, ([(0, .ref a0), (1, .int i1), (2, .int i2)], [])) (aMem Z I, t) (qI Z t r) := by
  intro a0 ha0 i1 i2 I r h
  unfold f14 at h
  refine go_ops aMi14 2 _ (f1 := (2, ([(0, .ref a0), (1, .int i1), (2, .int i2)], [.int i2, .int i1]))) rfl ?_
  obtain ⟨r2_1, hxr2_1, h⟩ := Option.bind_eq_some_iff.mp h
  refine gg_cs (as := [.int i1, .int i2]) (r := []) aMi14 rfl rfl rfl aMi13 rfl (Nat.le_of_ble_eq_true rfl) (Nat.le_of_ble_eq_true rfl) (by omega) (Tf13 (by omega) i1 i2 I _ hxr2_1) ?_
  show aGo kad d 14 (5, ([(0, .ref a0), (1, .int i1), (2, .int i2)], [.int r2_1.1])) (aMem Z r2_1.2, t) _
  refine go_ops aMi14 2 _ (f1 := (7, ([(3, .int r2_1.1), (0, .ref a0), (1, .int i1), (2, .int i2)], [.int r2_1.1]))) rfl ?_
  refine gg_br (b := decide (r2_1.1 < 0)) (tg := 29) (off := 22) aMi14 rfl rfl rfl rfl (fun hb => ?_) (fun hb => ?_)
  · rw [if_pos (of_decide_eq_true hb)] at h
    refine go_le (lv1 := []) (aLe_of (show (List.map (fun q => q.1) ([] : ALv)).Nodup from (by show ([] : List Nat).Nodup; decide)) aSubL_nil) ?_
    exact Tf14_b29 hd a0 ha0 r2_1.2 _ h
  · rw [if_neg (of_decide_eq_false hb)] at h
    refine go_ops aMi14 2 _ (f1 := (12, ([(3, .int r2_1.1), (0, .ref a0), (1, .int i1), (2, .int i2)], [.ref a0, .int r2_1.1]))) rfl ?_
    refine gg_gR (b := (a0 + 7)) aMi14 rfl rfl rfl (gR_of (sh0_z ha0) (sh0_r7 ha0)) ?_
    refine gg_len aMi14 rfl (nL_of (sh0_a7 ha0) (by decide)) ?_
    refine gg_br (b := decide ((1220 : Int32) ≤ r2_1.1)) (tg := 29) (off := 13) aMi14 rfl rfl rfl rfl (fun hb => ?_) (fun hb => ?_)
    · rw [if_pos (of_decide_eq_true hb)] at h
      refine go_le (lv1 := []) (aLe_of (show (List.map (fun q => q.1) ([] : ALv)).Nodup from (by show ([] : List Nat).Nodup; decide)) aSubL_nil) ?_
      exact Tf14_b29 hd a0 ha0 r2_1.2 _ h
    · rw [if_neg (of_decide_eq_false hb)] at h
      refine go_ops aMi14 1 _ (f1 := (20, ([(3, .int r2_1.1), (0, .ref a0), (1, .int i1), (2, .int i2)], [.ref a0]))) rfl ?_
      refine gg_gR (b := (a0 + 7)) aMi14 rfl rfl rfl (gR_of (sh0_z ha0) (sh0_r7 ha0)) ?_
      refine go_ops aMi14 1 _ (f1 := (24, ([(3, .int r2_1.1), (0, .ref a0), (1, .int i1), (2, .int i2)], [.int r2_1.1, .ref (a0 + 7)]))) rfl ?_
      obtain ⟨j24_2, hxj24_2, h⟩ := Option.bind_eq_some_iff.mp h
      refine gg_lI (Or.inl ⟨rfl, rfl⟩) aMi14 rfl (lI_of (sh0_a7 ha0) hxj24_2) ?_
      refine go_ops aMi14 1 _ (f1 := (26, ([(3, .int r2_1.1), (0, .ref a0), (1, .int i1), (2, .int i2)], [.int (Int32.ofInt (-1)), .int (r2_1.2 (a0 + 7) j24_2)]))) rfl ?_
      refine gg_br (b := decide ((r2_1.2 (a0 + 7) j24_2) = (Int32.ofInt (-1)))) (tg := 31) (off := 5) aMi14 rfl rfl rfl rfl (fun hb => ?_) (fun hb => ?_)
      · rw [if_pos (of_decide_eq_true hb)] at h
        refine go_ops aMi14 1 _ (f1 := (32, ([(3, .int r2_1.1), (0, .ref a0), (1, .int i1), (2, .int i2)], [.ref a0]))) rfl ?_
        refine gg_gI aMi14 rfl rfl rfl (gI_of (sh0_z ha0)) ?_
        refine gg_br (b := decide (((r2_1.2) a0 15) < 0)) (tg := 75) (off := 40) aMi14 rfl rfl rfl rfl (fun hb => ?_) (fun hb => ?_)
        · rw [if_pos (of_decide_eq_true hb)] at h
          refine go_le (lv1 := []) (aLe_of (show (List.map (fun q => q.1) ([] : ALv)).Nodup from (by show ([] : List Nat).Nodup; decide)) aSubL_nil) ?_
          exact Tf14_b75 hd a0 ha0 r2_1.2 _ h
        · rw [if_neg (of_decide_eq_false hb)] at h
          refine go_ops aMi14 1 _ (f1 := (39, ([(3, .int r2_1.1), (0, .ref a0), (1, .int i1), (2, .int i2)], [.ref a0]))) rfl ?_
          refine gg_gI aMi14 rfl rfl rfl (gI_of (sh0_z ha0)) ?_
          refine go_ops aMi14 1 _ (f1 := (43, ([(3, .int r2_1.1), (0, .ref a0), (1, .int i1), (2, .int i2)], [.ref a0, .int ((r2_1.2) a0 15)]))) rfl ?_
          refine gg_gR (b := (a0 + 10)) aMi14 rfl rfl rfl (gR_of (sh0_z ha0) (sh0_r10 ha0)) ?_
          refine gg_len aMi14 rfl (nL_of (sh0_a10 ha0) (by decide)) ?_
          refine gg_br (b := decide ((2 : Int32) ≤ ((r2_1.2) a0 15))) (tg := 75) (off := 28) aMi14 rfl rfl rfl rfl (fun hb => ?_) (fun hb => ?_)
          · rw [if_pos (of_decide_eq_true hb)] at h
            refine go_le (lv1 := []) (aLe_of (show (List.map (fun q => q.1) ([] : ALv)).Nodup from (by show ([] : List Nat).Nodup; decide)) aSubL_nil) ?_
            exact Tf14_b75 hd a0 ha0 r2_1.2 _ h
          · rw [if_neg (of_decide_eq_false hb)] at h
            refine go_ops aMi14 1 _ (f1 := (51, ([(3, .int r2_1.1), (0, .ref a0), (1, .int i1), (2, .int i2)], [.ref a0]))) rfl ?_
            refine gg_gR (b := (a0 + 6)) aMi14 rfl rfl rfl (gR_of (sh0_z ha0) (sh0_r6 ha0)) ?_
            refine go_ops aMi14 2 _ (f1 := (56, ([(3, .int r2_1.1), (0, .ref a0), (1, .int i1), (2, .int i2)], [.ref a0, .int r2_1.1, .ref (a0 + 6)]))) rfl ?_
            refine gg_gI aMi14 rfl rfl rfl (gI_of (sh0_z ha0)) ?_
            obtain ⟨j59_4, hxj59_4, h⟩ := Option.bind_eq_some_iff.mp h
            obtain ⟨I59_3, hxI59_3, h⟩ := Option.bind_eq_some_iff.mp h
            refine gg_sI (Or.inl ⟨rfl, rfl⟩) aMi14 rfl (sI_of (sh0_a6 ha0) hxj59_4 hxI59_3) ?_
            refine go_ops aMi14 1 _ (f1 := (61, ([(3, .int r2_1.1), (0, .ref a0), (1, .int i1), (2, .int i2)], [.ref a0]))) rfl ?_
            refine gg_gR (b := (a0 + 7)) aMi14 rfl rfl rfl (gR_of (sh0_z ha0) (sh0_r7 ha0)) ?_
            refine go_ops aMi14 2 _ (f1 := (66, ([(3, .int r2_1.1), (0, .ref a0), (1, .int i1), (2, .int i2)], [.ref a0, .int r2_1.1, .ref (a0 + 7)]))) rfl ?_
            refine gg_gR (b := (a0 + 10)) aMi14 rfl rfl rfl (gR_of (sh0_z ha0) (sh0_r10 ha0)) ?_
            refine go_ops aMi14 1 _ (f1 := (70, ([(3, .int r2_1.1), (0, .ref a0), (1, .int i1), (2, .int i2)], [.ref a0, .ref (a0 + 10), .int r2_1.1, .ref (a0 + 7)]))) rfl ?_
            refine gg_gI aMi14 rfl rfl rfl (gI_of (sh0_z ha0)) ?_
            obtain ⟨j73_5, hxj73_5, h⟩ := Option.bind_eq_some_iff.mp h
            refine gg_lI (Or.inl ⟨rfl, rfl⟩) aMi14 rfl (lI_of (sh0_a10 ha0) hxj73_5) ?_
            obtain ⟨j74_7, hxj74_7, h⟩ := Option.bind_eq_some_iff.mp h
            obtain ⟨I74_6, hxI74_6, h⟩ := Option.bind_eq_some_iff.mp h
            refine gg_sI (Or.inl ⟨rfl, rfl⟩) aMi14 rfl (sI_of (sh0_a7 ha0) hxj74_7 hxI74_6) ?_
            refine go_le (lv1 := []) (aLe_of (show (List.map (fun q => q.1) ([] : ALv)).Nodup from (by show ([] : List Nat).Nodup; decide)) aSubL_nil) ?_
            exact Tf14_b75 hd a0 ha0 I74_6 _ h
      · rw [if_neg (of_decide_eq_false hb)] at h
        refine go_le (lv1 := []) (aLe_of (show (List.map (fun q => q.1) ([] : ALv)).Nodup from (by show ([] : List Nat).Nodup; decide)) aSubL_nil) ?_
        exact Tf14_b29 hd a0 ha0 r2_1.2 _ h
-- KernelGym$Assembler.wordsOf (LKernelGym$Line;)I
def f11_b32 (kad : Nat → Nat) (N : Nat) (Z : AZ) (a0 : Nat) (s0 : Int32) (I : AI) : Option (Int32 × AI) :=
  some (s0, I)
set_option maxRecDepth 20000 in
theorem Tf11_b32 {kad : Nat → Nat} {N : Nat} {Z : AZ} {d : Nat} {t : Option Nat × (Nat × Nat)} (hd : 0 ≤ d) : ∀ (a0 : Nat) (ha0 : sh7 kad Z a0) (s0 : Int32) (I : AI) (r : Int32 × AI), f11_b32 kad N Z a0 s0 I = some r → aGo kad d 11 (32, ([], [.int s0])) (aMem Z I, t) (qI Z t r) := by
  intro a0 ha0 s0 I r h
  unfold f11_b32 at h
  cases h
  exact go_ret aMi11 rfl aRetI ⟨rfl, rfl⟩
def f11 (kad : Nat → Nat) (N : Nat) (Z : AZ) (a0 : Nat) (I : AI) : Option (Int32 × AI) :=
  if ¬ (kad (dzo (I a0 0))) = (kad 2) then
    if ¬ (kad (dzo (I a0 0))) = (kad 3) then
      f11_b32 kad N Z a0 (I a0 1) I
    else
      f11_b32 kad N Z a0 (1 : Int32) I
  else
    f11_b32 kad N Z a0 (2 : Int32) I
set_option maxRecDepth 20000 in
theorem Tf11 {kad : Nat → Nat} {N : Nat} {Z : AZ} {d : Nat} {t : Option Nat × (Nat × Nat)} (hd : 0 ≤ d) : ∀ (a0 : Nat) (ha0 : sh7 kad Z a0) (I : AI) (r : Int32 × AI), f11 kad N Z a0 I = some r → aGo kad d 11 (0, ([(0, .ref a0)], [])) (aMem Z I, t) (qI Z t r) := by
  intro a0 ha0 I r h
  unfold f11 at h
  refine go_ops aMi11 1 _ (f1 := (1, ([(0, .ref a0)], [.ref a0]))) rfl ?_
  refine gg_gR (b := (kad (dzo (I a0 0)))) aMi11 rfl rfl rfl (gR_of2 (sh7_z ha0) (sh7_d ha0 _)) ?_
  refine gg_gs aMi11 rfl rfl ?_
  refine gg_br (b := decide (¬ (kad (dzo (I a0 0))) = (kad 2))) (tg := 14) (off := 7) aMi11 rfl rfl rfl rfl (fun hb => ?_) (fun hb => ?_)
  · rw [if_pos (of_decide_eq_true hb)] at h
    refine go_ops aMi11 1 _ (f1 := (15, ([(0, .ref a0)], [.ref a0]))) rfl ?_
    refine gg_gR (b := (kad (dzo (I a0 0)))) aMi11 rfl rfl rfl (gR_of2 (sh7_z ha0) (sh7_d ha0 _)) ?_
    refine gg_gs aMi11 rfl rfl ?_
    refine gg_br (b := decide (¬ (kad (dzo (I a0 0))) = (kad 3))) (tg := 28) (off := 7) aMi11 rfl rfl rfl rfl (fun hb => ?_) (fun hb => ?_)
    · rw [if_pos (of_decide_eq_true hb)] at h
      refine go_ops aMi11 1 _ (f1 := (29, ([(0, .ref a0)], [.ref a0]))) rfl ?_
      refine gg_gI aMi11 rfl rfl rfl (gI_of (sh7_z ha0)) ?_
      refine go_le (lv1 := []) (aLe_of (show (List.map (fun q => q.1) ([] : ALv)).Nodup from (by show ([] : List Nat).Nodup; decide)) aSubL_nil) ?_
      exact Tf11_b32 hd a0 ha0 (I a0 1) I _ h
    · rw [if_neg (of_decide_eq_false hb)] at h
      refine go_ops aMi11 2 _ (f1 := (32, ([(0, .ref a0)], [.int (1 : Int32)]))) rfl ?_
      refine go_le (lv1 := []) (aLe_of (show (List.map (fun q => q.1) ([] : ALv)).Nodup from (by show ([] : List Nat).Nodup; decide)) aSubL_nil) ?_
      exact Tf11_b32 hd a0 ha0 (1 : Int32) I _ h
  · rw [if_neg (of_decide_eq_false hb)] at h
    refine go_ops aMi11 2 _ (f1 := (32, ([(0, .ref a0)], [.int (2 : Int32)]))) rfl ?_
    refine go_le (lv1 := []) (aLe_of (show (List.map (fun q => q.1) ([] : ALv)).Nodup from (by show ([] : List Nat).Nodup; decide)) aSubL_nil) ?_
    exact Tf11_b32 hd a0 ha0 (2 : Int32) I _ h
-- KernelGym$Assembler.beginMacro (II)I
def f15_b19 (kad : Nat → Nat) (N : Nat) (Z : AZ) (a0 : Nat) (i2 : Int32) (I : AI) : Option (Int32 × AI) :=
  (f7 kad N Z (3 : Int32) i2 I).bind fun r21_1 =>
  some (r21_1.1, r21_1.2)
set_option maxRecDepth 20000 in
theorem Tf15_b19 {kad : Nat → Nat} {N : Nat} {Z : AZ} {d : Nat} {t : Option Nat × (Nat × Nat)} (hd : 1 ≤ d) : ∀ (a0 : Nat) (ha0 : sh0 kad Z a0) (i2 : Int32) (I : AI) (r : Int32 × AI), f15_b19 kad N Z a0 i2 I = some r → aGo kad d 15 (19, ([(2, .int i2)], [])) (aMem Z I, t) (qI Z t r) := by
  intro a0 ha0 i2 I r h
  unfold f15_b19 at h
  refine go_ops aMi15 2 _ (f1 := (21, ([(2, .int i2)], [.int i2, .int (3 : Int32)]))) rfl ?_
  obtain ⟨r21_1, hxr21_1, h⟩ := Option.bind_eq_some_iff.mp h
  refine gg_cs (as := [.int (3 : Int32), .int i2]) (r := []) aMi15 rfl rfl rfl aMi7 rfl (Nat.le_of_ble_eq_true rfl) (Nat.le_of_ble_eq_true rfl) (by omega) (Tf7 (by omega) (3 : Int32) i2 I _ hxr21_1) ?_
  show aGo kad d 15 (24, ([(2, .int i2)], [.int r21_1.1])) (aMem Z r21_1.2, t) _
  cases h
  exact go_ret aMi15 rfl aRetI ⟨rfl, rfl⟩
def f15_b98 (kad : Nat → Nat) (N : Nat) (Z : AZ) (a0 : Nat) (i2 : Int32) (I : AI) : Option (Int32 × AI) :=
  (f7 kad N Z (4 : Int32) i2 I).bind fun r100_1 =>
  some (r100_1.1, r100_1.2)
set_option maxRecDepth 20000 in
theorem Tf15_b98 {kad : Nat → Nat} {N : Nat} {Z : AZ} {d : Nat} {t : Option Nat × (Nat × Nat)} (hd : 1 ≤ d) : ∀ (a0 : Nat) (ha0 : sh0 kad Z a0) (i2 : Int32) (I : AI) (r : Int32 × AI), f15_b98 kad N Z a0 i2 I = some r → aGo kad d 15 (98, ([(2, .int i2)], [])) (aMem Z I, t) (qI Z t r) := by
  intro a0 ha0 i2 I r h
  unfold f15_b98 at h
  refine go_ops aMi15 2 _ (f1 := (100, ([(2, .int i2)], [.int i2, .int (4 : Int32)]))) rfl ?_
  obtain ⟨r100_1, hxr100_1, h⟩ := Option.bind_eq_some_iff.mp h
  refine gg_cs (as := [.int (4 : Int32), .int i2]) (r := []) aMi15 rfl rfl rfl aMi7 rfl (Nat.le_of_ble_eq_true rfl) (Nat.le_of_ble_eq_true rfl) (by omega) (Tf7 (by omega) (4 : Int32) i2 I _ hxr100_1) ?_
  show aGo kad d 15 (103, ([(2, .int i2)], [.int r100_1.1])) (aMem Z r100_1.2, t) _
  cases h
  exact go_ret aMi15 rfl aRetI ⟨rfl, rfl⟩
def f15_b29 (kad : Nat → Nat) (N : Nat) (Z : AZ) : Nat → Nat → Int32 → Int32 → Int32 → AI → Option (Int32 × AI)
  | 0, _, _, _, _, _ => none
  | F + 1, a0, i1, i2, i3, I =>
    if (I a0 0) ≤ i3 then
      f15_b98 kad N Z a0 i2 I
    else
      if (100 : Int32) ≤ i3 then
        f15_b98 kad N Z a0 i2 I
      else
        (ixA 100 i3).bind fun j48_1 =>
        if ¬ (kad (dzo (I (a0 + (12 + j48_1)) 0))) = (kad 6) then
          if ¬ (kad (dzo (I (a0 + (12 + j48_1)) 0))) = (kad 7) then
            f15_b29 kad N Z F a0 i1 i2 (i3 + (1 : Int32)) I
          else
            (ixA 5 i1).bind fun j82_3 =>
            (wI I (a0 + 3) j82_3 i2).bind fun I82_2 =>
            (ixA 5 i1).bind fun j89_5 =>
            (wI I82_2 (a0 + 4) j89_5 i3).bind fun I89_4 =>
            some ((0 : Int32), I89_4)
        else
          (f7 kad N Z (4 : Int32) i3 I).bind fun r64_6 =>
          some (r64_6.1, r64_6.2)
set_option maxRecDepth 20000 in
theorem Tf15_b29 {kad : Nat → Nat} {N : Nat} {Z : AZ} {d : Nat} {t : Option Nat × (Nat × Nat)} (hd : 1 ≤ d) : ∀ (F : Nat) (a0 : Nat) (ha0 : sh0 kad Z a0) (i1 : Int32) (i2 : Int32) (i3 : Int32) (I : AI) (r : Int32 × AI), f15_b29 kad N Z F a0 i1 i2 i3 I = some r → aGo kad d 15 (29, ([(0, .ref a0), (1, .int i1), (2, .int i2), (3, .int i3)], [])) (aMem Z I, t) (qI Z t r) := by
  intro F
  induction F with
  | zero => intro a0 ha0 i1 i2 i3 I r h; cases h
  | succ F ih =>
    intro a0 ha0 i1 i2 i3 I r h
    unfold f15_b29 at h
    refine go_ops aMi15 2 _ (f1 := (31, ([(0, .ref a0), (1, .int i1), (2, .int i2), (3, .int i3)], [.ref a0, .int i3]))) rfl ?_
    refine gg_gI aMi15 rfl rfl rfl (gI_of (sh0_z ha0)) ?_
    refine gg_br (b := decide ((I a0 0) ≤ i3)) (tg := 98) (off := 64) aMi15 rfl rfl rfl rfl (fun hb => ?_) (fun hb => ?_)
    · rw [if_pos (of_decide_eq_true hb)] at h
      refine go_le (lv1 := [(2, .int i2)]) (aLe_of (show (List.map (fun q => q.1) ([(2, .int i2)] : ALv)).Nodup from (by show ([2] : List Nat).Nodup; decide)) (aSubL_cons rfl aSubL_nil)) ?_
      exact Tf15_b98 hd a0 ha0 i2 I _ h
    · rw [if_neg (of_decide_eq_false hb)] at h
      refine go_ops aMi15 2 _ (f1 := (40, ([(0, .ref a0), (1, .int i1), (2, .int i2), (3, .int i3)], [.int (100 : Int32), .int i3]))) rfl ?_
      refine gg_br (b := decide ((100 : Int32) ≤ i3)) (tg := 98) (off := 58) aMi15 rfl rfl rfl rfl (fun hb => ?_) (fun hb => ?_)
      · rw [if_pos (of_decide_eq_true hb)] at h
        refine go_le (lv1 := [(2, .int i2)]) (aLe_of (show (List.map (fun q => q.1) ([(2, .int i2)] : ALv)).Nodup from (by show ([2] : List Nat).Nodup; decide)) (aSubL_cons rfl aSubL_nil)) ?_
        exact Tf15_b98 hd a0 ha0 i2 I _ h
      · rw [if_neg (of_decide_eq_false hb)] at h
        refine go_ops aMi15 1 _ (f1 := (44, ([(0, .ref a0), (1, .int i1), (2, .int i2), (3, .int i3)], [.ref a0]))) rfl ?_
        refine gg_gR (b := (a0 + 2)) aMi15 rfl rfl rfl (gR_of (sh0_z ha0) (sh0_r2 ha0)) ?_
        refine go_ops aMi15 1 _ (f1 := (48, ([(0, .ref a0), (1, .int i1), (2, .int i2), (3, .int i3)], [.int i3, .ref (a0 + 2)]))) rfl ?_
        obtain ⟨j48_1, hxj48_1, h⟩ := Option.bind_eq_some_iff.mp h
        refine gg_lR (b := (a0 + (12 + j48_1))) aMi15 rfl (lR_of (sh0_a2 ha0) (by decide) hxj48_1 (sh0_e2 ha0 j48_1 (ixA_lt hxj48_1))) ?_
        refine gg_gR (b := (kad (dzo (I (a0 + (12 + j48_1)) 0)))) aMi15 rfl rfl rfl (gR_of2 (sh7_z (sh0_f2 ha0 j48_1 (ixA_lt hxj48_1))) (sh7_d (sh0_f2 ha0 j48_1 (ixA_lt hxj48_1)) _)) ?_
        refine go_ops aMi15 2 _ (f1 := (56, ([(4, .ref (kad (dzo (I (a0 + (12 + j48_1)) 0)))), (0, .ref a0), (1, .int i1), (2, .int i2), (3, .int i3)], [.ref (kad (dzo (I (a0 + (12 + j48_1)) 0)))]))) rfl ?_
        refine gg_gs aMi15 rfl rfl ?_
        refine gg_br (b := decide (¬ (kad (dzo (I (a0 + (12 + j48_1)) 0))) = (kad 6))) (tg := 68) (off := 9) aMi15 rfl rfl rfl rfl (fun hb => ?_) (fun hb => ?_)
        · rw [if_pos (of_decide_eq_true hb)] at h
          refine go_ops aMi15 1 _ (f1 := (70, ([(4, .ref (kad (dzo (I (a0 + (12 + j48_1)) 0)))), (0, .ref a0), (1, .int i1), (2, .int i2), (3, .int i3)], [.ref (kad (dzo (I (a0 + (12 + j48_1)) 0)))]))) rfl ?_
          refine gg_gs aMi15 rfl rfl ?_
          refine gg_br (b := decide (¬ (kad (dzo (I (a0 + (12 + j48_1)) 0))) = (kad 7))) (tg := 92) (off := 19) aMi15 rfl rfl rfl rfl (fun hb => ?_) (fun hb => ?_)
          · rw [if_pos (of_decide_eq_true hb)] at h
            refine go_ops aMi15 2 _ (f1 := (29, ([(3, .int (i3 + (1 : Int32))), (4, .ref (kad (dzo (I (a0 + (12 + j48_1)) 0)))), (0, .ref a0), (1, .int i1), (2, .int i2)], []))) rfl ?_
            refine go_le (lv1 := [(0, .ref a0), (1, .int i1), (2, .int i2), (3, .int (i3 + (1 : Int32)))]) (aLe_of (show (List.map (fun q => q.1) ([(0, .ref a0), (1, .int i1), (2, .int i2), (3, .int (i3 + (1 : Int32)))] : ALv)).Nodup from (by show ([0, 1, 2, 3] : List Nat).Nodup; decide)) (aSubL_cons rfl (aSubL_cons rfl (aSubL_cons rfl (aSubL_cons rfl aSubL_nil))))) ?_
            exact ih a0 ha0 i1 i2 (i3 + (1 : Int32)) I _ h
          · rw [if_neg (of_decide_eq_false hb)] at h
            refine go_ops aMi15 1 _ (f1 := (77, ([(4, .ref (kad (dzo (I (a0 + (12 + j48_1)) 0)))), (0, .ref a0), (1, .int i1), (2, .int i2), (3, .int i3)], [.ref a0]))) rfl ?_
            refine gg_gR (b := (a0 + 3)) aMi15 rfl rfl rfl (gR_of (sh0_z ha0) (sh0_r3 ha0)) ?_
            refine go_ops aMi15 2 _ (f1 := (82, ([(4, .ref (kad (dzo (I (a0 + (12 + j48_1)) 0)))), (0, .ref a0), (1, .int i1), (2, .int i2), (3, .int i3)], [.int i2, .int i1, .ref (a0 + 3)]))) rfl ?_
            obtain ⟨j82_3, hxj82_3, h⟩ := Option.bind_eq_some_iff.mp h
            obtain ⟨I82_2, hxI82_2, h⟩ := Option.bind_eq_some_iff.mp h
            refine gg_sI (Or.inl ⟨rfl, rfl⟩) aMi15 rfl (sI_of (sh0_a3 ha0) hxj82_3 hxI82_2) ?_
            refine go_ops aMi15 1 _ (f1 := (84, ([(4, .ref (kad (dzo (I (a0 + (12 + j48_1)) 0)))), (0, .ref a0), (1, .int i1), (2, .int i2), (3, .int i3)], [.ref a0]))) rfl ?_
            refine gg_gR (b := (a0 + 4)) aMi15 rfl rfl rfl (gR_of (sh0_z ha0) (sh0_r4 ha0)) ?_
            refine go_ops aMi15 2 _ (f1 := (89, ([(4, .ref (kad (dzo (I (a0 + (12 + j48_1)) 0)))), (0, .ref a0), (1, .int i1), (2, .int i2), (3, .int i3)], [.int i3, .int i1, .ref (a0 + 4)]))) rfl ?_
            obtain ⟨j89_5, hxj89_5, h⟩ := Option.bind_eq_some_iff.mp h
            obtain ⟨I89_4, hxI89_4, h⟩ := Option.bind_eq_some_iff.mp h
            refine gg_sI (Or.inl ⟨rfl, rfl⟩) aMi15 rfl (sI_of (sh0_a4 ha0) hxj89_5 hxI89_4) ?_
            refine go_ops aMi15 1 _ (f1 := (91, ([(4, .ref (kad (dzo (I (a0 + (12 + j48_1)) 0)))), (0, .ref a0), (1, .int i1), (2, .int i2), (3, .int i3)], [.int (0 : Int32)]))) rfl ?_
            cases h
            exact go_ret aMi15 rfl aRetI ⟨rfl, rfl⟩
        · rw [if_neg (of_decide_eq_false hb)] at h
          refine go_ops aMi15 2 _ (f1 := (64, ([(4, .ref (kad (dzo (I (a0 + (12 + j48_1)) 0)))), (0, .ref a0), (1, .int i1), (2, .int i2), (3, .int i3)], [.int i3, .int (4 : Int32)]))) rfl ?_
          obtain ⟨r64_6, hxr64_6, h⟩ := Option.bind_eq_some_iff.mp h
          refine gg_cs (as := [.int (4 : Int32), .int i3]) (r := []) aMi15 rfl rfl rfl aMi7 rfl (Nat.le_of_ble_eq_true rfl) (Nat.le_of_ble_eq_true rfl) (by omega) (Tf7 (by omega) (4 : Int32) i3 I _ hxr64_6) ?_
          show aGo kad d 15 (67, ([(4, .ref (kad (dzo (I (a0 + (12 + j48_1)) 0)))), (0, .ref a0), (1, .int i1), (2, .int i2), (3, .int i3)], [.int r64_6.1])) (aMem Z r64_6.2, t) _
          cases h
          exact go_ret aMi15 rfl aRetI ⟨rfl, rfl⟩
def f15 (kad : Nat → Nat) (N : Nat) (Z : AZ) (a0 : Nat) (i1 : Int32) (i2 : Int32) (I : AI) : Option (Int32 × AI) :=
  if i1 < 0 then
    f15_b19 kad N Z a0 i2 I
  else
    if (5 : Int32) ≤ i1 then
      f15_b19 kad N Z a0 i2 I
    else
      (ixA 5 i1).bind fun j14_1 =>
      if (I (a0 + 3) j14_1) = (Int32.ofInt (-1)) then
        f15_b29 kad N Z N a0 i1 i2 (i2 + (1 : Int32)) I
      else
        f15_b19 kad N Z a0 i2 I
set_option maxRecDepth 20000 in
theorem Tf15 {kad : Nat → Nat} {N : Nat} {Z : AZ} {d : Nat} {t : Option Nat × (Nat × Nat)} (hd : 1 ≤ d) : ∀ (a0 : Nat) (ha0 : sh0 kad Z a0) (i1 : Int32) (i2 : Int32) (I : AI) (r : Int32 × AI), f15 kad N Z a0 i1 i2 I = some r → aGo kad d 15 (0, ([(0, .ref a0), (1, .int i1), (2, .int i2)], [])) (aMem Z I, t) (qI Z t r) := by
  intro a0 ha0 i1 i2 I r h
  unfold f15 at h
  refine go_ops aMi15 1 _ (f1 := (1, ([(0, .ref a0), (1, .int i1), (2, .int i2)], [.int i1]))) rfl ?_
  refine gg_br (b := decide (i1 < 0)) (tg := 19) (off := 18) aMi15 rfl rfl rfl rfl (fun hb => ?_) (fun hb => ?_)
  · rw [if_pos (of_decide_eq_true hb)] at h
    refine go_le (lv1 := [(2, .int i2)]) (aLe_of (show (List.map (fun q => q.1) ([(2, .int i2)] : ALv)).Nodup from (by show ([2] : List Nat).Nodup; decide)) (aSubL_cons rfl aSubL_nil)) ?_
    exact Tf15_b19 hd a0 ha0 i2 I _ h
  · rw [if_neg (of_decide_eq_false hb)] at h
    refine go_ops aMi15 2 _ (f1 := (6, ([(0, .ref a0), (1, .int i1), (2, .int i2)], [.int (5 : Int32), .int i1]))) rfl ?_
    refine gg_br (b := decide ((5 : Int32) ≤ i1)) (tg := 19) (off := 13) aMi15 rfl rfl rfl rfl (fun hb => ?_) (fun hb => ?_)
    · rw [if_pos (of_decide_eq_true hb)] at h
      refine go_le (lv1 := [(2, .int i2)]) (aLe_of (show (List.map (fun q => q.1) ([(2, .int i2)] : ALv)).Nodup from (by show ([2] : List Nat).Nodup; decide)) (aSubL_cons rfl aSubL_nil)) ?_
      exact Tf15_b19 hd a0 ha0 i2 I _ h
    · rw [if_neg (of_decide_eq_false hb)] at h
      refine go_ops aMi15 1 _ (f1 := (10, ([(0, .ref a0), (1, .int i1), (2, .int i2)], [.ref a0]))) rfl ?_
      refine gg_gR (b := (a0 + 3)) aMi15 rfl rfl rfl (gR_of (sh0_z ha0) (sh0_r3 ha0)) ?_
      refine go_ops aMi15 1 _ (f1 := (14, ([(0, .ref a0), (1, .int i1), (2, .int i2)], [.int i1, .ref (a0 + 3)]))) rfl ?_
      obtain ⟨j14_1, hxj14_1, h⟩ := Option.bind_eq_some_iff.mp h
      refine gg_lI (Or.inl ⟨rfl, rfl⟩) aMi15 rfl (lI_of (sh0_a3 ha0) hxj14_1) ?_
      refine go_ops aMi15 1 _ (f1 := (16, ([(0, .ref a0), (1, .int i1), (2, .int i2)], [.int (Int32.ofInt (-1)), .int (I (a0 + 3) j14_1)]))) rfl ?_
      refine gg_br (b := decide ((I (a0 + 3) j14_1) = (Int32.ofInt (-1)))) (tg := 25) (off := 9) aMi15 rfl rfl rfl rfl (fun hb => ?_) (fun hb => ?_)
      · rw [if_pos (of_decide_eq_true hb)] at h
        refine go_ops aMi15 4 _ (f1 := (29, ([(3, .int (i2 + (1 : Int32))), (0, .ref a0), (1, .int i1), (2, .int i2)], []))) rfl ?_
        refine go_le (lv1 := [(0, .ref a0), (1, .int i1), (2, .int i2), (3, .int (i2 + (1 : Int32)))]) (aLe_of (show (List.map (fun q => q.1) ([(0, .ref a0), (1, .int i1), (2, .int i2), (3, .int (i2 + (1 : Int32)))] : ALv)).Nodup from (by show ([0, 1, 2, 3] : List Nat).Nodup; decide)) (aSubL_cons rfl (aSubL_cons rfl (aSubL_cons rfl (aSubL_cons rfl aSubL_nil))))) ?_
        exact Tf15_b29 hd N a0 ha0 i1 i2 (i2 + (1 : Int32)) I _ h
      · rw [if_neg (of_decide_eq_false hb)] at h
        refine go_le (lv1 := [(2, .int i2)]) (aLe_of (show (List.map (fun q => q.1) ([(2, .int i2)] : ALv)).Nodup from (by show ([2] : List Nat).Nodup; decide)) (aSubL_cons rfl aSubL_nil)) ?_
        exact Tf15_b19 hd a0 ha0 i2 I _ h
-- KernelGym$Assembler.canUse (I)Z
def f16_b33 (kad : Nat → Nat) (N : Nat) (Z : AZ) (a0 : Nat) (s0 : Int32) (I : AI) : Option (Int32 × AI) :=
  if s0 = 0 ∨ s0 = 1 then some (s0, I) else none
set_option maxRecDepth 20000 in
theorem Tf16_b33 {kad : Nat → Nat} {N : Nat} {Z : AZ} {d : Nat} {t : Option Nat × (Nat × Nat)} (hd : 0 ≤ d) : ∀ (a0 : Nat) (ha0 : sh0 kad Z a0) (s0 : Int32) (I : AI) (r : Int32 × AI), f16_b33 kad N Z a0 s0 I = some r → aGo kad d 16 (33, ([], [.int s0])) (aMem Z I, t) (qI Z t r) := by
  intro a0 ha0 s0 I r h
  unfold f16_b33 at h
  split at h
  · rename_i hz
    cases h
    exact go_ret aMi16 rfl (aRetZ hz) ⟨rfl, rfl⟩
  · cases h
def f16_b32 (kad : Nat → Nat) (N : Nat) (Z : AZ) (a0 : Nat) (I : AI) : Option (Int32 × AI) :=
  f16_b33 kad N Z a0 (0 : Int32) I
set_option maxRecDepth 20000 in
theorem Tf16_b32 {kad : Nat → Nat} {N : Nat} {Z : AZ} {d : Nat} {t : Option Nat × (Nat × Nat)} (hd : 0 ≤ d) : ∀ (a0 : Nat) (ha0 : sh0 kad Z a0) (I : AI) (r : Int32 × AI), f16_b32 kad N Z a0 I = some r → aGo kad d 16 (32, ([], [])) (aMem Z I, t) (qI Z t r) := by
  intro a0 ha0 I r h
  unfold f16_b32 at h
  refine go_ops aMi16 1 _ (f1 := (33, ([], [.int (0 : Int32)]))) rfl ?_
  exact Tf16_b33 hd a0 ha0 (0 : Int32) I _ h
def f16 (kad : Nat → Nat) (N : Nat) (Z : AZ) (a0 : Nat) (i1 : Int32) (I : AI) : Option (Int32 × AI) :=
  if i1 < 0 then
    f16_b32 kad N Z a0 I
  else
    if (5 : Int32) ≤ i1 then
      f16_b32 kad N Z a0 I
    else
      (ixA 5 i1).bind fun j14_1 =>
      if (I (a0 + 3) j14_1) = (Int32.ofInt (-1)) then
        f16_b32 kad N Z a0 I
      else
        (ixA 5 i1).bind fun j24_2 =>
        if ¬ (I (a0 + 5) j24_2) = 0 then
          f16_b32 kad N Z a0 I
        else
          f16_b33 kad N Z a0 (1 : Int32) I
set_option maxRecDepth 20000 in
theorem Tf16 {kad : Nat → Nat} {N : Nat} {Z : AZ} {d : Nat} {t : Option Nat × (Nat × Nat)} (hd : 0 ≤ d) : ∀ (a0 : Nat) (ha0 : sh0 kad Z a0) (i1 : Int32) (I : AI) (r : Int32 × AI), f16 kad N Z a0 i1 I = some r → aGo kad d 16 (0, ([(0, .ref a0), (1, .int i1)], [])) (aMem Z I, t) (qI Z t r) := by
  intro a0 ha0 i1 I r h
  unfold f16 at h
  refine go_ops aMi16 1 _ (f1 := (1, ([(0, .ref a0), (1, .int i1)], [.int i1]))) rfl ?_
  refine gg_br (b := decide (i1 < 0)) (tg := 32) (off := 31) aMi16 rfl rfl rfl rfl (fun hb => ?_) (fun hb => ?_)
  · rw [if_pos (of_decide_eq_true hb)] at h
    refine go_le (lv1 := []) (aLe_of (show (List.map (fun q => q.1) ([] : ALv)).Nodup from (by show ([] : List Nat).Nodup; decide)) aSubL_nil) ?_
    exact Tf16_b32 hd a0 ha0 I _ h
  · rw [if_neg (of_decide_eq_false hb)] at h
    refine go_ops aMi16 2 _ (f1 := (6, ([(0, .ref a0), (1, .int i1)], [.int (5 : Int32), .int i1]))) rfl ?_
    refine gg_br (b := decide ((5 : Int32) ≤ i1)) (tg := 32) (off := 26) aMi16 rfl rfl rfl rfl (fun hb => ?_) (fun hb => ?_)
    · rw [if_pos (of_decide_eq_true hb)] at h
      refine go_le (lv1 := []) (aLe_of (show (List.map (fun q => q.1) ([] : ALv)).Nodup from (by show ([] : List Nat).Nodup; decide)) aSubL_nil) ?_
      exact Tf16_b32 hd a0 ha0 I _ h
    · rw [if_neg (of_decide_eq_false hb)] at h
      refine go_ops aMi16 1 _ (f1 := (10, ([(0, .ref a0), (1, .int i1)], [.ref a0]))) rfl ?_
      refine gg_gR (b := (a0 + 3)) aMi16 rfl rfl rfl (gR_of (sh0_z ha0) (sh0_r3 ha0)) ?_
      refine go_ops aMi16 1 _ (f1 := (14, ([(0, .ref a0), (1, .int i1)], [.int i1, .ref (a0 + 3)]))) rfl ?_
      obtain ⟨j14_1, hxj14_1, h⟩ := Option.bind_eq_some_iff.mp h
      refine gg_lI (Or.inl ⟨rfl, rfl⟩) aMi16 rfl (lI_of (sh0_a3 ha0) hxj14_1) ?_
      refine go_ops aMi16 1 _ (f1 := (16, ([(0, .ref a0), (1, .int i1)], [.int (Int32.ofInt (-1)), .int (I (a0 + 3) j14_1)]))) rfl ?_
      refine gg_br (b := decide ((I (a0 + 3) j14_1) = (Int32.ofInt (-1)))) (tg := 32) (off := 16) aMi16 rfl rfl rfl rfl (fun hb => ?_) (fun hb => ?_)
      · rw [if_pos (of_decide_eq_true hb)] at h
        refine go_le (lv1 := []) (aLe_of (show (List.map (fun q => q.1) ([] : ALv)).Nodup from (by show ([] : List Nat).Nodup; decide)) aSubL_nil) ?_
        exact Tf16_b32 hd a0 ha0 I _ h
      · rw [if_neg (of_decide_eq_false hb)] at h
        refine go_ops aMi16 1 _ (f1 := (20, ([(0, .ref a0), (1, .int i1)], [.ref a0]))) rfl ?_
        refine gg_gR (b := (a0 + 5)) aMi16 rfl rfl rfl (gR_of (sh0_z ha0) (sh0_r5 ha0)) ?_
        refine go_ops aMi16 1 _ (f1 := (24, ([(0, .ref a0), (1, .int i1)], [.int i1, .ref (a0 + 5)]))) rfl ?_
        obtain ⟨j24_2, hxj24_2, h⟩ := Option.bind_eq_some_iff.mp h
        refine gg_lI (Or.inr ⟨rfl, rfl⟩) aMi16 rfl (lI_of (sh0_a5 ha0) hxj24_2) ?_
        refine gg_br (b := decide (¬ (I (a0 + 5) j24_2) = 0)) (tg := 32) (off := 7) aMi16 rfl rfl rfl rfl (fun hb => ?_) (fun hb => ?_)
        · rw [if_pos (of_decide_eq_true hb)] at h
          refine go_le (lv1 := []) (aLe_of (show (List.map (fun q => q.1) ([] : ALv)).Nodup from (by show ([] : List Nat).Nodup; decide)) aSubL_nil) ?_
          exact Tf16_b32 hd a0 ha0 I _ h
        · rw [if_neg (of_decide_eq_false hb)] at h
          refine go_ops aMi16 2 _ (f1 := (33, ([(0, .ref a0), (1, .int i1)], [.int (1 : Int32)]))) rfl ?_
          refine go_le (lv1 := []) (aLe_of (show (List.map (fun q => q.1) ([] : ALv)).Nodup from (by show ([] : List Nat).Nodup; decide)) aSubL_nil) ?_
          exact Tf16_b33 hd a0 ha0 (1 : Int32) I _ h
-- KernelGym$Assembler.firstTime (LKernelGym$Line;II)I
def f10_b115 (kad : Nat → Nat) (N : Nat) (Z : AZ) (a0 : Nat) (a1 : Nat) (s0 : Int32) (I : AI) : Option (Int32 × AI) :=
  some (s0, I)
set_option maxRecDepth 20000 in
theorem Tf10_b115 {kad : Nat → Nat} {N : Nat} {Z : AZ} {d : Nat} {t : Option Nat × (Nat × Nat)} (hd : 2 ≤ d) : ∀ (a0 : Nat) (ha0 : sh0 kad Z a0) (a1 : Nat) (ha1 : sh7 kad Z a1) (s0 : Int32) (I : AI) (r : Int32 × AI), f10_b115 kad N Z a0 a1 s0 I = some r → aGo kad d 10 (115, ([], [.int s0])) (aMem Z I, t) (qI Z t r) := by
  intro a0 ha0 a1 ha1 s0 I r h
  unfold f10_b115 at h
  cases h
  exact go_ret aMi10 rfl aRetI ⟨rfl, rfl⟩
def f10_b136 (kad : Nat → Nat) (N : Nat) (Z : AZ) (a0 : Nat) (a1 : Nat) (s0 : Int32) (I : AI) : Option (Int32 × AI) :=
  some (s0, I)
set_option maxRecDepth 20000 in
theorem Tf10_b136 {kad : Nat → Nat} {N : Nat} {Z : AZ} {d : Nat} {t : Option Nat × (Nat × Nat)} (hd : 2 ≤ d) : ∀ (a0 : Nat) (ha0 : sh0 kad Z a0) (a1 : Nat) (ha1 : sh7 kad Z a1) (s0 : Int32) (I : AI) (r : Int32 × AI), f10_b136 kad N Z a0 a1 s0 I = some r → aGo kad d 10 (136, ([], [.int s0])) (aMem Z I, t) (qI Z t r) := by
  intro a0 ha0 a1 ha1 s0 I r h
  unfold f10_b136 at h
  cases h
  exact go_ret aMi10 rfl aRetI ⟨rfl, rfl⟩
def f10_b116 (kad : Nat → Nat) (N : Nat) (Z : AZ) (a0 : Nat) (a1 : Nat) (i2 : Int32) (I : AI) : Option (Int32 × AI) :=
  (f11 kad N Z a1 I).bind fun r118_1 =>
  (f12 kad N Z a0 r118_1.1 r118_1.2).bind fun r121_2 =>
  if r121_2.1 = 0 then
    (f7 kad N Z (1 : Int32) i2 r121_2.2).bind fun r133_3 =>
    f10_b136 kad N Z a0 a1 r133_3.1 r133_3.2
  else
    f10_b136 kad N Z a0 a1 (0 : Int32) r121_2.2
set_option maxRecDepth 20000 in
theorem Tf10_b116 {kad : Nat → Nat} {N : Nat} {Z : AZ} {d : Nat} {t : Option Nat × (Nat × Nat)} (hd : 2 ≤ d) : ∀ (a0 : Nat) (ha0 : sh0 kad Z a0) (a1 : Nat) (ha1 : sh7 kad Z a1) (i2 : Int32) (I : AI) (r : Int32 × AI), f10_b116 kad N Z a0 a1 i2 I = some r → aGo kad d 10 (116, ([(0, .ref a0), (1, .ref a1), (2, .int i2)], [])) (aMem Z I, t) (qI Z t r) := by
  intro a0 ha0 a1 ha1 i2 I r h
  unfold f10_b116 at h
  refine go_ops aMi10 2 _ (f1 := (118, ([(0, .ref a0), (1, .ref a1), (2, .int i2)], [.ref a1, .ref a0]))) rfl ?_
  obtain ⟨r118_1, hxr118_1, h⟩ := Option.bind_eq_some_iff.mp h
  refine gg_cs (as := [.ref a1]) (r := [.ref a0]) aMi10 rfl rfl rfl aMi11 rfl (Nat.le_of_ble_eq_true rfl) (Nat.le_of_ble_eq_true rfl) (by omega) (Tf11 (by omega) a1 ha1 I _ hxr118_1) ?_
  show aGo kad d 10 (121, ([(0, .ref a0), (1, .ref a1), (2, .int i2)], [.int r118_1.1, .ref a0])) (aMem Z r118_1.2, t) _
  obtain ⟨r121_2, hxr121_2, h⟩ := Option.bind_eq_some_iff.mp h
  refine gg_cv (as := [.int r118_1.1]) (r := []) aMi10 rfl rfl rfl aMi12 (Nat.le_of_ble_eq_true rfl) rfl (Nat.le_of_ble_eq_true rfl) (Nat.le_of_ble_eq_true rfl) (by omega) (isK_of (sh0_z ha0)) (Tf12 (by omega) a0 ha0 r118_1.1 r118_1.2 _ hxr121_2) ?_
  show aGo kad d 10 (124, ([(0, .ref a0), (1, .ref a1), (2, .int i2)], [.int r121_2.1])) (aMem Z r121_2.2, t) _
  refine gg_br (b := decide (r121_2.1 = 0)) (tg := 131) (off := 7) aMi10 rfl rfl rfl rfl (fun hb => ?_) (fun hb => ?_)
  · rw [if_pos (of_decide_eq_true hb)] at h
    refine go_ops aMi10 2 _ (f1 := (133, ([(0, .ref a0), (1, .ref a1), (2, .int i2)], [.int i2, .int (1 : Int32)]))) rfl ?_
    obtain ⟨r133_3, hxr133_3, h⟩ := Option.bind_eq_some_iff.mp h
    refine gg_cs (as := [.int (1 : Int32), .int i2]) (r := []) aMi10 rfl rfl rfl aMi7 rfl (Nat.le_of_ble_eq_true rfl) (Nat.le_of_ble_eq_true rfl) (by omega) (Tf7 (by omega) (1 : Int32) i2 r121_2.2 _ hxr133_3) ?_
    show aGo kad d 10 (136, ([(0, .ref a0), (1, .ref a1), (2, .int i2)], [.int r133_3.1])) (aMem Z r133_3.2, t) _
    refine go_le (lv1 := []) (aLe_of (show (List.map (fun q => q.1) ([] : ALv)).Nodup from (by show ([] : List Nat).Nodup; decide)) aSubL_nil) ?_
    exact Tf10_b136 hd a0 ha0 a1 ha1 r133_3.1 r133_3.2 _ h
  · rw [if_neg (of_decide_eq_false hb)] at h
    refine go_ops aMi10 2 _ (f1 := (136, ([(0, .ref a0), (1, .ref a1), (2, .int i2)], [.int (0 : Int32)]))) rfl ?_
    refine go_le (lv1 := []) (aLe_of (show (List.map (fun q => q.1) ([] : ALv)).Nodup from (by show ([] : List Nat).Nodup; decide)) aSubL_nil) ?_
    exact Tf10_b136 hd a0 ha0 a1 ha1 (0 : Int32) r121_2.2 _ h
def f10_b173 (kad : Nat → Nat) (N : Nat) (Z : AZ) (a0 : Nat) (a1 : Nat) (s0 : Int32) (I : AI) : Option (Int32 × AI) :=
  some (s0, I)
set_option maxRecDepth 20000 in
theorem Tf10_b173 {kad : Nat → Nat} {N : Nat} {Z : AZ} {d : Nat} {t : Option Nat × (Nat × Nat)} (hd : 2 ≤ d) : ∀ (a0 : Nat) (ha0 : sh0 kad Z a0) (a1 : Nat) (ha1 : sh7 kad Z a1) (s0 : Int32) (I : AI) (r : Int32 × AI), f10_b173 kad N Z a0 a1 s0 I = some r → aGo kad d 10 (173, ([], [.int s0])) (aMem Z I, t) (qI Z t r) := by
  intro a0 ha0 a1 ha1 s0 I r h
  unfold f10_b173 at h
  cases h
  exact go_ret aMi10 rfl aRetI ⟨rfl, rfl⟩
def f10 (kad : Nat → Nat) (N : Nat) (Z : AZ) (a0 : Nat) (a1 : Nat) (i2 : Int32) (i3 : Int32) (I : AI) : Option (Int32 × AI) :=
  (wI I a0 13 ((I a0 13) + (1 : Int32))).bind fun I7_1 =>
  if (I7_1 a0 13) ≤ (300 : Int32) then
    (orI kad (kad (dzo (I7_1 a1 0)))).bind fun x33_2 =>
    (swI kad Z x33_2).bind fun x36_3 =>
    if x36_3 = (1 : Int32) then
      (wI I7_1 a0 15 (I7_1 a1 1)).bind fun I89_4 =>
      some ((0 : Int32), I89_4)
    else
    if x36_3 = (2 : Int32) then
      (f14 kad N Z a0 (I7_1 a1 1) i3 I7_1).bind fun r100_5 =>
      if r100_5.1 = 0 then
        (f7 kad N Z (2 : Int32) i2 r100_5.2).bind fun r112_6 =>
        f10_b115 kad N Z a0 a1 r112_6.1 r112_6.2
      else
        f10_b115 kad N Z a0 a1 (0 : Int32) r100_5.2
    else
    if x36_3 = (3 : Int32) then
      f10_b116 kad N Z a0 a1 i2 I7_1
    else
    if x36_3 = (4 : Int32) then
      f10_b116 kad N Z a0 a1 i2 I7_1
    else
    if x36_3 = (5 : Int32) then
      f10_b116 kad N Z a0 a1 i2 I7_1
    else
    if x36_3 = (6 : Int32) then
      (f15 kad N Z a0 (I7_1 a1 1) i2 I7_1).bind fun r143_7 =>
      some (r143_7.1, r143_7.2)
    else
    if x36_3 = (7 : Int32) then
      (f7 kad N Z (4 : Int32) i2 I7_1).bind fun r149_8 =>
      some (r149_8.1, r149_8.2)
    else
    if x36_3 = (8 : Int32) then
      (f16 kad N Z a0 (I7_1 a1 1) I7_1).bind fun r158_9 =>
      if r158_9.1 = 0 then
        (f7 kad N Z (5 : Int32) i2 r158_9.2).bind fun r170_10 =>
        f10_b173 kad N Z a0 a1 r170_10.1 r170_10.2
      else
        f10_b173 kad N Z a0 a1 (0 : Int32) r158_9.2
    else
      some ((0 : Int32), I7_1)
  else
    (f7 kad N Z (1 : Int32) i2 I7_1).bind fun r22_11 =>
    some (r22_11.1, r22_11.2)
set_option maxRecDepth 20000 in
theorem Tf10 {kad : Nat → Nat} {N : Nat} {Z : AZ} {d : Nat} {t : Option Nat × (Nat × Nat)} (hd : 2 ≤ d) : ∀ (a0 : Nat) (ha0 : sh0 kad Z a0) (a1 : Nat) (ha1 : sh7 kad Z a1) (i2 : Int32) (i3 : Int32) (I : AI) (r : Int32 × AI), f10 kad N Z a0 a1 i2 i3 I = some r → aGo kad d 10 (0, ([(0, .ref a0), (1, .ref a1), (2, .int i2), (3, .int i3)], [])) (aMem Z I, t) (qI Z t r) := by
  intro a0 ha0 a1 ha1 i2 i3 I r h
  unfold f10 at h
  refine go_ops aMi10 2 _ (f1 := (2, ([(0, .ref a0), (1, .ref a1), (2, .int i2), (3, .int i3)], [.ref a0, .ref a0]))) rfl ?_
  refine gg_gI aMi10 rfl rfl rfl (gI_of (sh0_z ha0)) ?_
  refine go_ops aMi10 2 _ (f1 := (7, ([(0, .ref a0), (1, .ref a1), (2, .int i2), (3, .int i3)], [.int ((I a0 13) + (1 : Int32)), .ref a0]))) rfl ?_
  obtain ⟨I7_1, hxI7_1, h⟩ := Option.bind_eq_some_iff.mp h
  refine gg_pI aMi10 rfl rfl rfl rfl (by decide) (pI_of (sh0_z ha0) hxI7_1) ?_
  refine go_ops aMi10 1 _ (f1 := (11, ([(0, .ref a0), (1, .ref a1), (2, .int i2), (3, .int i3)], [.ref a0]))) rfl ?_
  refine gg_gI aMi10 rfl rfl rfl (gI_of (sh0_z ha0)) ?_
  refine go_ops aMi10 1 _ (f1 := (17, ([(0, .ref a0), (1, .ref a1), (2, .int i2), (3, .int i3)], [.int (300 : Int32), .int (I7_1 a0 13)]))) rfl ?_
  refine gg_br (b := decide ((I7_1 a0 13) ≤ (300 : Int32))) (tg := 26) (off := 9) aMi10 rfl rfl rfl rfl (fun hb => ?_) (fun hb => ?_)
  · rw [if_pos (of_decide_eq_true hb)] at h
    refine gg_gs aMi10 rfl rfl ?_
    refine go_ops aMi10 1 _ (f1 := (30, ([(0, .ref a0), (1, .ref a1), (2, .int i2), (3, .int i3)], [.ref a1, .ref (kad 9)]))) rfl ?_
    refine gg_gR (b := (kad (dzo (I7_1 a1 0)))) aMi10 rfl rfl rfl (gR_of2 (sh7_z ha1) (sh7_d ha1 _)) ?_
    obtain ⟨x33_2, hxx33_2, h⟩ := Option.bind_eq_some_iff.mp h
    refine gg_or aMi10 rfl rfl (Nat.le_of_ble_eq_true rfl) hxx33_2 ?_
    obtain ⟨x36_3, hxx36_3, h⟩ := Option.bind_eq_some_iff.mp h
    refine gg_sw aMi10 rfl hxx36_3 ?_
    by_cases hs0 : x36_3 = (1 : Int32)
    · rw [if_pos hs0] at h
      refine go_sw (f1 := (84, ([(0, .ref a0), (1, .ref a1), (2, .int i2), (3, .int i3)], []))) aMi10 rfl (by rw [hs0]; rfl) ?_
      refine go_ops aMi10 2 _ (f1 := (86, ([(0, .ref a0), (1, .ref a1), (2, .int i2), (3, .int i3)], [.ref a1, .ref a0]))) rfl ?_
      refine gg_gI aMi10 rfl rfl rfl (gI_of (sh7_z ha1)) ?_
      obtain ⟨I89_4, hxI89_4, h⟩ := Option.bind_eq_some_iff.mp h
      refine gg_pI aMi10 rfl rfl rfl rfl (by decide) (pI_of (sh0_z ha0) hxI89_4) ?_
      refine go_ops aMi10 1 _ (f1 := (93, ([(0, .ref a0), (1, .ref a1), (2, .int i2), (3, .int i3)], [.int (0 : Int32)]))) rfl ?_
      cases h
      exact go_ret aMi10 rfl aRetI ⟨rfl, rfl⟩
    rw [if_neg hs0] at h
    by_cases hs1 : x36_3 = (2 : Int32)
    · rw [if_pos hs1] at h
      refine go_sw (f1 := (94, ([(0, .ref a0), (1, .ref a1), (2, .int i2), (3, .int i3)], []))) aMi10 rfl (by rw [hs1]; rfl) ?_
      refine go_ops aMi10 2 _ (f1 := (96, ([(0, .ref a0), (1, .ref a1), (2, .int i2), (3, .int i3)], [.ref a1, .ref a0]))) rfl ?_
      refine gg_gI aMi10 rfl rfl rfl (gI_of (sh7_z ha1)) ?_
      refine go_ops aMi10 1 _ (f1 := (100, ([(0, .ref a0), (1, .ref a1), (2, .int i2), (3, .int i3)], [.int i3, .int (I7_1 a1 1), .ref a0]))) rfl ?_
      obtain ⟨r100_5, hxr100_5, h⟩ := Option.bind_eq_some_iff.mp h
      refine gg_cv (as := [.int (I7_1 a1 1), .int i3]) (r := []) aMi10 rfl rfl rfl aMi14 (Nat.le_of_ble_eq_true rfl) rfl (Nat.le_of_ble_eq_true rfl) (Nat.le_of_ble_eq_true rfl) (by omega) (isK_of (sh0_z ha0)) (Tf14 (by omega) a0 ha0 (I7_1 a1 1) i3 I7_1 _ hxr100_5) ?_
      show aGo kad d 10 (103, ([(0, .ref a0), (1, .ref a1), (2, .int i2), (3, .int i3)], [.int r100_5.1])) (aMem Z r100_5.2, t) _
      refine gg_br (b := decide (r100_5.1 = 0)) (tg := 110) (off := 7) aMi10 rfl rfl rfl rfl (fun hb => ?_) (fun hb => ?_)
      · rw [if_pos (of_decide_eq_true hb)] at h
        refine go_ops aMi10 2 _ (f1 := (112, ([(0, .ref a0), (1, .ref a1), (2, .int i2), (3, .int i3)], [.int i2, .int (2 : Int32)]))) rfl ?_
        obtain ⟨r112_6, hxr112_6, h⟩ := Option.bind_eq_some_iff.mp h
        refine gg_cs (as := [.int (2 : Int32), .int i2]) (r := []) aMi10 rfl rfl rfl aMi7 rfl (Nat.le_of_ble_eq_true rfl) (Nat.le_of_ble_eq_true rfl) (by omega) (Tf7 (by omega) (2 : Int32) i2 r100_5.2 _ hxr112_6) ?_
        show aGo kad d 10 (115, ([(0, .ref a0), (1, .ref a1), (2, .int i2), (3, .int i3)], [.int r112_6.1])) (aMem Z r112_6.2, t) _
        refine go_le (lv1 := []) (aLe_of (show (List.map (fun q => q.1) ([] : ALv)).Nodup from (by show ([] : List Nat).Nodup; decide)) aSubL_nil) ?_
        exact Tf10_b115 hd a0 ha0 a1 ha1 r112_6.1 r112_6.2 _ h
      · rw [if_neg (of_decide_eq_false hb)] at h
        refine go_ops aMi10 2 _ (f1 := (115, ([(0, .ref a0), (1, .ref a1), (2, .int i2), (3, .int i3)], [.int (0 : Int32)]))) rfl ?_
        refine go_le (lv1 := []) (aLe_of (show (List.map (fun q => q.1) ([] : ALv)).Nodup from (by show ([] : List Nat).Nodup; decide)) aSubL_nil) ?_
        exact Tf10_b115 hd a0 ha0 a1 ha1 (0 : Int32) r100_5.2 _ h
    rw [if_neg hs1] at h
    by_cases hs2 : x36_3 = (3 : Int32)
    · rw [if_pos hs2] at h
      refine go_sw (f1 := (116, ([(0, .ref a0), (1, .ref a1), (2, .int i2), (3, .int i3)], []))) aMi10 rfl (by rw [hs2]; rfl) ?_
      refine go_le (lv1 := [(0, .ref a0), (1, .ref a1), (2, .int i2)]) (aLe_of (show (List.map (fun q => q.1) ([(0, .ref a0), (1, .ref a1), (2, .int i2)] : ALv)).Nodup from (by show ([0, 1, 2] : List Nat).Nodup; decide)) (aSubL_cons rfl (aSubL_cons rfl (aSubL_cons rfl aSubL_nil)))) ?_
      exact Tf10_b116 hd a0 ha0 a1 ha1 i2 I7_1 _ h
    rw [if_neg hs2] at h
    by_cases hs3 : x36_3 = (4 : Int32)
    · rw [if_pos hs3] at h
      refine go_sw (f1 := (116, ([(0, .ref a0), (1, .ref a1), (2, .int i2), (3, .int i3)], []))) aMi10 rfl (by rw [hs3]; rfl) ?_
      refine go_le (lv1 := [(0, .ref a0), (1, .ref a1), (2, .int i2)]) (aLe_of (show (List.map (fun q => q.1) ([(0, .ref a0), (1, .ref a1), (2, .int i2)] : ALv)).Nodup from (by show ([0, 1, 2] : List Nat).Nodup; decide)) (aSubL_cons rfl (aSubL_cons rfl (aSubL_cons rfl aSubL_nil)))) ?_
      exact Tf10_b116 hd a0 ha0 a1 ha1 i2 I7_1 _ h
    rw [if_neg hs3] at h
    by_cases hs4 : x36_3 = (5 : Int32)
    · rw [if_pos hs4] at h
      refine go_sw (f1 := (116, ([(0, .ref a0), (1, .ref a1), (2, .int i2), (3, .int i3)], []))) aMi10 rfl (by rw [hs4]; rfl) ?_
      refine go_le (lv1 := [(0, .ref a0), (1, .ref a1), (2, .int i2)]) (aLe_of (show (List.map (fun q => q.1) ([(0, .ref a0), (1, .ref a1), (2, .int i2)] : ALv)).Nodup from (by show ([0, 1, 2] : List Nat).Nodup; decide)) (aSubL_cons rfl (aSubL_cons rfl (aSubL_cons rfl aSubL_nil)))) ?_
      exact Tf10_b116 hd a0 ha0 a1 ha1 i2 I7_1 _ h
    rw [if_neg hs4] at h
    by_cases hs5 : x36_3 = (6 : Int32)
    · rw [if_pos hs5] at h
      refine go_sw (f1 := (137, ([(0, .ref a0), (1, .ref a1), (2, .int i2), (3, .int i3)], []))) aMi10 rfl (by rw [hs5]; rfl) ?_
      refine go_ops aMi10 2 _ (f1 := (139, ([(0, .ref a0), (1, .ref a1), (2, .int i2), (3, .int i3)], [.ref a1, .ref a0]))) rfl ?_
      refine gg_gI aMi10 rfl rfl rfl (gI_of (sh7_z ha1)) ?_
      refine go_ops aMi10 1 _ (f1 := (143, ([(0, .ref a0), (1, .ref a1), (2, .int i2), (3, .int i3)], [.int i2, .int (I7_1 a1 1), .ref a0]))) rfl ?_
      obtain ⟨r143_7, hxr143_7, h⟩ := Option.bind_eq_some_iff.mp h
      refine gg_cv (as := [.int (I7_1 a1 1), .int i2]) (r := []) aMi10 rfl rfl rfl aMi15 (Nat.le_of_ble_eq_true rfl) rfl (Nat.le_of_ble_eq_true rfl) (Nat.le_of_ble_eq_true rfl) (by omega) (isK_of (sh0_z ha0)) (Tf15 (by omega) a0 ha0 (I7_1 a1 1) i2 I7_1 _ hxr143_7) ?_
      show aGo kad d 10 (146, ([(0, .ref a0), (1, .ref a1), (2, .int i2), (3, .int i3)], [.int r143_7.1])) (aMem Z r143_7.2, t) _
      cases h
      exact go_ret aMi10 rfl aRetI ⟨rfl, rfl⟩
    rw [if_neg hs5] at h
    by_cases hs6 : x36_3 = (7 : Int32)
    · rw [if_pos hs6] at h
      refine go_sw (f1 := (147, ([(0, .ref a0), (1, .ref a1), (2, .int i2), (3, .int i3)], []))) aMi10 rfl (by rw [hs6]; rfl) ?_
      refine go_ops aMi10 2 _ (f1 := (149, ([(0, .ref a0), (1, .ref a1), (2, .int i2), (3, .int i3)], [.int i2, .int (4 : Int32)]))) rfl ?_
      obtain ⟨r149_8, hxr149_8, h⟩ := Option.bind_eq_some_iff.mp h
      refine gg_cs (as := [.int (4 : Int32), .int i2]) (r := []) aMi10 rfl rfl rfl aMi7 rfl (Nat.le_of_ble_eq_true rfl) (Nat.le_of_ble_eq_true rfl) (by omega) (Tf7 (by omega) (4 : Int32) i2 I7_1 _ hxr149_8) ?_
      show aGo kad d 10 (152, ([(0, .ref a0), (1, .ref a1), (2, .int i2), (3, .int i3)], [.int r149_8.1])) (aMem Z r149_8.2, t) _
      cases h
      exact go_ret aMi10 rfl aRetI ⟨rfl, rfl⟩
    rw [if_neg hs6] at h
    by_cases hs7 : x36_3 = (8 : Int32)
    · rw [if_pos hs7] at h
      refine go_sw (f1 := (153, ([(0, .ref a0), (1, .ref a1), (2, .int i2), (3, .int i3)], []))) aMi10 rfl (by rw [hs7]; rfl) ?_
      refine go_ops aMi10 2 _ (f1 := (155, ([(0, .ref a0), (1, .ref a1), (2, .int i2), (3, .int i3)], [.ref a1, .ref a0]))) rfl ?_
      refine gg_gI aMi10 rfl rfl rfl (gI_of (sh7_z ha1)) ?_
      obtain ⟨r158_9, hxr158_9, h⟩ := Option.bind_eq_some_iff.mp h
      refine gg_cv (as := [.int (I7_1 a1 1)]) (r := []) aMi10 rfl rfl rfl aMi16 (Nat.le_of_ble_eq_true rfl) rfl (Nat.le_of_ble_eq_true rfl) (Nat.le_of_ble_eq_true rfl) (by omega) (isK_of (sh0_z ha0)) (Tf16 (by omega) a0 ha0 (I7_1 a1 1) I7_1 _ hxr158_9) ?_
      show aGo kad d 10 (161, ([(0, .ref a0), (1, .ref a1), (2, .int i2), (3, .int i3)], [.int r158_9.1])) (aMem Z r158_9.2, t) _
      refine gg_br (b := decide (r158_9.1 = 0)) (tg := 168) (off := 7) aMi10 rfl rfl rfl rfl (fun hb => ?_) (fun hb => ?_)
      · rw [if_pos (of_decide_eq_true hb)] at h
        refine go_ops aMi10 2 _ (f1 := (170, ([(0, .ref a0), (1, .ref a1), (2, .int i2), (3, .int i3)], [.int i2, .int (5 : Int32)]))) rfl ?_
        obtain ⟨r170_10, hxr170_10, h⟩ := Option.bind_eq_some_iff.mp h
        refine gg_cs (as := [.int (5 : Int32), .int i2]) (r := []) aMi10 rfl rfl rfl aMi7 rfl (Nat.le_of_ble_eq_true rfl) (Nat.le_of_ble_eq_true rfl) (by omega) (Tf7 (by omega) (5 : Int32) i2 r158_9.2 _ hxr170_10) ?_
        show aGo kad d 10 (173, ([(0, .ref a0), (1, .ref a1), (2, .int i2), (3, .int i3)], [.int r170_10.1])) (aMem Z r170_10.2, t) _
        refine go_le (lv1 := []) (aLe_of (show (List.map (fun q => q.1) ([] : ALv)).Nodup from (by show ([] : List Nat).Nodup; decide)) aSubL_nil) ?_
        exact Tf10_b173 hd a0 ha0 a1 ha1 r170_10.1 r170_10.2 _ h
      · rw [if_neg (of_decide_eq_false hb)] at h
        refine go_ops aMi10 2 _ (f1 := (173, ([(0, .ref a0), (1, .ref a1), (2, .int i2), (3, .int i3)], [.int (0 : Int32)]))) rfl ?_
        refine go_le (lv1 := []) (aLe_of (show (List.map (fun q => q.1) ([] : ALv)).Nodup from (by show ([] : List Nat).Nodup; decide)) aSubL_nil) ?_
        exact Tf10_b173 hd a0 ha0 a1 ha1 (0 : Int32) r158_9.2 _ h
    rw [if_neg hs7] at h
    refine go_swd (tg := 174) (m := 8) aMi10 rfl rfl (by decide) (fun k hk => ?_) ?_
    · match k, hk with
      | 0, _ => exact hs0
      | 1, _ => exact hs1
      | 2, _ => exact hs2
      | 3, _ => exact hs3
      | 4, _ => exact hs4
      | 5, _ => exact hs5
      | 6, _ => exact hs6
      | 7, _ => exact hs7
      | k + 8, hk => exact absurd hk (by omega)
    refine go_ops aMi10 1 _ (f1 := (175, ([(0, .ref a0), (1, .ref a1), (2, .int i2), (3, .int i3)], [.int (0 : Int32)]))) rfl ?_
    cases h
    exact go_ret aMi10 rfl aRetI ⟨rfl, rfl⟩
  · rw [if_neg (of_decide_eq_false hb)] at h
    refine go_ops aMi10 2 _ (f1 := (22, ([(0, .ref a0), (1, .ref a1), (2, .int i2), (3, .int i3)], [.int i2, .int (1 : Int32)]))) rfl ?_
    obtain ⟨r22_11, hxr22_11, h⟩ := Option.bind_eq_some_iff.mp h
    refine gg_cs (as := [.int (1 : Int32), .int i2]) (r := []) aMi10 rfl rfl rfl aMi7 rfl (Nat.le_of_ble_eq_true rfl) (Nat.le_of_ble_eq_true rfl) (by omega) (Tf7 (by omega) (1 : Int32) i2 I7_1 _ hxr22_11) ?_
    show aGo kad d 10 (25, ([(0, .ref a0), (1, .ref a1), (2, .int i2), (3, .int i3)], [.int r22_11.1])) (aMem Z r22_11.2, t) _
    cases h
    exact go_ret aMi10 rfl aRetI ⟨rfl, rfl⟩
