-- KernelGym$Assembler.removeLines ()I
def f1 (kad : Nat → Nat) (N : Nat) (Z : AZ) (a0 : Nat) (I : AI) : Option (Int32 × AI) :=
  (gI Z I 0 0 a0).bind fun x1_1 =>
  (pI Z I 0 0 a0 (0 : Int32)).bind fun I7_2 =>
  some (x1_1, I7_2)
theorem Tf1 {kad : Nat → Nat} {N : Nat} {Z : AZ} {d : Nat} {t : Option Nat × (Nat × Nat)} (hd : 0 ≤ d) : ∀ (a0 : Nat) (I : AI) (r : Int32 × AI), f1 kad N Z a0 I = some r → aGo kad d 1 (0, ([(0, .ref a0)], [])) (aMem Z I, t) (qI Z t r) := by
  intro a0 I r h
  unfold f1 at h
  refine go_ops aMi1 1 _ (f1 := (1, ([(0, .ref a0)], [.ref a0]))) rfl ?_
  obtain ⟨x1_1, hxx1_1, h⟩ := Option.bind_eq_some_iff.mp h
  refine gg_gI aMi1 rfl rfl rfl hxx1_1 ?_
  refine go_ops aMi1 3 _ (f1 := (7, ([(1, .int x1_1), (0, .ref a0)], [.int (0 : Int32), .ref a0]))) rfl ?_
  obtain ⟨I7_2, hxI7_2, h⟩ := Option.bind_eq_some_iff.mp h
  refine gg_pI aMi1 rfl rfl rfl rfl (by decide) hxI7_2 ?_
  refine go_ops aMi1 1 _ (f1 := (11, ([(1, .int x1_1), (0, .ref a0)], [.int x1_1]))) rfl ?_
  cases h
  exact go_ret aMi1 rfl aRetI ⟨rfl, rfl⟩
-- KernelGym$Assembler.add (LKernelGym$Does;III)I
def f2_b67 (kad : Nat → Nat) (N : Nat) (Z : AZ) (a0 : Nat) (I : AI) : Option (Int32 × AI) :=
  (gI Z I 0 0 a0).bind fun x68_1 =>
  some (x68_1, I)
theorem Tf2_b67 {kad : Nat → Nat} {N : Nat} {Z : AZ} {d : Nat} {t : Option Nat × (Nat × Nat)} (hd : 0 ≤ d) : ∀ (a0 : Nat) (I : AI) (r : Int32 × AI), f2_b67 kad N Z a0 I = some r → aGo kad d 2 (67, ([(0, .ref a0)], [])) (aMem Z I, t) (qI Z t r) := by
  intro a0 I r h
  unfold f2_b67 at h
  refine go_ops aMi2 1 _ (f1 := (68, ([(0, .ref a0)], [.ref a0]))) rfl ?_
  obtain ⟨x68_1, hxx68_1, h⟩ := Option.bind_eq_some_iff.mp h
  refine gg_gI aMi2 rfl rfl rfl hxx68_1 ?_
  cases h
  exact go_ret aMi2 rfl aRetI ⟨rfl, rfl⟩
def f2 (kad : Nat → Nat) (N : Nat) (Z : AZ) (a0 : Nat) (a1 : Nat) (i2 : Int32) (i3 : Int32) (i4 : Int32) (I : AI) : Option (Int32 × AI) :=
  (gI Z I 0 0 a0).bind fun x1_1 =>
  if (100 : Int32) ≤ x1_1 then
    f2_b67 kad N Z a0 I
  else
    (gR Z I 0 2 a0).bind fun b10_2 =>
    (gI Z I 0 0 a0).bind fun x14_3 =>
    (lR Z I b10_2 x14_3).bind fun b17_4 =>
    (pR Z I 7 0 b17_4 a1).bind fun I23_5 =>
    (pI Z I23_5 7 1 b17_4 i2).bind fun I29_6 =>
    (pI Z I29_6 7 2 b17_4 i3).bind fun I35_7 =>
    (pI Z I35_7 7 3 b17_4 i4).bind fun I42_8 =>
    (pI Z I42_8 7 4 b17_4 (0 : Int32)).bind fun I48_9 =>
    (pI Z I48_9 7 5 b17_4 (0 : Int32)).bind fun I54_10 =>
    (gI Z I54_10 0 0 a0).bind fun x59_11 =>
    (pI Z I54_10 0 0 a0 (x59_11 + (1 : Int32))).bind fun I64_12 =>
    f2_b67 kad N Z a0 I64_12
theorem Tf2 {kad : Nat → Nat} {N : Nat} {Z : AZ} {d : Nat} {t : Option Nat × (Nat × Nat)} (hd : 0 ≤ d) : ∀ (a0 : Nat) (a1 : Nat) (i2 : Int32) (i3 : Int32) (i4 : Int32) (I : AI) (r : Int32 × AI), f2 kad N Z a0 a1 i2 i3 i4 I = some r → aGo kad d 2 (0, ([(0, .ref a0), (1, .ref a1), (2, .int i2), (3, .int i3), (4, .int i4)], [])) (aMem Z I, t) (qI Z t r) := by
  intro a0 a1 i2 i3 i4 I r h
  unfold f2 at h
  refine go_ops aMi2 1 _ (f1 := (1, ([(0, .ref a0), (1, .ref a1), (2, .int i2), (3, .int i3), (4, .int i4)], [.ref a0]))) rfl ?_
  obtain ⟨x1_1, hxx1_1, h⟩ := Option.bind_eq_some_iff.mp h
  refine gg_gI aMi2 rfl rfl rfl hxx1_1 ?_
  refine go_ops aMi2 1 _ (f1 := (6, ([(0, .ref a0), (1, .ref a1), (2, .int i2), (3, .int i3), (4, .int i4)], [.int (100 : Int32), .int x1_1]))) rfl ?_
  refine gg_br (b := decide ((100 : Int32) ≤ x1_1)) (tg := 67) (off := 61) aMi2 rfl rfl rfl rfl (fun hb => ?_) (fun hb => ?_)
  · rw [if_pos (of_decide_eq_true hb)] at h
    refine go_le (lv1 := [(0, .ref a0)]) (aLe_of (show (List.map (fun q => q.1) ([(0, .ref a0)] : ALv)).Nodup from (by show ([0] : List Nat).Nodup; decide)) (aSubL_cons rfl aSubL_nil)) ?_
    exact Tf2_b67 hd a0 I _ h
  · rw [if_neg (of_decide_eq_false hb)] at h
    refine go_ops aMi2 1 _ (f1 := (10, ([(0, .ref a0), (1, .ref a1), (2, .int i2), (3, .int i3), (4, .int i4)], [.ref a0]))) rfl ?_
    obtain ⟨b10_2, hxb10_2, h⟩ := Option.bind_eq_some_iff.mp h
    refine gg_gR aMi2 rfl rfl rfl hxb10_2 ?_
    refine go_ops aMi2 1 _ (f1 := (14, ([(0, .ref a0), (1, .ref a1), (2, .int i2), (3, .int i3), (4, .int i4)], [.ref a0, .ref b10_2]))) rfl ?_
    obtain ⟨x14_3, hxx14_3, h⟩ := Option.bind_eq_some_iff.mp h
    refine gg_gI aMi2 rfl rfl rfl hxx14_3 ?_
    obtain ⟨b17_4, hxb17_4, h⟩ := Option.bind_eq_some_iff.mp h
    refine gg_lR aMi2 rfl hxb17_4 ?_
    refine go_ops aMi2 3 _ (f1 := (23, ([(5, .ref b17_4), (0, .ref a0), (1, .ref a1), (2, .int i2), (3, .int i3), (4, .int i4)], [.ref a1, .ref b17_4]))) rfl ?_
    obtain ⟨I23_5, hxI23_5, h⟩ := Option.bind_eq_some_iff.mp h
    refine gg_pR aMi2 rfl rfl rfl rfl (by decide) hxI23_5 ?_
    refine go_ops aMi2 2 _ (f1 := (29, ([(5, .ref b17_4), (0, .ref a0), (1, .ref a1), (2, .int i2), (3, .int i3), (4, .int i4)], [.int i2, .ref b17_4]))) rfl ?_
    obtain ⟨I29_6, hxI29_6, h⟩ := Option.bind_eq_some_iff.mp h
    refine gg_pI aMi2 rfl rfl rfl rfl (by decide) hxI29_6 ?_
    refine go_ops aMi2 2 _ (f1 := (35, ([(5, .ref b17_4), (0, .ref a0), (1, .ref a1), (2, .int i2), (3, .int i3), (4, .int i4)], [.int i3, .ref b17_4]))) rfl ?_
    obtain ⟨I35_7, hxI35_7, h⟩ := Option.bind_eq_some_iff.mp h
    refine gg_pI aMi2 rfl rfl rfl rfl (by decide) hxI35_7 ?_
    refine go_ops aMi2 2 _ (f1 := (42, ([(5, .ref b17_4), (0, .ref a0), (1, .ref a1), (2, .int i2), (3, .int i3), (4, .int i4)], [.int i4, .ref b17_4]))) rfl ?_
    obtain ⟨I42_8, hxI42_8, h⟩ := Option.bind_eq_some_iff.mp h
    refine gg_pI aMi2 rfl rfl rfl rfl (by decide) hxI42_8 ?_
    refine go_ops aMi2 2 _ (f1 := (48, ([(5, .ref b17_4), (0, .ref a0), (1, .ref a1), (2, .int i2), (3, .int i3), (4, .int i4)], [.int (0 : Int32), .ref b17_4]))) rfl ?_
    obtain ⟨I48_9, hxI48_9, h⟩ := Option.bind_eq_some_iff.mp h
    refine gg_pI aMi2 rfl rfl rfl rfl (by decide) hxI48_9 ?_
    refine go_ops aMi2 2 _ (f1 := (54, ([(5, .ref b17_4), (0, .ref a0), (1, .ref a1), (2, .int i2), (3, .int i3), (4, .int i4)], [.int (0 : Int32), .ref b17_4]))) rfl ?_
    obtain ⟨I54_10, hxI54_10, h⟩ := Option.bind_eq_some_iff.mp h
    refine gg_pI aMi2 rfl rfl rfl rfl (by decide) hxI54_10 ?_
    refine go_ops aMi2 2 _ (f1 := (59, ([(5, .ref b17_4), (0, .ref a0), (1, .ref a1), (2, .int i2), (3, .int i3), (4, .int i4)], [.ref a0, .ref a0]))) rfl ?_
    obtain ⟨x59_11, hxx59_11, h⟩ := Option.bind_eq_some_iff.mp h
    refine gg_gI aMi2 rfl rfl rfl hxx59_11 ?_
    refine go_ops aMi2 2 _ (f1 := (64, ([(5, .ref b17_4), (0, .ref a0), (1, .ref a1), (2, .int i2), (3, .int i3), (4, .int i4)], [.int (x59_11 + (1 : Int32)), .ref a0]))) rfl ?_
    obtain ⟨I64_12, hxI64_12, h⟩ := Option.bind_eq_some_iff.mp h
    refine gg_pI aMi2 rfl rfl rfl rfl (by decide) hxI64_12 ?_
    refine go_le (lv1 := [(0, .ref a0)]) (aLe_of (show (List.map (fun q => q.1) ([(0, .ref a0)] : ALv)).Nodup from (by show ([0] : List Nat).Nodup; decide)) (aSubL_cons rfl aSubL_nil)) ?_
    exact Tf2_b67 hd a0 I64_12 _ h
-- KernelGym$Assembler.setSecondOperand (II)V
def f3_b38 (kad : Nat → Nat) (N : Nat) (Z : AZ)  (I : AI) : Option (Unit × AI) :=
  some ((), I)
theorem Tf3_b38 {kad : Nat → Nat} {N : Nat} {Z : AZ} {d : Nat} {t : Option Nat × (Nat × Nat)} (hd : 0 ≤ d) : ∀  (I : AI) (r : Unit × AI), f3_b38 kad N Z  I = some r → aGo kad d 3 (38, ([], [])) (aMem Z I, t) (qV Z t r) := by
  intro  I r h
  unfold f3_b38 at h
  cases h
  exact go_ret aMi3 rfl rfl ⟨rfl, rfl⟩
def f3 (kad : Nat → Nat) (N : Nat) (Z : AZ) (a0 : Nat) (i1 : Int32) (i2 : Int32) (I : AI) : Option (Unit × AI) :=
  (gI Z I 0 0 a0).bind fun x1_1 =>
  if x1_1 ≤ 0 then
    f3_b38 kad N Z  I
  else
    (gI Z I 0 0 a0).bind fun x8_2 =>
    if (100 : Int32) < x8_2 then
      f3_b38 kad N Z  I
    else
      (gR Z I 0 2 a0).bind fun b17_3 =>
      (gI Z I 0 0 a0).bind fun x21_4 =>
      (lR Z I b17_3 (x21_4 - (1 : Int32))).bind fun b26_5 =>
      (pI Z I 7 4 b26_5 i1).bind fun I30_6 =>
      (pI Z I30_6 7 5 b26_5 i2).bind fun I35_7 =>
      f3_b38 kad N Z  I35_7
theorem Tf3 {kad : Nat → Nat} {N : Nat} {Z : AZ} {d : Nat} {t : Option Nat × (Nat × Nat)} (hd : 0 ≤ d) : ∀ (a0 : Nat) (i1 : Int32) (i2 : Int32) (I : AI) (r : Unit × AI), f3 kad N Z a0 i1 i2 I = some r → aGo kad d 3 (0, ([(0, .ref a0), (1, .int i1), (2, .int i2)], [])) (aMem Z I, t) (qV Z t r) := by
  intro a0 i1 i2 I r h
  unfold f3 at h
  refine go_ops aMi3 1 _ (f1 := (1, ([(0, .ref a0), (1, .int i1), (2, .int i2)], [.ref a0]))) rfl ?_
  obtain ⟨x1_1, hxx1_1, h⟩ := Option.bind_eq_some_iff.mp h
  refine gg_gI aMi3 rfl rfl rfl hxx1_1 ?_
  refine gg_br (b := decide (x1_1 ≤ 0)) (tg := 38) (off := 34) aMi3 rfl rfl rfl rfl (fun hb => ?_) (fun hb => ?_)
  · rw [if_pos (of_decide_eq_true hb)] at h
    refine go_le (lv1 := []) (aLe_of (show (List.map (fun q => q.1) ([] : ALv)).Nodup from (by show ([] : List Nat).Nodup; decide)) aSubL_nil) ?_
    exact Tf3_b38 hd  I _ h
  · rw [if_neg (of_decide_eq_false hb)] at h
    refine go_ops aMi3 1 _ (f1 := (8, ([(0, .ref a0), (1, .int i1), (2, .int i2)], [.ref a0]))) rfl ?_
    obtain ⟨x8_2, hxx8_2, h⟩ := Option.bind_eq_some_iff.mp h
    refine gg_gI aMi3 rfl rfl rfl hxx8_2 ?_
    refine go_ops aMi3 1 _ (f1 := (13, ([(0, .ref a0), (1, .int i1), (2, .int i2)], [.int (100 : Int32), .int x8_2]))) rfl ?_
    refine gg_br (b := decide ((100 : Int32) < x8_2)) (tg := 38) (off := 25) aMi3 rfl rfl rfl rfl (fun hb => ?_) (fun hb => ?_)
    · rw [if_pos (of_decide_eq_true hb)] at h
      refine go_le (lv1 := []) (aLe_of (show (List.map (fun q => q.1) ([] : ALv)).Nodup from (by show ([] : List Nat).Nodup; decide)) aSubL_nil) ?_
      exact Tf3_b38 hd  I _ h
    · rw [if_neg (of_decide_eq_false hb)] at h
      refine go_ops aMi3 1 _ (f1 := (17, ([(0, .ref a0), (1, .int i1), (2, .int i2)], [.ref a0]))) rfl ?_
      obtain ⟨b17_3, hxb17_3, h⟩ := Option.bind_eq_some_iff.mp h
      refine gg_gR aMi3 rfl rfl rfl hxb17_3 ?_
      refine go_ops aMi3 1 _ (f1 := (21, ([(0, .ref a0), (1, .int i1), (2, .int i2)], [.ref a0, .ref b17_3]))) rfl ?_
      obtain ⟨x21_4, hxx21_4, h⟩ := Option.bind_eq_some_iff.mp h
      refine gg_gI aMi3 rfl rfl rfl hxx21_4 ?_
      refine go_ops aMi3 2 _ (f1 := (26, ([(0, .ref a0), (1, .int i1), (2, .int i2)], [.int (x21_4 - (1 : Int32)), .ref b17_3]))) rfl ?_
      obtain ⟨b26_5, hxb26_5, h⟩ := Option.bind_eq_some_iff.mp h
      refine gg_lR aMi3 rfl hxb26_5 ?_
      refine go_ops aMi3 3 _ (f1 := (30, ([(3, .ref b26_5), (0, .ref a0), (1, .int i1), (2, .int i2)], [.int i1, .ref b26_5]))) rfl ?_
      obtain ⟨I30_6, hxI30_6, h⟩ := Option.bind_eq_some_iff.mp h
      refine gg_pI aMi3 rfl rfl rfl rfl (by decide) hxI30_6 ?_
      refine go_ops aMi3 2 _ (f1 := (35, ([(3, .ref b26_5), (0, .ref a0), (1, .int i1), (2, .int i2)], [.int i2, .ref b26_5]))) rfl ?_
      obtain ⟨I35_7, hxI35_7, h⟩ := Option.bind_eq_some_iff.mp h
      refine gg_pI aMi3 rfl rfl rfl rfl (by decide) hxI35_7 ?_
      refine go_le (lv1 := []) (aLe_of (show (List.map (fun q => q.1) ([] : ALv)).Nodup from (by show ([] : List Nat).Nodup; decide)) aSubL_nil) ?_
      exact Tf3_b38 hd  I35_7 _ h
-- KernelGym$Assembler.wordsTogether ()I
def f4 (kad : Nat → Nat) (N : Nat) (Z : AZ) (a0 : Nat) (I : AI) : Option (Int32 × AI) :=
  (gR Z I 0 10 a0).bind fun b1_1 =>
  (lI Z I 100 b1_1 (0 : Int32)).bind fun x5_2 =>
  (gR Z I 0 10 a0).bind fun b7_3 =>
  (lI Z I 100 b7_3 (1 : Int32)).bind fun x11_4 =>
  some ((x5_2 + x11_4), I)
theorem Tf4 {kad : Nat → Nat} {N : Nat} {Z : AZ} {d : Nat} {t : Option Nat × (Nat × Nat)} (hd : 0 ≤ d) : ∀ (a0 : Nat) (I : AI) (r : Int32 × AI), f4 kad N Z a0 I = some r → aGo kad d 4 (0, ([(0, .ref a0)], [])) (aMem Z I, t) (qI Z t r) := by
  intro a0 I r h
  unfold f4 at h
  refine go_ops aMi4 1 _ (f1 := (1, ([(0, .ref a0)], [.ref a0]))) rfl ?_
  obtain ⟨b1_1, hxb1_1, h⟩ := Option.bind_eq_some_iff.mp h
  refine gg_gR aMi4 rfl rfl rfl hxb1_1 ?_
  refine go_ops aMi4 1 _ (f1 := (5, ([(0, .ref a0)], [.int (0 : Int32), .ref b1_1]))) rfl ?_
  obtain ⟨x5_2, hxx5_2, h⟩ := Option.bind_eq_some_iff.mp h
  refine gg_lI (Or.inl ⟨rfl, rfl⟩) aMi4 rfl hxx5_2 ?_
  refine go_ops aMi4 1 _ (f1 := (7, ([(0, .ref a0)], [.ref a0, .int x5_2]))) rfl ?_
  obtain ⟨b7_3, hxb7_3, h⟩ := Option.bind_eq_some_iff.mp h
  refine gg_gR aMi4 rfl rfl rfl hxb7_3 ?_
  refine go_ops aMi4 1 _ (f1 := (11, ([(0, .ref a0)], [.int (1 : Int32), .ref b7_3, .int x5_2]))) rfl ?_
  obtain ⟨x11_4, hxx11_4, h⟩ := Option.bind_eq_some_iff.mp h
  refine gg_lI (Or.inl ⟨rfl, rfl⟩) aMi4 rfl hxx11_4 ?_
  refine go_ops aMi4 1 _ (f1 := (13, ([(0, .ref a0)], [.int (x5_2 + x11_4)]))) rfl ?_
  cases h
  exact go_ret aMi4 rfl aRetI ⟨rfl, rfl⟩
-- java/util/Arrays.fill ([II)V
def f306_b5 (kad : Nat → Nat) (N : Nat) (Z : AZ) : Nat → Nat → Int32 → Int32 → Int32 → AI → Option (Unit × AI)
  | 0, _, _, _, _, _ => none
  | F + 1, a0, i1, i2, i3, I =>
    if i3 ≤ i2 then
      some ((), I)
    else
      (sI Z I 100 a0 i2 i1).bind fun I13_1 =>
      f306_b5 kad N Z F a0 i1 (i2 + (1 : Int32)) i3 I13_1
theorem Tf306_b5 {kad : Nat → Nat} {N : Nat} {Z : AZ} {d : Nat} {t : Option Nat × (Nat × Nat)} (hd : 0 ≤ d) : ∀ (F : Nat) (a0 : Nat) (i1 : Int32) (i2 : Int32) (i3 : Int32) (I : AI) (r : Unit × AI), f306_b5 kad N Z F a0 i1 i2 i3 I = some r → aGo kad d 306 (5, ([(0, .ref a0), (1, .int i1), (2, .int i2), (3, .int i3)], [])) (aMem Z I, t) (qV Z t r) := by
  intro F
  induction F with
  | zero => intro a0 i1 i2 i3 I r h; cases h
  | succ F ih =>
    intro a0 i1 i2 i3 I r h
    unfold f306_b5 at h
    refine go_ops aMi306 2 _ (f1 := (7, ([(0, .ref a0), (1, .int i1), (2, .int i2), (3, .int i3)], [.int i3, .int i2]))) rfl ?_
    refine gg_br (b := decide (i3 ≤ i2)) (tg := 20) (off := 13) aMi306 rfl rfl rfl rfl (fun hb => ?_) (fun hb => ?_)
    · rw [if_pos (of_decide_eq_true hb)] at h
      cases h
      exact go_ret aMi306 rfl rfl ⟨rfl, rfl⟩
    · rw [if_neg (of_decide_eq_false hb)] at h
      refine go_ops aMi306 3 _ (f1 := (13, ([(0, .ref a0), (1, .int i1), (2, .int i2), (3, .int i3)], [.int i1, .int i2, .ref a0]))) rfl ?_
      obtain ⟨I13_1, hxI13_1, h⟩ := Option.bind_eq_some_iff.mp h
      refine gg_sI (Or.inl ⟨rfl, rfl⟩) aMi306 rfl hxI13_1 ?_
      refine go_ops aMi306 2 _ (f1 := (5, ([(2, .int (i2 + (1 : Int32))), (0, .ref a0), (1, .int i1), (3, .int i3)], []))) rfl ?_
      refine go_le (lv1 := [(0, .ref a0), (1, .int i1), (2, .int (i2 + (1 : Int32))), (3, .int i3)]) (aLe_of (show (List.map (fun q => q.1) ([(0, .ref a0), (1, .int i1), (2, .int (i2 + (1 : Int32))), (3, .int i3)] : ALv)).Nodup from (by show ([0, 1, 2, 3] : List Nat).Nodup; decide)) (aSubL_cons rfl (aSubL_cons rfl (aSubL_cons rfl (aSubL_cons rfl aSubL_nil))))) ?_
      exact ih a0 i1 (i2 + (1 : Int32)) i3 I13_1 _ h
def f306 (kad : Nat → Nat) (N : Nat) (Z : AZ) (a0 : Nat) (i1 : Int32) (I : AI) : Option (Unit × AI) :=
  (nL Z a0).bind fun x3_1 =>
  f306_b5 kad N Z N a0 i1 (0 : Int32) x3_1 I
theorem Tf306 {kad : Nat → Nat} {N : Nat} {Z : AZ} {d : Nat} {t : Option Nat × (Nat × Nat)} (hd : 0 ≤ d) : ∀ (a0 : Nat) (i1 : Int32) (I : AI) (r : Unit × AI), f306 kad N Z a0 i1 I = some r → aGo kad d 306 (0, ([(0, .ref a0), (1, .int i1)], [])) (aMem Z I, t) (qV Z t r) := by
  intro a0 i1 I r h
  unfold f306 at h
  refine go_ops aMi306 3 _ (f1 := (3, ([(2, .int (0 : Int32)), (0, .ref a0), (1, .int i1)], [.ref a0]))) rfl ?_
  obtain ⟨x3_1, hxx3_1, h⟩ := Option.bind_eq_some_iff.mp h
  refine gg_len aMi306 rfl hxx3_1 ?_
  refine go_ops aMi306 1 _ (f1 := (5, ([(3, .int x3_1), (2, .int (0 : Int32)), (0, .ref a0), (1, .int i1)], []))) rfl ?_
  refine go_le (lv1 := [(0, .ref a0), (1, .int i1), (2, .int (0 : Int32)), (3, .int x3_1)]) (aLe_of (show (List.map (fun q => q.1) ([(0, .ref a0), (1, .int i1), (2, .int (0 : Int32)), (3, .int x3_1)] : ALv)).Nodup from (by show ([0, 1, 2, 3] : List Nat).Nodup; decide)) (aSubL_cons rfl (aSubL_cons rfl (aSubL_cons rfl (aSubL_cons rfl aSubL_nil))))) ?_
  exact Tf306_b5 hd N a0 i1 (0 : Int32) x3_1 I _ h
-- KernelGym$Assembler.beginTime (Z)V
def f6 (kad : Nat → Nat) (N : Nat) (Z : AZ) (a0 : Nat) (i1 : Int32) (I : AI) : Option (Unit × AI) :=
  (pB Z I 0 12 a0 i1).bind fun I2_1 =>
  (pI Z I2_1 0 13 a0 (0 : Int32)).bind fun I7_2 =>
  (pI Z I7_2 0 14 a0 (0 : Int32)).bind fun I12_3 =>
  (pI Z I12_3 0 15 a0 (0 : Int32)).bind fun I17_4 =>
  (gR Z I17_4 0 10 a0).bind fun b21_5 =>
  (f306 kad N Z b21_5 (0 : Int32) I17_4).bind fun r25_6 =>
  (gR Z r25_6.2 0 1 a0).bind fun b29_7 =>
  (f306 kad N Z b29_7 (0 : Int32) r25_6.2).bind fun r33_8 =>
  some ((), r33_8.2)
theorem Tf6 {kad : Nat → Nat} {N : Nat} {Z : AZ} {d : Nat} {t : Option Nat × (Nat × Nat)} (hd : 1 ≤ d) : ∀ (a0 : Nat) (i1 : Int32) (I : AI) (r : Unit × AI), f6 kad N Z a0 i1 I = some r → aGo kad d 6 (0, ([(0, .ref a0), (1, .int i1)], [])) (aMem Z I, t) (qV Z t r) := by
  intro a0 i1 I r h
  unfold f6 at h
  refine go_ops aMi6 2 _ (f1 := (2, ([(0, .ref a0), (1, .int i1)], [.int i1, .ref a0]))) rfl ?_
  obtain ⟨I2_1, hxI2_1, h⟩ := Option.bind_eq_some_iff.mp h
  refine gg_pB aMi6 rfl rfl rfl rfl (by decide) hxI2_1 ?_
  refine go_ops aMi6 2 _ (f1 := (7, ([(0, .ref a0), (1, .int i1)], [.int (0 : Int32), .ref a0]))) rfl ?_
  obtain ⟨I7_2, hxI7_2, h⟩ := Option.bind_eq_some_iff.mp h
  refine gg_pI aMi6 rfl rfl rfl rfl (by decide) hxI7_2 ?_
  refine go_ops aMi6 2 _ (f1 := (12, ([(0, .ref a0), (1, .int i1)], [.int (0 : Int32), .ref a0]))) rfl ?_
  obtain ⟨I12_3, hxI12_3, h⟩ := Option.bind_eq_some_iff.mp h
  refine gg_pI aMi6 rfl rfl rfl rfl (by decide) hxI12_3 ?_
  refine go_ops aMi6 2 _ (f1 := (17, ([(0, .ref a0), (1, .int i1)], [.int (0 : Int32), .ref a0]))) rfl ?_
  obtain ⟨I17_4, hxI17_4, h⟩ := Option.bind_eq_some_iff.mp h
  refine gg_pI aMi6 rfl rfl rfl rfl (by decide) hxI17_4 ?_
  refine go_ops aMi6 1 _ (f1 := (21, ([(0, .ref a0), (1, .int i1)], [.ref a0]))) rfl ?_
  obtain ⟨b21_5, hxb21_5, h⟩ := Option.bind_eq_some_iff.mp h
  refine gg_gR aMi6 rfl rfl rfl hxb21_5 ?_
  refine go_ops aMi6 1 _ (f1 := (25, ([(0, .ref a0), (1, .int i1)], [.int (0 : Int32), .ref b21_5]))) rfl ?_
  obtain ⟨r25_6, hxr25_6, h⟩ := Option.bind_eq_some_iff.mp h
  refine gg_cs (as := [.ref b21_5, .int (0 : Int32)]) (r := []) aMi6 rfl rfl rfl aMi306 rfl (Nat.le_of_ble_eq_true rfl) (Nat.le_of_ble_eq_true rfl) (by omega) (Tf306 (by omega) b21_5 (0 : Int32) I17_4 _ hxr25_6) ?_
  show aGo kad d 6 (28, ([(0, .ref a0), (1, .int i1)], [])) (aMem Z r25_6.2, t) _
  refine go_ops aMi6 1 _ (f1 := (29, ([(0, .ref a0), (1, .int i1)], [.ref a0]))) rfl ?_
  obtain ⟨b29_7, hxb29_7, h⟩ := Option.bind_eq_some_iff.mp h
  refine gg_gR aMi6 rfl rfl rfl hxb29_7 ?_
  refine go_ops aMi6 1 _ (f1 := (33, ([(0, .ref a0), (1, .int i1)], [.int (0 : Int32), .ref b29_7]))) rfl ?_
  obtain ⟨r33_8, hxr33_8, h⟩ := Option.bind_eq_some_iff.mp h
  refine gg_cs (as := [.ref b29_7, .int (0 : Int32)]) (r := []) aMi6 rfl rfl rfl aMi306 rfl (Nat.le_of_ble_eq_true rfl) (Nat.le_of_ble_eq_true rfl) (by omega) (Tf306 (by omega) b29_7 (0 : Int32) r25_6.2 _ hxr33_8) ?_
  show aGo kad d 6 (36, ([(0, .ref a0), (1, .int i1)], [])) (aMem Z r33_8.2, t) _
  cases h
  exact go_ret aMi6 rfl rfl ⟨rfl, rfl⟩
-- KernelGym$Assembler.growBy (I)Z
def f12_b47 (kad : Nat → Nat) (N : Nat) (Z : AZ) (s0 : Int32) (I : AI) : Option (Int32 × AI) :=
  if s0 = 0 ∨ s0 = 1 then some (s0, I) else none
theorem Tf12_b47 {kad : Nat → Nat} {N : Nat} {Z : AZ} {d : Nat} {t : Option Nat × (Nat × Nat)} (hd : 1 ≤ d) : ∀ (s0 : Int32) (I : AI) (r : Int32 × AI), f12_b47 kad N Z s0 I = some r → aGo kad d 12 (47, ([], [.int s0])) (aMem Z I, t) (qI Z t r) := by
  intro s0 I r h
  unfold f12_b47 at h
  split at h
  · rename_i hz
    cases h
    exact go_ret aMi12 rfl (aRetZ hz) ⟨rfl, rfl⟩
  · cases h
def f12_b32 (kad : Nat → Nat) (N : Nat) (Z : AZ) (a0 : Nat) (I : AI) : Option (Int32 × AI) :=
  (isK Z a0 0).bind fun u33_1 =>
  (f4 kad N Z a0 I).bind fun r33_2 =>
  if (248 : Int32) < r33_2.1 then
    f12_b47 kad N Z (0 : Int32) r33_2.2
  else
    f12_b47 kad N Z (1 : Int32) r33_2.2
theorem Tf12_b32 {kad : Nat → Nat} {N : Nat} {Z : AZ} {d : Nat} {t : Option Nat × (Nat × Nat)} (hd : 1 ≤ d) : ∀ (a0 : Nat) (I : AI) (r : Int32 × AI), f12_b32 kad N Z a0 I = some r → aGo kad d 12 (32, ([(0, .ref a0)], [])) (aMem Z I, t) (qI Z t r) := by
  intro a0 I r h
  unfold f12_b32 at h
  refine go_ops aMi12 1 _ (f1 := (33, ([(0, .ref a0)], [.ref a0]))) rfl ?_
  obtain ⟨u33_1, hxu33_1, h⟩ := Option.bind_eq_some_iff.mp h
  obtain ⟨r33_2, hxr33_2, h⟩ := Option.bind_eq_some_iff.mp h
  refine gg_cv (as := []) (r := []) aMi12 rfl rfl rfl aMi4 (Nat.le_of_ble_eq_true rfl) rfl (Nat.le_of_ble_eq_true rfl) (Nat.le_of_ble_eq_true rfl) (by omega) hxu33_1 (Tf4 (by omega) a0 I _ hxr33_2) ?_
  show aGo kad d 12 (36, ([(0, .ref a0)], [.int r33_2.1])) (aMem Z r33_2.2, t) _
  refine go_ops aMi12 1 _ (f1 := (39, ([(0, .ref a0)], [.int (248 : Int32), .int r33_2.1]))) rfl ?_
  refine gg_br (b := decide ((248 : Int32) < r33_2.1)) (tg := 46) (off := 7) aMi12 rfl rfl rfl rfl (fun hb => ?_) (fun hb => ?_)
  · rw [if_pos (of_decide_eq_true hb)] at h
    refine go_ops aMi12 1 _ (f1 := (47, ([(0, .ref a0)], [.int (0 : Int32)]))) rfl ?_
    refine go_le (lv1 := []) (aLe_of (show (List.map (fun q => q.1) ([] : ALv)).Nodup from (by show ([] : List Nat).Nodup; decide)) aSubL_nil) ?_
    exact Tf12_b47 hd (0 : Int32) r33_2.2 _ h
  · rw [if_neg (of_decide_eq_false hb)] at h
    refine go_ops aMi12 2 _ (f1 := (47, ([(0, .ref a0)], [.int (1 : Int32)]))) rfl ?_
    refine go_le (lv1 := []) (aLe_of (show (List.map (fun q => q.1) ([] : ALv)).Nodup from (by show ([] : List Nat).Nodup; decide)) aSubL_nil) ?_
    exact Tf12_b47 hd (1 : Int32) r33_2.2 _ h
def f12 (kad : Nat → Nat) (N : Nat) (Z : AZ) (a0 : Nat) (i1 : Int32) (I : AI) : Option (Int32 × AI) :=
  (gI Z I 0 15 a0).bind fun x1_1 =>
  if x1_1 < 0 then
    f12_b32 kad N Z a0 I
  else
    (gI Z I 0 15 a0).bind fun x8_2 =>
    (gR Z I 0 10 a0).bind fun b12_3 =>
    (nL Z b12_3).bind fun x15_4 =>
    if x15_4 ≤ x8_2 then
      f12_b32 kad N Z a0 I
    else
      (gR Z I 0 10 a0).bind fun b20_5 =>
      (gI Z I 0 15 a0).bind fun x24_6 =>
      (lI Z I 100 b20_5 x24_6).bind fun x28_7 =>
      (sI Z I 100 b20_5 x24_6 (x28_7 + i1)).bind fun I31_8 =>
      f12_b32 kad N Z a0 I31_8
theorem Tf12 {kad : Nat → Nat} {N : Nat} {Z : AZ} {d : Nat} {t : Option Nat × (Nat × Nat)} (hd : 1 ≤ d) : ∀ (a0 : Nat) (i1 : Int32) (I : AI) (r : Int32 × AI), f12 kad N Z a0 i1 I = some r → aGo kad d 12 (0, ([(0, .ref a0), (1, .int i1)], [])) (aMem Z I, t) (qI Z t r) := by
  intro a0 i1 I r h
  unfold f12 at h
  refine go_ops aMi12 1 _ (f1 := (1, ([(0, .ref a0), (1, .int i1)], [.ref a0]))) rfl ?_
  obtain ⟨x1_1, hxx1_1, h⟩ := Option.bind_eq_some_iff.mp h
  refine gg_gI aMi12 rfl rfl rfl hxx1_1 ?_
  refine gg_br (b := decide (x1_1 < 0)) (tg := 32) (off := 28) aMi12 rfl rfl rfl rfl (fun hb => ?_) (fun hb => ?_)
  · rw [if_pos (of_decide_eq_true hb)] at h
    refine go_le (lv1 := [(0, .ref a0)]) (aLe_of (show (List.map (fun q => q.1) ([(0, .ref a0)] : ALv)).Nodup from (by show ([0] : List Nat).Nodup; decide)) (aSubL_cons rfl aSubL_nil)) ?_
    exact Tf12_b32 hd a0 I _ h
  · rw [if_neg (of_decide_eq_false hb)] at h
    refine go_ops aMi12 1 _ (f1 := (8, ([(0, .ref a0), (1, .int i1)], [.ref a0]))) rfl ?_
    obtain ⟨x8_2, hxx8_2, h⟩ := Option.bind_eq_some_iff.mp h
    refine gg_gI aMi12 rfl rfl rfl hxx8_2 ?_
    refine go_ops aMi12 1 _ (f1 := (12, ([(0, .ref a0), (1, .int i1)], [.ref a0, .int x8_2]))) rfl ?_
    obtain ⟨b12_3, hxb12_3, h⟩ := Option.bind_eq_some_iff.mp h
    refine gg_gR aMi12 rfl rfl rfl hxb12_3 ?_
    obtain ⟨x15_4, hxx15_4, h⟩ := Option.bind_eq_some_iff.mp h
    refine gg_len aMi12 rfl hxx15_4 ?_
    refine gg_br (b := decide (x15_4 ≤ x8_2)) (tg := 32) (off := 16) aMi12 rfl rfl rfl rfl (fun hb => ?_) (fun hb => ?_)
    · rw [if_pos (of_decide_eq_true hb)] at h
      refine go_le (lv1 := [(0, .ref a0)]) (aLe_of (show (List.map (fun q => q.1) ([(0, .ref a0)] : ALv)).Nodup from (by show ([0] : List Nat).Nodup; decide)) (aSubL_cons rfl aSubL_nil)) ?_
      exact Tf12_b32 hd a0 I _ h
    · rw [if_neg (of_decide_eq_false hb)] at h
      refine go_ops aMi12 1 _ (f1 := (20, ([(0, .ref a0), (1, .int i1)], [.ref a0]))) rfl ?_
      obtain ⟨b20_5, hxb20_5, h⟩ := Option.bind_eq_some_iff.mp h
      refine gg_gR aMi12 rfl rfl rfl hxb20_5 ?_
      refine go_ops aMi12 1 _ (f1 := (24, ([(0, .ref a0), (1, .int i1)], [.ref a0, .ref b20_5]))) rfl ?_
      obtain ⟨x24_6, hxx24_6, h⟩ := Option.bind_eq_some_iff.mp h
      refine gg_gI aMi12 rfl rfl rfl hxx24_6 ?_
      refine go_ops aMi12 1 _ (f1 := (28, ([(0, .ref a0), (1, .int i1)], [.int x24_6, .ref b20_5, .int x24_6, .ref b20_5]))) rfl ?_
      obtain ⟨x28_7, hxx28_7, h⟩ := Option.bind_eq_some_iff.mp h
      refine gg_lI (Or.inl ⟨rfl, rfl⟩) aMi12 rfl hxx28_7 ?_
      refine go_ops aMi12 2 _ (f1 := (31, ([(0, .ref a0), (1, .int i1)], [.int (x28_7 + i1), .int x24_6, .ref b20_5]))) rfl ?_
      obtain ⟨I31_8, hxI31_8, h⟩ := Option.bind_eq_some_iff.mp h
      refine gg_sI (Or.inl ⟨rfl, rfl⟩) aMi12 rfl hxI31_8 ?_
      refine go_le (lv1 := [(0, .ref a0)]) (aLe_of (show (List.map (fun q => q.1) ([(0, .ref a0)] : ALv)).Nodup from (by show ([0] : List Nat).Nodup; decide)) (aSubL_cons rfl aSubL_nil)) ?_
      exact Tf12_b32 hd a0 I31_8 _ h
-- KernelGym$Assembler.slotOf (II)I
def f13_b15 (kad : Nat → Nat) (N : Nat) (Z : AZ) (s0 : Int32) (I : AI) : Option (Int32 × AI) :=
  some (s0, I)
theorem Tf13_b15 {kad : Nat → Nat} {N : Nat} {Z : AZ} {d : Nat} {t : Option Nat × (Nat × Nat)} (hd : 0 ≤ d) : ∀ (s0 : Int32) (I : AI) (r : Int32 × AI), f13_b15 kad N Z s0 I = some r → aGo kad d 13 (15, ([], [.int s0])) (aMem Z I, t) (qI Z t r) := by
  intro s0 I r h
  unfold f13_b15 at h
  cases h
  exact go_ret aMi13 rfl aRetI ⟨rfl, rfl⟩
def f13 (kad : Nat → Nat) (N : Nat) (Z : AZ) (i0 : Int32) (i1 : Int32) (I : AI) : Option (Int32 × AI) :=
  if (16 : Int32) ≤ i0 then
    f13_b15 kad N Z (i0 + ((4 : Int32) * i1)) I
  else
    f13_b15 kad N Z i0 I
theorem Tf13 {kad : Nat → Nat} {N : Nat} {Z : AZ} {d : Nat} {t : Option Nat × (Nat × Nat)} (hd : 0 ≤ d) : ∀ (i0 : Int32) (i1 : Int32) (I : AI) (r : Int32 × AI), f13 kad N Z i0 i1 I = some r → aGo kad d 13 (0, ([(0, .int i0), (1, .int i1)], [])) (aMem Z I, t) (qI Z t r) := by
  intro i0 i1 I r h
  unfold f13 at h
  refine go_ops aMi13 2 _ (f1 := (3, ([(0, .int i0), (1, .int i1)], [.int (16 : Int32), .int i0]))) rfl ?_
  refine gg_br (b := decide ((16 : Int32) ≤ i0)) (tg := 10) (off := 7) aMi13 rfl rfl rfl rfl (fun hb => ?_) (fun hb => ?_)
  · rw [if_pos (of_decide_eq_true hb)] at h
    refine go_ops aMi13 5 _ (f1 := (15, ([(0, .int i0), (1, .int i1)], [.int (i0 + ((4 : Int32) * i1))]))) rfl ?_
    refine go_le (lv1 := []) (aLe_of (show (List.map (fun q => q.1) ([] : ALv)).Nodup from (by show ([] : List Nat).Nodup; decide)) aSubL_nil) ?_
    exact Tf13_b15 hd (i0 + ((4 : Int32) * i1)) I _ h
  · rw [if_neg (of_decide_eq_false hb)] at h
    refine go_ops aMi13 2 _ (f1 := (15, ([(0, .int i0), (1, .int i1)], [.int i0]))) rfl ?_
    refine go_le (lv1 := []) (aLe_of (show (List.map (fun q => q.1) ([] : ALv)).Nodup from (by show ([] : List Nat).Nodup; decide)) aSubL_nil) ?_
    exact Tf13_b15 hd i0 I _ h
-- KernelGym$Assembler.addressOf (I)I
def f21_b23 (kad : Nat → Nat) (N : Nat) (Z : AZ)  (I : AI) : Option (Int32 × AI) :=
  some ((Int32.ofInt (-1)), I)
theorem Tf21_b23 {kad : Nat → Nat} {N : Nat} {Z : AZ} {d : Nat} {t : Option Nat × (Nat × Nat)} (hd : 0 ≤ d) : ∀  (I : AI) (r : Int32 × AI), f21_b23 kad N Z  I = some r → aGo kad d 21 (23, ([], [])) (aMem Z I, t) (qI Z t r) := by
  intro  I r h
  unfold f21_b23 at h
  refine go_ops aMi21 1 _ (f1 := (24, ([], [.int (Int32.ofInt (-1))]))) rfl ?_
  cases h
  exact go_ret aMi21 rfl aRetI ⟨rfl, rfl⟩
def f21_b49 (kad : Nat → Nat) (N : Nat) (Z : AZ) (a0 : Nat) (i1 : Int32) (s0 : Int32) (I : AI) : Option (Int32 × AI) :=
  (gR Z I 0 7 a0).bind fun b50_1 =>
  (lI Z I 100 b50_1 i1).bind fun x54_2 =>
  some ((s0 + x54_2), I)
theorem Tf21_b49 {kad : Nat → Nat} {N : Nat} {Z : AZ} {d : Nat} {t : Option Nat × (Nat × Nat)} (hd : 0 ≤ d) : ∀ (a0 : Nat) (i1 : Int32) (s0 : Int32) (I : AI) (r : Int32 × AI), f21_b49 kad N Z a0 i1 s0 I = some r → aGo kad d 21 (49, ([(0, .ref a0), (1, .int i1)], [.int s0])) (aMem Z I, t) (qI Z t r) := by
  intro a0 i1 s0 I r h
  unfold f21_b49 at h
  refine go_ops aMi21 1 _ (f1 := (50, ([(0, .ref a0), (1, .int i1)], [.ref a0, .int s0]))) rfl ?_
  obtain ⟨b50_1, hxb50_1, h⟩ := Option.bind_eq_some_iff.mp h
  refine gg_gR aMi21 rfl rfl rfl hxb50_1 ?_
  refine go_ops aMi21 1 _ (f1 := (54, ([(0, .ref a0), (1, .int i1)], [.int i1, .ref b50_1, .int s0]))) rfl ?_
  obtain ⟨x54_2, hxx54_2, h⟩ := Option.bind_eq_some_iff.mp h
  refine gg_lI (Or.inl ⟨rfl, rfl⟩) aMi21 rfl hxx54_2 ?_
  refine go_ops aMi21 1 _ (f1 := (56, ([(0, .ref a0), (1, .int i1)], [.int (s0 + x54_2)]))) rfl ?_
  cases h
  exact go_ret aMi21 rfl aRetI ⟨rfl, rfl⟩
def f21 (kad : Nat → Nat) (N : Nat) (Z : AZ) (a0 : Nat) (i1 : Int32) (I : AI) : Option (Int32 × AI) :=
  if i1 < 0 then
    f21_b23 kad N Z  I
  else
    (gR Z I 0 7 a0).bind fun b6_1 =>
    (nL Z b6_1).bind fun x9_2 =>
    if x9_2 ≤ i1 then
      f21_b23 kad N Z  I
    else
      (gR Z I 0 7 a0).bind fun b14_3 =>
      (lI Z I 100 b14_3 i1).bind fun x18_4 =>
      if ¬ x18_4 = (Int32.ofInt (-1)) then
        (gR Z I 0 6 a0).bind fun b26_5 =>
        (lI Z I 100 b26_5 i1).bind fun x30_6 =>
        if ¬ x30_6 = 0 then
          (gR Z I 0 11 a0).bind fun b44_7 =>
          (lI Z I 100 b44_7 (1 : Int32)).bind fun x48_8 =>
          f21_b49 kad N Z a0 i1 x48_8 I
        else
          (gR Z I 0 11 a0).bind fun b35_9 =>
          (lI Z I 100 b35_9 (0 : Int32)).bind fun x39_10 =>
          f21_b49 kad N Z a0 i1 x39_10 I
      else
        f21_b23 kad N Z  I
theorem Tf21 {kad : Nat → Nat} {N : Nat} {Z : AZ} {d : Nat} {t : Option Nat × (Nat × Nat)} (hd : 0 ≤ d) : ∀ (a0 : Nat) (i1 : Int32) (I : AI) (r : Int32 × AI), f21 kad N Z a0 i1 I = some r → aGo kad d 21 (0, ([(0, .ref a0), (1, .int i1)], [])) (aMem Z I, t) (qI Z t r) := by
  intro a0 i1 I r h
  unfold f21 at h
  refine go_ops aMi21 1 _ (f1 := (1, ([(0, .ref a0), (1, .int i1)], [.int i1]))) rfl ?_
  refine gg_br (b := decide (i1 < 0)) (tg := 23) (off := 22) aMi21 rfl rfl rfl rfl (fun hb => ?_) (fun hb => ?_)
  · rw [if_pos (of_decide_eq_true hb)] at h
    refine go_le (lv1 := []) (aLe_of (show (List.map (fun q => q.1) ([] : ALv)).Nodup from (by show ([] : List Nat).Nodup; decide)) aSubL_nil) ?_
    exact Tf21_b23 hd  I _ h
  · rw [if_neg (of_decide_eq_false hb)] at h
    refine go_ops aMi21 2 _ (f1 := (6, ([(0, .ref a0), (1, .int i1)], [.ref a0, .int i1]))) rfl ?_
    obtain ⟨b6_1, hxb6_1, h⟩ := Option.bind_eq_some_iff.mp h
    refine gg_gR aMi21 rfl rfl rfl hxb6_1 ?_
    obtain ⟨x9_2, hxx9_2, h⟩ := Option.bind_eq_some_iff.mp h
    refine gg_len aMi21 rfl hxx9_2 ?_
    refine gg_br (b := decide (x9_2 ≤ i1)) (tg := 23) (off := 13) aMi21 rfl rfl rfl rfl (fun hb => ?_) (fun hb => ?_)
    · rw [if_pos (of_decide_eq_true hb)] at h
      refine go_le (lv1 := []) (aLe_of (show (List.map (fun q => q.1) ([] : ALv)).Nodup from (by show ([] : List Nat).Nodup; decide)) aSubL_nil) ?_
      exact Tf21_b23 hd  I _ h
    · rw [if_neg (of_decide_eq_false hb)] at h
      refine go_ops aMi21 1 _ (f1 := (14, ([(0, .ref a0), (1, .int i1)], [.ref a0]))) rfl ?_
      obtain ⟨b14_3, hxb14_3, h⟩ := Option.bind_eq_some_iff.mp h
      refine gg_gR aMi21 rfl rfl rfl hxb14_3 ?_
      refine go_ops aMi21 1 _ (f1 := (18, ([(0, .ref a0), (1, .int i1)], [.int i1, .ref b14_3]))) rfl ?_
      obtain ⟨x18_4, hxx18_4, h⟩ := Option.bind_eq_some_iff.mp h
      refine gg_lI (Or.inl ⟨rfl, rfl⟩) aMi21 rfl hxx18_4 ?_
      refine go_ops aMi21 1 _ (f1 := (20, ([(0, .ref a0), (1, .int i1)], [.int (Int32.ofInt (-1)), .int x18_4]))) rfl ?_
      refine gg_br (b := decide (¬ x18_4 = (Int32.ofInt (-1)))) (tg := 25) (off := 5) aMi21 rfl rfl rfl rfl (fun hb => ?_) (fun hb => ?_)
      · rw [if_pos (of_decide_eq_true hb)] at h
        refine go_ops aMi21 1 _ (f1 := (26, ([(0, .ref a0), (1, .int i1)], [.ref a0]))) rfl ?_
        obtain ⟨b26_5, hxb26_5, h⟩ := Option.bind_eq_some_iff.mp h
        refine gg_gR aMi21 rfl rfl rfl hxb26_5 ?_
        refine go_ops aMi21 1 _ (f1 := (30, ([(0, .ref a0), (1, .int i1)], [.int i1, .ref b26_5]))) rfl ?_
        obtain ⟨x30_6, hxx30_6, h⟩ := Option.bind_eq_some_iff.mp h
        refine gg_lI (Or.inl ⟨rfl, rfl⟩) aMi21 rfl hxx30_6 ?_
        refine gg_br (b := decide (¬ x30_6 = 0)) (tg := 43) (off := 12) aMi21 rfl rfl rfl rfl (fun hb => ?_) (fun hb => ?_)
        · rw [if_pos (of_decide_eq_true hb)] at h
          refine go_ops aMi21 1 _ (f1 := (44, ([(0, .ref a0), (1, .int i1)], [.ref a0]))) rfl ?_
          obtain ⟨b44_7, hxb44_7, h⟩ := Option.bind_eq_some_iff.mp h
          refine gg_gR aMi21 rfl rfl rfl hxb44_7 ?_
          refine go_ops aMi21 1 _ (f1 := (48, ([(0, .ref a0), (1, .int i1)], [.int (1 : Int32), .ref b44_7]))) rfl ?_
          obtain ⟨x48_8, hxx48_8, h⟩ := Option.bind_eq_some_iff.mp h
          refine gg_lI (Or.inl ⟨rfl, rfl⟩) aMi21 rfl hxx48_8 ?_
          exact Tf21_b49 hd a0 i1 x48_8 I _ h
        · rw [if_neg (of_decide_eq_false hb)] at h
          refine go_ops aMi21 1 _ (f1 := (35, ([(0, .ref a0), (1, .int i1)], [.ref a0]))) rfl ?_
          obtain ⟨b35_9, hxb35_9, h⟩ := Option.bind_eq_some_iff.mp h
          refine gg_gR aMi21 rfl rfl rfl hxb35_9 ?_
          refine go_ops aMi21 1 _ (f1 := (39, ([(0, .ref a0), (1, .int i1)], [.int (0 : Int32), .ref b35_9]))) rfl ?_
          obtain ⟨x39_10, hxx39_10, h⟩ := Option.bind_eq_some_iff.mp h
          refine gg_lI (Or.inl ⟨rfl, rfl⟩) aMi21 rfl hxx39_10 ?_
          refine go_ops aMi21 1 _ (f1 := (49, ([(0, .ref a0), (1, .int i1)], [.int x39_10]))) rfl ?_
          exact Tf21_b49 hd a0 i1 x39_10 I _ h
      · rw [if_neg (of_decide_eq_false hb)] at h
        refine go_le (lv1 := []) (aLe_of (show (List.map (fun q => q.1) ([] : ALv)).Nodup from (by show ([] : List Nat).Nodup; decide)) aSubL_nil) ?_
        exact Tf21_b23 hd  I _ h
-- KernelGym$Assembler.valueOf (III)I
def f19_b32 (kad : Nat → Nat) (N : Nat) (Z : AZ)  (I : AI) : Option (Int32 × AI) :=
  some ((Int32.ofInt (-1)), I)
theorem Tf19_b32 {kad : Nat → Nat} {N : Nat} {Z : AZ} {d : Nat} {t : Option Nat × (Nat × Nat)} (hd : 1 ≤ d) : ∀  (I : AI) (r : Int32 × AI), f19_b32 kad N Z  I = some r → aGo kad d 19 (32, ([], [])) (aMem Z I, t) (qI Z t r) := by
  intro  I r h
  unfold f19_b32 at h
  refine go_ops aMi19 1 _ (f1 := (33, ([], [.int (Int32.ofInt (-1))]))) rfl ?_
  cases h
  exact go_ret aMi19 rfl aRetI ⟨rfl, rfl⟩
def f19_b54 (kad : Nat → Nat) (N : Nat) (Z : AZ) (i2 : Int32) (s0 : Int32) (I : AI) : Option (Int32 × AI) :=
  some (((s0 + i2) &&& (65535 : Int32)), I)
theorem Tf19_b54 {kad : Nat → Nat} {N : Nat} {Z : AZ} {d : Nat} {t : Option Nat × (Nat × Nat)} (hd : 1 ≤ d) : ∀ (i2 : Int32) (s0 : Int32) (I : AI) (r : Int32 × AI), f19_b54 kad N Z i2 s0 I = some r → aGo kad d 19 (54, ([(2, .int i2)], [.int s0])) (aMem Z I, t) (qI Z t r) := by
  intro i2 s0 I r h
  unfold f19_b54 at h
  refine go_ops aMi19 4 _ (f1 := (60, ([(4, .int s0), (2, .int i2)], [.int (s0 + i2)]))) rfl ?_
  refine gg_kI (Or.inl ⟨rfl, rfl⟩) aMi19 rfl rfl ?_
  refine go_ops aMi19 1 _ (f1 := (63, ([(4, .int s0), (2, .int i2)], [.int ((s0 + i2) &&& (65535 : Int32))]))) rfl ?_
  cases h
  exact go_ret aMi19 rfl aRetI ⟨rfl, rfl⟩
def f19 (kad : Nat → Nat) (N : Nat) (Z : AZ) (a0 : Nat) (i1 : Int32) (i2 : Int32) (i3 : Int32) (I : AI) : Option (Int32 × AI) :=
  if ¬ i1 = 0 then
    if ¬ i1 = (1 : Int32) then
      if i3 ≤ 0 then
        f19_b32 kad N Z  I
      else
        if i3 ≤ (300 : Int32) then
          if ¬ i1 = (2 : Int32) then
            (gR Z I 0 9 a0).bind fun b49_1 =>
            (lI Z I 100 b49_1 i3).bind fun x53_2 =>
            f19_b54 kad N Z i2 x53_2 I
          else
            (gR Z I 0 8 a0).bind fun b40_3 =>
            (lI Z I 100 b40_3 i3).bind fun x44_4 =>
            f19_b54 kad N Z i2 x44_4 I
        else
          f19_b32 kad N Z  I
    else
      (f13 kad N Z i2 i3 I).bind fun r14_5 =>
      (isK Z a0 0).bind fun u17_6 =>
      (f21 kad N Z a0 r14_5.1 r14_5.2).bind fun r17_7 =>
      some (r17_7.1, r17_7.2)
  else
    some (i2, I)
theorem Tf19 {kad : Nat → Nat} {N : Nat} {Z : AZ} {d : Nat} {t : Option Nat × (Nat × Nat)} (hd : 1 ≤ d) : ∀ (a0 : Nat) (i1 : Int32) (i2 : Int32) (i3 : Int32) (I : AI) (r : Int32 × AI), f19 kad N Z a0 i1 i2 i3 I = some r → aGo kad d 19 (0, ([(0, .ref a0), (1, .int i1), (2, .int i2), (3, .int i3)], [])) (aMem Z I, t) (qI Z t r) := by
  intro a0 i1 i2 i3 I r h
  unfold f19 at h
  refine go_ops aMi19 1 _ (f1 := (1, ([(0, .ref a0), (1, .int i1), (2, .int i2), (3, .int i3)], [.int i1]))) rfl ?_
  refine gg_br (b := decide (¬ i1 = 0)) (tg := 6) (off := 5) aMi19 rfl rfl rfl rfl (fun hb => ?_) (fun hb => ?_)
  · rw [if_pos (of_decide_eq_true hb)] at h
    refine go_ops aMi19 2 _ (f1 := (8, ([(0, .ref a0), (1, .int i1), (2, .int i2), (3, .int i3)], [.int (1 : Int32), .int i1]))) rfl ?_
    refine gg_br (b := decide (¬ i1 = (1 : Int32))) (tg := 21) (off := 13) aMi19 rfl rfl rfl rfl (fun hb => ?_) (fun hb => ?_)
    · rw [if_pos (of_decide_eq_true hb)] at h
      refine go_ops aMi19 1 _ (f1 := (22, ([(0, .ref a0), (1, .int i1), (2, .int i2), (3, .int i3)], [.int i3]))) rfl ?_
      refine gg_br (b := decide (i3 ≤ 0)) (tg := 32) (off := 10) aMi19 rfl rfl rfl rfl (fun hb => ?_) (fun hb => ?_)
      · rw [if_pos (of_decide_eq_true hb)] at h
        refine go_le (lv1 := []) (aLe_of (show (List.map (fun q => q.1) ([] : ALv)).Nodup from (by show ([] : List Nat).Nodup; decide)) aSubL_nil) ?_
        exact Tf19_b32 hd  I _ h
      · rw [if_neg (of_decide_eq_false hb)] at h
        refine go_ops aMi19 2 _ (f1 := (29, ([(0, .ref a0), (1, .int i1), (2, .int i2), (3, .int i3)], [.int (300 : Int32), .int i3]))) rfl ?_
        refine gg_br (b := decide (i3 ≤ (300 : Int32))) (tg := 34) (off := 5) aMi19 rfl rfl rfl rfl (fun hb => ?_) (fun hb => ?_)
        · rw [if_pos (of_decide_eq_true hb)] at h
          refine go_ops aMi19 2 _ (f1 := (36, ([(0, .ref a0), (1, .int i1), (2, .int i2), (3, .int i3)], [.int (2 : Int32), .int i1]))) rfl ?_
          refine gg_br (b := decide (¬ i1 = (2 : Int32))) (tg := 48) (off := 12) aMi19 rfl rfl rfl rfl (fun hb => ?_) (fun hb => ?_)
          · rw [if_pos (of_decide_eq_true hb)] at h
            refine go_ops aMi19 1 _ (f1 := (49, ([(0, .ref a0), (1, .int i1), (2, .int i2), (3, .int i3)], [.ref a0]))) rfl ?_
            obtain ⟨b49_1, hxb49_1, h⟩ := Option.bind_eq_some_iff.mp h
            refine gg_gR aMi19 rfl rfl rfl hxb49_1 ?_
            refine go_ops aMi19 1 _ (f1 := (53, ([(0, .ref a0), (1, .int i1), (2, .int i2), (3, .int i3)], [.int i3, .ref b49_1]))) rfl ?_
            obtain ⟨x53_2, hxx53_2, h⟩ := Option.bind_eq_some_iff.mp h
            refine gg_lI (Or.inl ⟨rfl, rfl⟩) aMi19 rfl hxx53_2 ?_
            refine go_le (lv1 := [(2, .int i2)]) (aLe_of (show (List.map (fun q => q.1) ([(2, .int i2)] : ALv)).Nodup from (by show ([2] : List Nat).Nodup; decide)) (aSubL_cons rfl aSubL_nil)) ?_
            exact Tf19_b54 hd i2 x53_2 I _ h
          · rw [if_neg (of_decide_eq_false hb)] at h
            refine go_ops aMi19 1 _ (f1 := (40, ([(0, .ref a0), (1, .int i1), (2, .int i2), (3, .int i3)], [.ref a0]))) rfl ?_
            obtain ⟨b40_3, hxb40_3, h⟩ := Option.bind_eq_some_iff.mp h
            refine gg_gR aMi19 rfl rfl rfl hxb40_3 ?_
            refine go_ops aMi19 1 _ (f1 := (44, ([(0, .ref a0), (1, .int i1), (2, .int i2), (3, .int i3)], [.int i3, .ref b40_3]))) rfl ?_
            obtain ⟨x44_4, hxx44_4, h⟩ := Option.bind_eq_some_iff.mp h
            refine gg_lI (Or.inl ⟨rfl, rfl⟩) aMi19 rfl hxx44_4 ?_
            refine go_ops aMi19 1 _ (f1 := (54, ([(0, .ref a0), (1, .int i1), (2, .int i2), (3, .int i3)], [.int x44_4]))) rfl ?_
            refine go_le (lv1 := [(2, .int i2)]) (aLe_of (show (List.map (fun q => q.1) ([(2, .int i2)] : ALv)).Nodup from (by show ([2] : List Nat).Nodup; decide)) (aSubL_cons rfl aSubL_nil)) ?_
            exact Tf19_b54 hd i2 x44_4 I _ h
        · rw [if_neg (of_decide_eq_false hb)] at h
          refine go_le (lv1 := []) (aLe_of (show (List.map (fun q => q.1) ([] : ALv)).Nodup from (by show ([] : List Nat).Nodup; decide)) aSubL_nil) ?_
          exact Tf19_b32 hd  I _ h
    · rw [if_neg (of_decide_eq_false hb)] at h
      refine go_ops aMi19 3 _ (f1 := (14, ([(0, .ref a0), (1, .int i1), (2, .int i2), (3, .int i3)], [.int i3, .int i2, .ref a0]))) rfl ?_
      obtain ⟨r14_5, hxr14_5, h⟩ := Option.bind_eq_some_iff.mp h
      refine gg_cs (as := [.int i2, .int i3]) (r := [.ref a0]) aMi19 rfl rfl rfl aMi13 rfl (Nat.le_of_ble_eq_true rfl) (Nat.le_of_ble_eq_true rfl) (by omega) (Tf13 (by omega) i2 i3 I _ hxr14_5) ?_
      show aGo kad d 19 (17, ([(0, .ref a0), (1, .int i1), (2, .int i2), (3, .int i3)], [.int r14_5.1, .ref a0])) (aMem Z r14_5.2, t) _
      obtain ⟨u17_6, hxu17_6, h⟩ := Option.bind_eq_some_iff.mp h
      obtain ⟨r17_7, hxr17_7, h⟩ := Option.bind_eq_some_iff.mp h
      refine gg_cv (as := [.int r14_5.1]) (r := []) aMi19 rfl rfl rfl aMi21 (Nat.le_of_ble_eq_true rfl) rfl (Nat.le_of_ble_eq_true rfl) (Nat.le_of_ble_eq_true rfl) (by omega) hxu17_6 (Tf21 (by omega) a0 r14_5.1 r14_5.2 _ hxr17_7) ?_
      show aGo kad d 19 (20, ([(0, .ref a0), (1, .int i1), (2, .int i2), (3, .int i3)], [.int r17_7.1])) (aMem Z r17_7.2, t) _
      cases h
      exact go_ret aMi19 rfl aRetI ⟨rfl, rfl⟩
  · rw [if_neg (of_decide_eq_false hb)] at h
    refine go_ops aMi19 1 _ (f1 := (5, ([(0, .ref a0), (1, .int i1), (2, .int i2), (3, .int i3)], [.int i2]))) rfl ?_
    cases h
    exact go_ret aMi19 rfl aRetI ⟨rfl, rfl⟩
-- KernelGym$Assembler.errorOf (II)I
def f20_b21 (kad : Nat → Nat) (N : Nat) (Z : AZ) (s0 : Int32) (I : AI) : Option (Int32 × AI) :=
  some (s0, I)
theorem Tf20_b21 {kad : Nat → Nat} {N : Nat} {Z : AZ} {d : Nat} {t : Option Nat × (Nat × Nat)} (hd : 0 ≤ d) : ∀ (s0 : Int32) (I : AI) (r : Int32 × AI), f20_b21 kad N Z s0 I = some r → aGo kad d 20 (21, ([], [.int s0])) (aMem Z I, t) (qI Z t r) := by
  intro s0 I r h
  unfold f20_b21 at h
  cases h
  exact go_ret aMi20 rfl aRetI ⟨rfl, rfl⟩
def f20 (kad : Nat → Nat) (N : Nat) (Z : AZ) (i0 : Int32) (i1 : Int32) (I : AI) : Option (Int32 × AI) :=
  if i1 = (Int32.ofInt (-1)) then
    if ¬ i0 = (1 : Int32) then
      f20_b21 kad N Z (7 : Int32) I
    else
      f20_b21 kad N Z (6 : Int32) I
  else
    f20_b21 kad N Z (0 : Int32) I
theorem Tf20 {kad : Nat → Nat} {N : Nat} {Z : AZ} {d : Nat} {t : Option Nat × (Nat × Nat)} (hd : 0 ≤ d) : ∀ (i0 : Int32) (i1 : Int32) (I : AI) (r : Int32 × AI), f20 kad N Z i0 i1 I = some r → aGo kad d 20 (0, ([(0, .int i0), (1, .int i1)], [])) (aMem Z I, t) (qI Z t r) := by
  intro i0 i1 I r h
  unfold f20 at h
  refine go_ops aMi20 2 _ (f1 := (2, ([(0, .int i0), (1, .int i1)], [.int (Int32.ofInt (-1)), .int i1]))) rfl ?_
  refine gg_br (b := decide (i1 = (Int32.ofInt (-1)))) (tg := 9) (off := 7) aMi20 rfl rfl rfl rfl (fun hb => ?_) (fun hb => ?_)
  · rw [if_pos (of_decide_eq_true hb)] at h
    refine go_ops aMi20 2 _ (f1 := (11, ([(0, .int i0), (1, .int i1)], [.int (1 : Int32), .int i0]))) rfl ?_
    refine gg_br (b := decide (¬ i0 = (1 : Int32))) (tg := 19) (off := 8) aMi20 rfl rfl rfl rfl (fun hb => ?_) (fun hb => ?_)
    · rw [if_pos (of_decide_eq_true hb)] at h
      refine go_ops aMi20 1 _ (f1 := (21, ([(0, .int i0), (1, .int i1)], [.int (7 : Int32)]))) rfl ?_
      refine go_le (lv1 := []) (aLe_of (show (List.map (fun q => q.1) ([] : ALv)).Nodup from (by show ([] : List Nat).Nodup; decide)) aSubL_nil) ?_
      exact Tf20_b21 hd (7 : Int32) I _ h
    · rw [if_neg (of_decide_eq_false hb)] at h
      refine go_ops aMi20 2 _ (f1 := (21, ([(0, .int i0), (1, .int i1)], [.int (6 : Int32)]))) rfl ?_
      refine go_le (lv1 := []) (aLe_of (show (List.map (fun q => q.1) ([] : ALv)).Nodup from (by show ([] : List Nat).Nodup; decide)) aSubL_nil) ?_
      exact Tf20_b21 hd (6 : Int32) I _ h
  · rw [if_neg (of_decide_eq_false hb)] at h
    refine go_ops aMi20 2 _ (f1 := (21, ([(0, .int i0), (1, .int i1)], [.int (0 : Int32)]))) rfl ?_
    refine go_le (lv1 := []) (aLe_of (show (List.map (fun q => q.1) ([] : ALv)).Nodup from (by show ([] : List Nat).Nodup; decide)) aSubL_nil) ?_
    exact Tf20_b21 hd (0 : Int32) I _ h
-- KernelGym$Assembler.setArguments (III)V
def f22_b25 (kad : Nat → Nat) (N : Nat) (Z : AZ)  (I : AI) : Option (Unit × AI) :=
  some ((), I)
theorem Tf22_b25 {kad : Nat → Nat} {N : Nat} {Z : AZ} {d : Nat} {t : Option Nat × (Nat × Nat)} (hd : 0 ≤ d) : ∀  (I : AI) (r : Unit × AI), f22_b25 kad N Z  I = some r → aGo kad d 22 (25, ([], [])) (aMem Z I, t) (qV Z t r) := by
  intro  I r h
  unfold f22_b25 at h
  cases h
  exact go_ret aMi22 rfl rfl ⟨rfl, rfl⟩
def f22 (kad : Nat → Nat) (N : Nat) (Z : AZ) (a0 : Nat) (i1 : Int32) (i2 : Int32) (i3 : Int32) (I : AI) : Option (Unit × AI) :=
  if i1 ≤ 0 then
    f22_b25 kad N Z  I
  else
    if (300 : Int32) < i1 then
      f22_b25 kad N Z  I
    else
      (gR Z I 0 8 a0).bind fun b12_1 =>
      (sI Z I 100 b12_1 i1 i2).bind fun I17_2 =>
      (gR Z I17_2 0 9 a0).bind fun b19_3 =>
      (sI Z I17_2 100 b19_3 i1 i3).bind fun I24_4 =>
      f22_b25 kad N Z  I24_4
theorem Tf22 {kad : Nat → Nat} {N : Nat} {Z : AZ} {d : Nat} {t : Option Nat × (Nat × Nat)} (hd : 0 ≤ d) : ∀ (a0 : Nat) (i1 : Int32) (i2 : Int32) (i3 : Int32) (I : AI) (r : Unit × AI), f22 kad N Z a0 i1 i2 i3 I = some r → aGo kad d 22 (0, ([(0, .ref a0), (1, .int i1), (2, .int i2), (3, .int i3)], [])) (aMem Z I, t) (qV Z t r) := by
  intro a0 i1 i2 i3 I r h
  unfold f22 at h
  refine go_ops aMi22 1 _ (f1 := (1, ([(0, .ref a0), (1, .int i1), (2, .int i2), (3, .int i3)], [.int i1]))) rfl ?_
  refine gg_br (b := decide (i1 ≤ 0)) (tg := 25) (off := 24) aMi22 rfl rfl rfl rfl (fun hb => ?_) (fun hb => ?_)
  · rw [if_pos (of_decide_eq_true hb)] at h
    refine go_le (lv1 := []) (aLe_of (show (List.map (fun q => q.1) ([] : ALv)).Nodup from (by show ([] : List Nat).Nodup; decide)) aSubL_nil) ?_
    exact Tf22_b25 hd  I _ h
  · rw [if_neg (of_decide_eq_false hb)] at h
    refine go_ops aMi22 2 _ (f1 := (8, ([(0, .ref a0), (1, .int i1), (2, .int i2), (3, .int i3)], [.int (300 : Int32), .int i1]))) rfl ?_
    refine gg_br (b := decide ((300 : Int32) < i1)) (tg := 25) (off := 17) aMi22 rfl rfl rfl rfl (fun hb => ?_) (fun hb => ?_)
    · rw [if_pos (of_decide_eq_true hb)] at h
      refine go_le (lv1 := []) (aLe_of (show (List.map (fun q => q.1) ([] : ALv)).Nodup from (by show ([] : List Nat).Nodup; decide)) aSubL_nil) ?_
      exact Tf22_b25 hd  I _ h
    · rw [if_neg (of_decide_eq_false hb)] at h
      refine go_ops aMi22 1 _ (f1 := (12, ([(0, .ref a0), (1, .int i1), (2, .int i2), (3, .int i3)], [.ref a0]))) rfl ?_
      obtain ⟨b12_1, hxb12_1, h⟩ := Option.bind_eq_some_iff.mp h
      refine gg_gR aMi22 rfl rfl rfl hxb12_1 ?_
      refine go_ops aMi22 2 _ (f1 := (17, ([(0, .ref a0), (1, .int i1), (2, .int i2), (3, .int i3)], [.int i2, .int i1, .ref b12_1]))) rfl ?_
      obtain ⟨I17_2, hxI17_2, h⟩ := Option.bind_eq_some_iff.mp h
      refine gg_sI (Or.inl ⟨rfl, rfl⟩) aMi22 rfl hxI17_2 ?_
      refine go_ops aMi22 1 _ (f1 := (19, ([(0, .ref a0), (1, .int i1), (2, .int i2), (3, .int i3)], [.ref a0]))) rfl ?_
      obtain ⟨b19_3, hxb19_3, h⟩ := Option.bind_eq_some_iff.mp h
      refine gg_gR aMi22 rfl rfl rfl hxb19_3 ?_
      refine go_ops aMi22 2 _ (f1 := (24, ([(0, .ref a0), (1, .int i1), (2, .int i2), (3, .int i3)], [.int i3, .int i1, .ref b19_3]))) rfl ?_
      obtain ⟨I24_4, hxI24_4, h⟩ := Option.bind_eq_some_iff.mp h
      refine gg_sI (Or.inl ⟨rfl, rfl⟩) aMi22 rfl hxI24_4 ?_
      refine go_le (lv1 := []) (aLe_of (show (List.map (fun q => q.1) ([] : ALv)).Nodup from (by show ([] : List Nat).Nodup; decide)) aSubL_nil) ?_
      exact Tf22_b25 hd  I24_4 _ h
