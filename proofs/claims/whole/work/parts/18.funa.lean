-- KernelGym$Assembler.removeLines ()I
def f1 (kad : Nat → Nat) (N : Nat) (Z : AZ) (a0 : Nat) (I : AI) : Option (Int32 × AI) :=
  (gI Z I 0 0 a0).bind fun x1_1 =>
  (pI Z I 0 0 a0 (0 : Int32)).bind fun I7_2 =>
  some (x1_1, I7_2)
set_option maxRecDepth 20000 in
theorem Tf1 {kad : Nat → Nat} {N : Nat} {Z : AZ} {d : Nat} {t : Option Nat × (Nat × Nat)} (hd : 0 ≤ d) : ∀ (a0 : Nat) (I : AI) (r : Int32 × AI), f1 kad N Z a0 I = some r → aGo kad d 1 (0, ([(0, .ref a0)], [])) (aMem Z I, t) (qI Z t r) := by
  intro a0 I r h
  unfold f1 at h
  refine go_ops aMi1 1 _ (f1 := (1, ([(0, .ref a0)], [.ref a0]))) rfl ?_
  obtain ⟨x1_1, hxx1_1, h⟩ := Option.bind_eq_some_iff.mp h
  refine gg_gI aMi1 rfl rfl rfl hxx1_1 ?_
  refine go_ops aMi1 3 _ (f1 := (7, ([(1, .int x1_1), (0, .ref a0)], [.int (0 : Int32), .ref a0]))) rfl ?_
  obtain ⟨I7_2, hxI7_2, h⟩ := Option.bind_eq_some_iff.mp h
  refine gg_pI aMi1 rfl rfl rfl rfl (by decide) hxI7_2 ?_
  refine go_ops aMi1 1 _ (f1 := (11, ([(1, .int x1_1), (0, .ref a0)], [.int x1_1]))) rfl ?_
  cases h
  exact go_ret aMi1 rfl aRetI ⟨rfl, rfl⟩
-- KernelGym$Assembler.add (LKernelGym$Does;III)I
def f2_b67 (kad : Nat → Nat) (N : Nat) (Z : AZ) (a0 : Nat) (I : AI) : Option (Int32 × AI) :=
  (gI Z I 0 0 a0).bind fun x68_1 =>
  some (x68_1, I)
set_option maxRecDepth 20000 in
theorem Tf2_b67 {kad : Nat → Nat} {N : Nat} {Z : AZ} {d : Nat} {t : Option Nat × (Nat × Nat)} (hd : 0 ≤ d) : ∀ (a0 : Nat) (I : AI) (r : Int32 × AI), f2_b67 kad N Z a0 I = some r → aGo kad d 2 (67, ([(0, .ref a0)], [])) (aMem Z I, t) (qI Z t r) := by
  intro a0 I r h
  unfold f2_b67 at h
  refine go_ops aMi2 1 _ (f1 := (68, ([(0, .ref a0)], [.ref a0]))) rfl ?_
  obtain ⟨x68_1, hxx68_1, h⟩ := Option.bind_eq_some_iff.mp h
  refine gg_gI aMi2 rfl rfl rfl hxx68_1 ?_
  cases h
  exact go_ret aMi2 rfl aRetI ⟨rfl, rfl⟩
def f2 (kad : Nat → Nat) (N : Nat) (Z : AZ) (a0 : Nat) (a1 : Nat) (i2 : Int32) (i3 : Int32) (i4 : Int32) (I : AI) : Option (Int32 × AI) :=
  (gI Z I 0 0 a0).bind fun x1_1 =>
  if (100 : Int32) ≤ x1_1 then
    f2_b67 kad N Z a0 I
  else
    (gR Z I 0 2 a0).bind fun b10_2 =>
    (gI Z I 0 0 a0).bind fun x14_3 =>
    (lR Z I b10_2 x14_3).bind fun b17_4 =>
    (pR Z I 7 0 b17_4 a1).bind fun I23_5 =>
    (pI Z I23_5 7 1 b17_4 i2).bind fun I29_6 =>
    (pI Z I29_6 7 2 b17_4 i3).bind fun I35_7 =>
    (pI Z I35_7 7 3 b17_4 i4).bind fun I42_8 =>
    (pI Z I42_8 7 4 b17_4 (0 : Int32)).bind fun I48_9 =>
    (pI Z I48_9 7 5 b17_4 (0 : Int32)).bind fun I54_10 =>
    (gI Z I54_10 0 0 a0).bind fun x59_11 =>
    (pI Z I54_10 0 0 a0 (x59_11 + (1 : Int32))).bind fun I64_12 =>
    f2_b67 kad N Z a0 I64_12
set_option maxRecDepth 20000 in
theorem Tf2 {kad : Nat → Nat} {N : Nat} {Z : AZ} {d : Nat} {t : Option Nat × (Nat × Nat)} (hd : 0 ≤ d) : ∀ (a0 : Nat) (a1 : Nat) (i2 : Int32) (i3 : Int32) (i4 : Int32) (I : AI) (r : Int32 × AI), f2 kad N Z a0 a1 i2 i3 i4 I = some r → aGo kad d 2 (0, ([(0, .ref a0), (1, .ref a1), (2, .int i2), (3, .int i3), (4, .int i4)], [])) (aMem Z I, t) (qI Z t r) := by
  intro a0 a1 i2 i3 i4 I r h
  unfold f2 at h
  refine go_ops aMi2 1 _ (f1 := (1, ([(0, .ref a0), (1, .ref a1), (2, .int i2), (3, .int i3), (4, .int i4)], [.ref a0]))) rfl ?_
  obtain ⟨x1_1, hxx1_1, h⟩ := Option.bind_eq_some_iff.mp h
  refine gg_gI aMi2 rfl rfl rfl hxx1_1 ?_
  refine go_ops aMi2 1 _ (f1 := (6, ([(0, .ref a0), (1, .ref a1), (2, .int i2), (3, .int i3), (4, .int i4)], [.int (100 : Int32), .int x1_1]))) rfl ?_
  refine gg_br (b := decide ((100 : Int32) ≤ x1_1)) (tg := 67) (off := 61) aMi2 rfl rfl rfl rfl (fun hb => ?_) (fun hb => ?_)
  · rw [if_pos (of_decide_eq_true hb)] at h
    refine go_le (lv1 := [(0, .ref a0)]) (aLe_of (show (List.map (fun q => q.1) ([(0, .ref a0)] : ALv)).Nodup from (by show ([0] : List Nat).Nodup; decide)) (aSubL_cons rfl aSubL_nil)) ?_
    exact Tf2_b67 hd a0 I _ h
  · rw [if_neg (of_decide_eq_false hb)] at h
    refine go_ops aMi2 1 _ (f1 := (10, ([(0, .ref a0), (1, .ref a1), (2, .int i2), (3, .int i3), (4, .int i4)], [.ref a0]))) rfl ?_
    obtain ⟨b10_2, hxb10_2, h⟩ := Option.bind_eq_some_iff.mp h
    refine gg_gR aMi2 rfl rfl rfl hxb10_2 ?_
    refine go_ops aMi2 1 _ (f1 := (14, ([(0, .ref a0), (1, .ref a1), (2, .int i2), (3, .int i3), (4, .int i4)], [.ref a0, .ref b10_2]))) rfl ?_
    obtain ⟨x14_3, hxx14_3, h⟩ := Option.bind_eq_some_iff.mp h
    refine gg_gI aMi2 rfl rfl rfl hxx14_3 ?_
    obtain ⟨b17_4, hxb17_4, h⟩ := Option.bind_eq_some_iff.mp h
    refine gg_lR aMi2 rfl hxb17_4 ?_
    refine go_ops aMi2 3 _ (f1 := (23, ([(5, .ref b17_4), (0, .ref a0), (1, .ref a1), (2, .int i2), (3, .int i3), (4, .int i4)], [.ref a1, .ref b17_4]))) rfl ?_
    obtain ⟨I23_5, hxI23_5, h⟩ := Option.bind_eq_some_iff.mp h
    refine gg_pR aMi2 rfl rfl rfl rfl (by decide) hxI23_5 ?_
    refine go_ops aMi2 2 _ (f1 := (29, ([(5, .ref b17_4), (0, .ref a0), (1, .ref a1), (2, .int i2), (3, .int i3), (4, .int i4)], [.int i2, .ref b17_4]))) rfl ?_
    obtain ⟨I29_6, hxI29_6, h⟩ := Option.bind_eq_some_iff.mp h
    refine gg_pI aMi2 rfl rfl rfl rfl (by decide) hxI29_6 ?_
    refine go_ops aMi2 2 _ (f1 := (35, ([(5, .ref b17_4), (0, .ref a0), (1, .ref a1), (2, .int i2), (3, .int i3), (4, .int i4)], [.int i3, .ref b17_4]))) rfl ?_
    obtain ⟨I35_7, hxI35_7, h⟩ := Option.bind_eq_some_iff.mp h
    refine gg_pI aMi2 rfl rfl rfl rfl (by decide) hxI35_7 ?_
    refine go_ops aMi2 2 _ (f1 := (42, ([(5, .ref b17_4), (0, .ref a0), (1, .ref a1), (2, .int i2), (3, .int i3), (4, .int i4)], [.int i4, .ref b17_4]))) rfl ?_
    obtain ⟨I42_8, hxI42_8, h⟩ := Option.bind_eq_some_iff.mp h
    refine gg_pI aMi2 rfl rfl rfl rfl (by decide) hxI42_8 ?_
    refine go_ops aMi2 2 _ (f1 := (48, ([(5, .ref b17_4), (0, .ref a0), (1, .ref a1), (2, .int i2), (3, .int i3), (4, .int i4)], [.int (0 : Int32), .ref b17_4]))) rfl ?_
    obtain ⟨I48_9, hxI48_9, h⟩ := Option.bind_eq_some_iff.mp h
    refine gg_pI aMi2 rfl rfl rfl rfl (by decide) hxI48_9 ?_
    refine go_ops aMi2 2 _ (f1 := (54, ([(5, .ref b17_4), (0, .ref a0), (1, .ref a1), (2, .int i2), (3, .int i3), (4, .int i4)], [.int (0 : Int32), .ref b17_4]))) rfl ?_
    obtain ⟨I54_10, hxI54_10, h⟩ := Option.bind_eq_some_iff.mp h
    refine gg_pI aMi2 rfl rfl rfl rfl (by decide) hxI54_10 ?_
    refine go_ops aMi2 2 _ (f1 := (59, ([(5, .ref b17_4), (0, .ref a0), (1, .ref a1), (2, .int i2), (3, .int i3), (4, .int i4)], [.ref a0, .ref a0]))) rfl ?_
    obtain ⟨x59_11, hxx59_11, h⟩ := Option.bind_eq_some_iff.mp h
    refine gg_gI aMi2 rfl rfl rfl hxx59_11 ?_
    refine go_ops aMi2 2 _ (f1 := (64, ([(5, .ref b17_4), (0, .ref a0), (1, .ref a1), (2, .int i2), (3, .int i3), (4, .int i4)], [.int (x59_11 + (1 : Int32)), .ref a0]))) rfl ?_
    obtain ⟨I64_12, hxI64_12, h⟩ := Option.bind_eq_some_iff.mp h
    refine gg_pI aMi2 rfl rfl rfl rfl (by decide) hxI64_12 ?_
    refine go_le (lv1 := [(0, .ref a0)]) (aLe_of (show (List.map (fun q => q.1) ([(0, .ref a0)] : ALv)).Nodup from (by show ([0] : List Nat).Nodup; decide)) (aSubL_cons rfl aSubL_nil)) ?_
    exact Tf2_b67 hd a0 I64_12 _ h
-- KernelGym$Assembler.setSecondOperand (II)V
def f3_b38 (kad : Nat → Nat) (N : Nat) (Z : AZ)  (I : AI) : Option (Unit × AI) :=
  some ((), I)
set_option maxRecDepth 20000 in
theorem Tf3_b38 {kad : Nat → Nat} {N : Nat} {Z : AZ} {d : Nat} {t : Option Nat × (Nat × Nat)} (hd : 0 ≤ d) : ∀  (I : AI) (r : Unit × AI), f3_b38 kad N Z  I = some r → aGo kad d 3 (38, ([], [])) (aMem Z I, t) (qV Z t r) := by
  intro  I r h
  unfold f3_b38 at h
  cases h
  exact go_ret aMi3 rfl rfl ⟨rfl, rfl⟩
def f3 (kad : Nat → Nat) (N : Nat) (Z : AZ) (a0 : Nat) (i1 : Int32) (i2 : Int32) (I : AI) : Option (Unit × AI) :=
  (gI Z I 0 0 a0).bind fun x1_1 =>
  if x1_1 ≤ 0 then
    f3_b38 kad N Z  I
  else
    (gI Z I 0 0 a0).bind fun x8_2 =>
    if (100 : Int32) < x8_2 then
      f3_b38 kad N Z  I
    else
      (gR Z I 0 2 a0).bind fun b17_3 =>
      (gI Z I 0 0 a0).bind fun x21_4 =>
      (lR Z I b17_3 (x21_4 - (1 : Int32))).bind fun b26_5 =>
      (pI Z I 7 4 b26_5 i1).bind fun I30_6 =>
      (pI Z I30_6 7 5 b26_5 i2).bind fun I35_7 =>
      f3_b38 kad N Z  I35_7
set_option maxRecDepth 20000 in
theorem Tf3 {kad : Nat → Nat} {N : Nat} {Z : AZ} {d : Nat} {t : Option Nat × (Nat × Nat)} (hd : 0 ≤ d) : ∀ (a0 : Nat) (i1 : Int32) (i2 : Int32) (I : AI) (r : Unit × AI), f3 kad N Z a0 i1 i2 I = some r → aGo kad d 3 (0, ([(0, .ref a0), (1, .int i1), (2, .int i2)], [])) (aMem Z I, t) (qV Z t r) := by
  intro a0 i1 i2 I r h
  unfold f3 at h
  refine go_ops aMi3 1 _ (f1 := (1, ([(0, .ref a0), (1, .int i1), (2, .int i2)], [.ref a0]))) rfl ?_
  obtain ⟨x1_1, hxx1_1, h⟩ := Option.bind_eq_some_iff.mp h
  refine gg_gI aMi3 rfl rfl rfl hxx1_1 ?_
  refine gg_br (b := decide (x1_1 ≤ 0)) (tg := 38) (off := 34) aMi3 rfl rfl rfl rfl (fun hb => ?_) (fun hb => ?_)
  · rw [if_pos (of_decide_eq_true hb)] at h
    refine go_le (lv1 := []) (aLe_of (show (List.map (fun q => q.1) ([] : ALv)).Nodup from (by show ([] : List Nat).Nodup; decide)) aSubL_nil) ?_
    exact Tf3_b38 hd  I _ h
  · rw [if_neg (of_decide_eq_false hb)] at h
    refine go_ops aMi3 1 _ (f1 := (8, ([(0, .ref a0), (1, .int i1), (2, .int i2)], [.ref a0]))) rfl ?_
    obtain ⟨x8_2, hxx8_2, h⟩ := Option.bind_eq_some_iff.mp h
    refine gg_gI aMi3 rfl rfl rfl hxx8_2 ?_
    refine go_ops aMi3 1 _ (f1 := (13, ([(0, .ref a0), (1, .int i1), (2, .int i2)], [.int (100 : Int32), .int x8_2]))) rfl ?_
    refine gg_br (b := decide ((100 : Int32) < x8_2)) (tg := 38) (off := 25) aMi3 rfl rfl rfl rfl (fun hb => ?_) (fun hb => ?_)
    · rw [if_pos (of_decide_eq_true hb)] at h
      refine go_le (lv1 := []) (aLe_of (show (List.map (fun q => q.1) ([] : ALv)).Nodup from (by show ([] : List Nat).Nodup; decide)) aSubL_nil) ?_
      exact Tf3_b38 hd  I _ h
    · rw [if_neg (of_decide_eq_false hb)] at h
      refine go_ops aMi3 1 _ (f1 := (17, ([(0, .ref a0), (1, .int i1), (2, .int i2)], [.ref a0]))) rfl ?_
      obtain ⟨b17_3, hxb17_3, h⟩ := Option.bind_eq_some_iff.mp h
      refine gg_gR aMi3 rfl rfl rfl hxb17_3 ?_
      refine go_ops aMi3 1 _ (f1 := (21, ([(0, .ref a0), (1, .int i1), (2, .int i2)], [.ref a0, .ref b17_3]))) rfl ?_
      obtain ⟨x21_4, hxx21_4, h⟩ := Option.bind_eq_some_iff.mp h
      refine gg_gI aMi3 rfl rfl rfl hxx21_4 ?_
      refine go_ops aMi3 2 _ (f1 := (26, ([(0, .ref a0), (1, .int i1), (2, .int i2)], [.int (x21_4 - (1 : Int32)), .ref b17_3]))) rfl ?_
      obtain ⟨b26_5, hxb26_5, h⟩ := Option.bind_eq_some_iff.mp h
      refine gg_lR aMi3 rfl hxb26_5 ?_
      refine go_ops aMi3 3 _ (f1 := (30, ([(3, .ref b26_5), (0, .ref a0), (1, .int i1), (2, .int i2)], [.int i1, .ref b26_5]))) rfl ?_
      obtain ⟨I30_6, hxI30_6, h⟩ := Option.bind_eq_some_iff.mp h
      refine gg_pI aMi3 rfl rfl rfl rfl (by decide) hxI30_6 ?_
      refine go_ops aMi3 2 _ (f1 := (35, ([(3, .ref b26_5), (0, .ref a0), (1, .int i1), (2, .int i2)], [.int i2, .ref b26_5]))) rfl ?_
      obtain ⟨I35_7, hxI35_7, h⟩ := Option.bind_eq_some_iff.mp h
      refine gg_pI aMi3 rfl rfl rfl rfl (by decide) hxI35_7 ?_
      refine go_le (lv1 := []) (aLe_of (show (List.map (fun q => q.1) ([] : ALv)).Nodup from (by show ([] : List Nat).Nodup; decide)) aSubL_nil) ?_
      exact Tf3_b38 hd  I35_7 _ h
-- KernelGym$Assembler.wordsTogether ()I
def f4 (kad : Nat → Nat) (N : Nat) (Z : AZ) (a0 : Nat) (I : AI) : Option (Int32 × AI) :=
  (gR Z I 0 10 a0).bind fun b1_1 =>
  (lI Z I 100 b1_1 (0 : Int32)).bind fun x5_2 =>
  (gR Z I 0 10 a0).bind fun b7_3 =>
  (lI Z I 100 b7_3 (1 : Int32)).bind fun x11_4 =>
  some ((x5_2 + x11_4), I)
set_option maxRecDepth 20000 in
theorem Tf4 {kad : Nat → Nat} {N : Nat} {Z : AZ} {d : Nat} {t : Option Nat × (Nat × Nat)} (hd : 0 ≤ d) : ∀ (a0 : Nat) (I : AI) (r : Int32 × AI), f4 kad N Z a0 I = some r → aGo kad d 4 (0, ([(0, .ref a0)], [])) (aMem Z I, t) (qI Z t r) := by
  intro a0 I r h
  unfold f4 at h
  refine go_ops aMi4 1 _ (f1 := (1, ([(0, .ref a0)], [.ref a0]))) rfl ?_
  obtain ⟨b1_1, hxb1_1, h⟩ := Option.bind_eq_some_iff.mp h
  refine gg_gR aMi4 rfl rfl rfl hxb1_1 ?_
  refine go_ops aMi4 1 _ (f1 := (5, ([(0, .ref a0)], [.int (0 : Int32), .ref b1_1]))) rfl ?_
  obtain ⟨x5_2, hxx5_2, h⟩ := Option.bind_eq_some_iff.mp h
  refine gg_lI (Or.inl ⟨rfl, rfl⟩) aMi4 rfl hxx5_2 ?_
  refine go_ops aMi4 1 _ (f1 := (7, ([(0, .ref a0)], [.ref a0, .int x5_2]))) rfl ?_
  obtain ⟨b7_3, hxb7_3, h⟩ := Option.bind_eq_some_iff.mp h
  refine gg_gR aMi4 rfl rfl rfl hxb7_3 ?_
  refine go_ops aMi4 1 _ (f1 := (11, ([(0, .ref a0)], [.int (1 : Int32), .ref b7_3, .int x5_2]))) rfl ?_
  obtain ⟨x11_4, hxx11_4, h⟩ := Option.bind_eq_some_iff.mp h
  refine gg_lI (Or.inl ⟨rfl, rfl⟩) aMi4 rfl hxx11_4 ?_
  refine go_ops aMi4 1 _ (f1 := (13, ([(0, .ref a0)], [.int (x5_2 + x11_4)]))) rfl ?_
  cases h
  exact go_ret aMi4 rfl aRetI ⟨rfl, rfl⟩
-- java/util/Arrays.fill ([II)V
def f306_b5 (kad : Nat → Nat) (N : Nat) (Z : AZ) : Nat → Nat → Int32 → Int32 → Int32 → AI → Option (Unit × AI)
  | 0, _, _, _, _, _ => none
  | F + 1, a0, i1, i2, i3, I =>
    if i3 ≤ i2 then
      some ((), I)
    else
      (sI Z I 100 a0 i2 i1).bind fun I13_1 =>
      f306_b5 kad N Z F a0 i1 (i2 + (1 : Int32)) i3 I13_1
set_option maxRecDepth 20000 in
theorem Tf306_b5 {kad : Nat → Nat} {N : Nat} {Z : AZ} {d : Nat} {t : Option Nat × (Nat × Nat)} (hd : 0 ≤ d) : ∀ (F : Nat) (a0 : Nat) (i1 : Int32) (i2 : Int32) (i3 : Int32) (I : AI) (r : Unit × AI), f306_b5 kad N Z F a0 i1 i2 i3 I = some r → aGo kad d 306 (5, ([(0, .ref a0), (1, .int i1), (2, .int i2), (3, .int i3)], [])) (aMem Z I, t) (qV Z t r) := by
  intro F
  induction F with
  | zero => intro a0 i1 i2 i3 I r h; cases h
  | succ F ih =>
    intro a0 i1 i2 i3 I r h
    unfold f306_b5 at h
    refine go_ops aMi306 2 _ (f1 := (7, ([(0, .ref a0), (1, .int i1), (2, .int i2), (3, .int i3)], [.int i3, .int i2]))) rfl ?_
    refine gg_br (b := decide (i3 ≤ i2)) (tg := 20) (off := 13) aMi306 rfl rfl rfl rfl (fun hb => ?_) (fun hb => ?_)
    · rw [if_pos (of_decide_eq_true hb)] at h
      cases h
      exact go_ret aMi306 rfl rfl ⟨rfl, rfl⟩
    · rw [if_neg (of_decide_eq_false hb)] at h
      refine go_ops aMi306 3 _ (f1 := (13, ([(0, .ref a0), (1, .int i1), (2, .int i2), (3, .int i3)], [.int i1, .int i2, .ref a0]))) rfl ?_
      obtain ⟨I13_1, hxI13_1, h⟩ := Option.bind_eq_some_iff.mp h
      refine gg_sI (Or.inl ⟨rfl, rfl⟩) aMi306 rfl hxI13_1 ?_
      refine go_ops aMi306 2 _ (f1 := (5, ([(2, .int (i2 + (1 : Int32))), (0, .ref a0), (1, .int i1), (3, .int i3)], []))) rfl ?_
      refine go_le (lv1 := [(0, .ref a0), (1, .int i1), (2, .int (i2 + (1 : Int32))), (3, .int i3)]) (aLe_of (show (List.map (fun q => q.1) ([(0, .ref a0), (1, .int i1), (2, .int (i2 + (1 : Int32))), (3, .int i3)] : ALv)).Nodup from (by show ([0, 1, 2, 3] : List Nat).Nodup; decide)) (aSubL_cons rfl (aSubL_cons rfl (aSubL_cons rfl (aSubL_cons rfl aSubL_nil))))) ?_
      exact ih a0 i1 (i2 + (1 : Int32)) i3 I13_1 _ h
def f306 (kad : Nat → Nat) (N : Nat) (Z : AZ) (a0 : Nat) (i1 : Int32) (I : AI) : Option (Unit × AI) :=
  (nL Z a0).bind fun x3_1 =>
  f306_b5 kad N Z N a0 i1 (0 : Int32) x3_1 I
set_option maxRecDepth 20000 in
theorem Tf306 {kad : Nat → Nat} {N : Nat} {Z : AZ} {d : Nat} {t : Option Nat × (Nat × Nat)} (hd : 0 ≤ d) : ∀ (a0 : Nat) (i1 : Int32) (I : AI) (r : Unit × AI), f306 kad N Z a0 i1 I = some r → aGo kad d 306 (0, ([(0, .ref a0), (1, .int i1)], [])) (aMem Z I, t) (qV Z t r) := by
  intro a0 i1 I r h
  unfold f306 at h
  refine go_ops aMi306 3 _ (f1 := (3, ([(2, .int (0 : Int32)), (0, .ref a0), (1, .int i1)], [.ref a0]))) rfl ?_
  obtain ⟨x3_1, hxx3_1, h⟩ := Option.bind_eq_some_iff.mp h
  refine gg_len aMi306 rfl hxx3_1 ?_
  refine go_ops aMi306 1 _ (f1 := (5, ([(3, .int x3_1), (2, .int (0 : Int32)), (0, .ref a0), (1, .int i1)], []))) rfl ?_
  refine go_le (lv1 := [(0, .ref a0), (1, .int i1), (2, .int (0 : Int32)), (3, .int x3_1)]) (aLe_of (show (List.map (fun q => q.1) ([(0, .ref a0), (1, .int i1), (2, .int (0 : Int32)), (3, .int x3_1)] : ALv)).Nodup from (by show ([0, 1, 2, 3] : List Nat).Nodup; decide)) (aSubL_cons rfl (aSubL_cons rfl (aSubL_cons rfl (aSubL_cons rfl aSubL_nil))))) ?_
  exact Tf306_b5 hd N a0 i1 (0 : Int32) x3_1 I _ h
-- KernelGym$Assembler.beginTime (Z)V
def f6 (kad : Nat → Nat) (N : Nat) (Z : AZ) (a0 : Nat) (i1 : Int32) (I : AI) : Option (Unit × AI) :=
  (pB Z I 0 12 a0 i1).bind fun I2_1 =>
  (pI Z I2_1 0 13 a0 (0 : Int32)).bind fun I7_2 =>
  (pI Z I7_2 0 14 a0 (0 : Int32)).bind fun I12_3 =>
  (pI Z I12_3 0 15 a0 (0 : Int32)).bind fun I17_4 =>
  (gR Z I17_4 0 10 a0).bind fun b21_5 =>
  (f306 kad N Z b21_5 (0 : Int32) I17_4).bind fun r25_6 =>
  (gR Z r25_6.2 0 1 a0).bind fun b29_7 =>
  (f306 kad N Z b29_7 (0 : Int32) r25_6.2).bind fun r33_8 =>
  some ((), r33_8.2)
set_option maxRecDepth 20000 in
theorem Tf6 {kad : Nat → Nat} {N : Nat} {Z : AZ} {d : Nat} {t : Option Nat × (Nat × Nat)} (hd : 1 ≤ d) : ∀ (a0 : Nat) (i1 : Int32) (I : AI) (r : Unit × AI), f6 kad N Z a0 i1 I = some r → aGo kad d 6 (0, ([(0, .ref a0), (1, .int i1)], [])) (aMem Z I, t) (qV Z t r) := by
  intro a0 i1 I r h
  unfold f6 at h
  refine go_ops aMi6 2 _ (f1 := (2, ([(0, .ref a0), (1, .int i1)], [.int i1, .ref a0]))) rfl ?_
  obtain ⟨I2_1, hxI2_1, h⟩ := Option.bind_eq_some_iff.mp h
  refine gg_pB aMi6 rfl rfl rfl rfl (by decide) hxI2_1 ?_
  refine go_ops aMi6 2 _ (f1 := (7, ([(0, .ref a0), (1, .int i1)], [.int (0 : Int32), .ref a0]))) rfl ?_
  obtain ⟨I7_2, hxI7_2, h⟩ := Option.bind_eq_some_iff.mp h
  refine gg_pI aMi6 rfl rfl rfl rfl (by decide) hxI7_2 ?_
  refine go_ops aMi6 2 _ (f1 := (12, ([(0, .ref a0), (1, .int i1)], [.int (0 : Int32), .ref a0]))) rfl ?_
  obtain ⟨I12_3, hxI12_3, h⟩ := Option.bind_eq_some_iff.mp h
  refine gg_pI aMi6 rfl rfl rfl rfl (by decide) hxI12_3 ?_
  refine go_ops aMi6 2 _ (f1 := (17, ([(0, .ref a0), (1, .int i1)], [.int (0 : Int32), .ref a0]))) rfl ?_
  obtain ⟨I17_4, hxI17_4, h⟩ := Option.bind_eq_some_iff.mp h
  refine gg_pI aMi6 rfl rfl rfl rfl (by decide) hxI17_4 ?_
  refine go_ops aMi6 1 _ (f1 := (21, ([(0, .ref a0), (1, .int i1)], [.ref a0]))) rfl ?_
  obtain ⟨b21_5, hxb21_5, h⟩ := Option.bind_eq_some_iff.mp h
  refine gg_gR aMi6 rfl rfl rfl hxb21_5 ?_
  refine go_ops aMi6 1 _ (f1 := (25, ([(0, .ref a0), (1, .int i1)], [.int (0 : Int32), .ref b21_5]))) rfl ?_
  obtain ⟨r25_6, hxr25_6, h⟩ := Option.bind_eq_some_iff.mp h
  refine gg_cs (as := [.ref b21_5, .int (0 : Int32)]) (r := []) aMi6 rfl rfl rfl aMi306 rfl (Nat.le_of_ble_eq_true rfl) (Nat.le_of_ble_eq_true rfl) (by omega) (Tf306 (by omega) b21_5 (0 : Int32) I17_4 _ hxr25_6) ?_
  show aGo kad d 6 (28, ([(0, .ref a0), (1, .int i1)], [])) (aMem Z r25_6.2, t) _
  refine go_ops aMi6 1 _ (f1 := (29, ([(0, .ref a0), (1, .int i1)], [.ref a0]))) rfl ?_
  obtain ⟨b29_7, hxb29_7, h⟩ := Option.bind_eq_some_iff.mp h
  refine gg_gR aMi6 rfl rfl rfl hxb29_7 ?_
  refine go_ops aMi6 1 _ (f1 := (33, ([(0, .ref a0), (1, .int i1)], [.int (0 : Int32), .ref b29_7]))) rfl ?_
  obtain ⟨r33_8, hxr33_8, h⟩ := Option.bind_eq_some_iff.mp h
  refine gg_cs (as := [.ref b29_7, .int (0 : Int32)]) (r := []) aMi6 rfl rfl rfl aMi306 rfl (Nat.le_of_ble_eq_true rfl) (Nat.le_of_ble_eq_true rfl) (by omega) (Tf306 (by omega) b29_7 (0 : Int32) r25_6.2 _ hxr33_8) ?_
  show aGo kad d 6 (36, ([(0, .ref a0), (1, .int i1)], [])) (aMem Z r33_8.2, t) _
  cases h
  exact go_ret aMi6 rfl rfl ⟨rfl, rfl⟩
-- KernelGym$Assembler.growBy (I)Z
def f12_b47 (kad : Nat → Nat) (N : Nat) (Z : AZ) (s0 : Int32) (I : AI) : Option (Int32 × AI) :=
  if s0 = 0 ∨ s0 = 1 then some (s0, I) else none
set_option maxRecDepth 20000 in
theorem Tf12_b47 {kad : Nat → Nat} {N : Nat} {Z : AZ} {d : Nat} {t : Option Nat × (Nat × Nat)} (hd : 1 ≤ d) : ∀ (s0 : Int32) (I : AI) (r : Int32 × AI), f12_b47 kad N Z s0 I = some r → aGo kad d 12 (47, ([], [.int s0])) (aMem Z I, t) (qI Z t r) := by
  intro s0 I r h
  unfold f12_b47 at h
  split at h
  · rename_i hz
    cases h
    exact go_ret aMi12 rfl (aRetZ hz) ⟨rfl, rfl⟩
  · cases h
def f12_b32 (kad : Nat → Nat) (N : Nat) (Z : AZ) (a0 : Nat) (I : AI) : Option (Int32 × AI) :=
  (isK Z a0 0).bind fun u33_1 =>
  (f4 kad N Z a0 I).bind fun r33_2 =>
  if (248 : Int32) < r33_2.1 then
    f12_b47 kad N Z (0 : Int32) r33_2.2
  else
    f12_b47 kad N Z (1 : Int32) r33_2.2
set_option maxRecDepth 20000 in
theorem Tf12_b32 {kad : Nat → Nat} {N : Nat} {Z : AZ} {d : Nat} {t : Option Nat × (Nat × Nat)} (hd : 1 ≤ d) : ∀ (a0 : Nat) (I : AI) (r : Int32 × AI), f12_b32 kad N Z a0 I = some r → aGo kad d 12 (32, ([(0, .ref a0)], [])) (aMem Z I, t) (qI Z t r) := by
  intro a0 I r h
  unfold f12_b32 at h
  refine go_ops aMi12 1 _ (f1 := (33, ([(0, .ref a0)], [.ref a0]))) rfl ?_
  obtain ⟨u33_1, hxu33_1, h⟩ := Option.bind_eq_some_iff.mp h
  obtain ⟨r33_2, hxr33_2, h⟩ := Option.bind_eq_some_iff.mp h
  refine gg_cv (as := []) (r := []) aMi12 rfl rfl rfl aMi4 (Nat.le_of_ble_eq_true rfl) rfl (Nat.le_of_ble_eq_true rfl) (Nat.le_of_ble_eq_true rfl) (by omega) hxu33_1 (Tf4 (by omega) a0 I _ hxr33_2) ?_
  show aGo kad d 12 (36, ([(0, .ref a0)], [.int r33_2.1])) (aMem Z r33_2.2, t) _
  refine go_ops aMi12 1 _ (f1 := (39, ([(0, .ref a0)], [.int (248 : Int32), .int r33_2.1]))) rfl ?_
  refine gg_br (b := decide ((248 : Int32) < r33_2.1)) (tg := 46) (off := 7) aMi12 rfl rfl rfl rfl (fun hb => ?_) (fun hb => ?_)
  · rw [if_pos (of_decide_eq_true hb)] at h
    refine go_ops aMi12 1 _ (f1 := (47, ([(0, .ref a0)], [.int (0 : Int32)]))) rfl ?_
    refine go_le (lv1 := []) (aLe_of (show (List.map (fun q => q.1) ([] : ALv)).Nodup from (by show ([] : List Nat).Nodup; decide)) aSubL_nil) ?_
    exact Tf12_b47 hd (0 : Int32) r33_2.2 _ h
  · rw [if_neg (of_decide_eq_false hb)] at h
    refine go_ops aMi12 2 _ (f1 := (47, ([(0, .ref a0)], [.int (1 : Int32)]))) rfl ?_
    refine go_le (lv1 := []) (aLe_of (show (List.map (fun q => q.1) ([] : ALv)).Nodup from (by show ([] : List Nat).Nodup; decide)) aSubL_nil) ?_
    exact Tf12_b47 hd (1 : Int32) r33_2.2 _ h
def f12 (kad : Nat → Nat) (N : Nat) (Z : AZ) (a0 : Nat) (i1 : Int32) (I : AI) : Option (Int32 × AI) :=
  (gI Z I 0 15 a0).bind fun x1_1 =>
  if x1_1 < 0 then
    f12_b32 kad N Z a0 I
  else
    (gI Z I 0 15 a0).bind fun x8_2 =>
    (gR Z I 0 10 a0).bind fun b12_3 =>
    (nL Z b12_3).bind fun x15_4 =>
    if x15_4 ≤ x8_2 then
      f12_b32 kad N Z a0 I
    else
      (gR Z I 0 10 a0).bind fun b20_5 =>
      (gI Z I 0 15 a0).bind fun x24_6 =>
      (lI Z I 100 b20_5 x24_6).bind fun x28_7 =>
      (sI Z I 100 b20_5 x24_6 (x28_7 + i1)).bind fun I31_8 =>
      f12_b32 kad N Z a0 I31_8
set_option maxRecDepth 20000 in
theorem Tf12 {kad : Nat → Nat} {N : Nat} {Z : AZ} {d : Nat} {t : Option Nat × (Nat × Nat)} (hd : 1 ≤ d) : ∀ (a0 : Nat) (i1 : Int32) (I : AI) (r : Int32 × AI), f12 kad N Z a0 i1 I = some r → aGo kad d 12 (0, ([(0, .ref a0), (1, .int i1)], [])) (aMem Z I, t) (qI Z t r) := by
  intro a0 i1 I r h
  unfold f12 at h
  refine go_ops aMi12 1 _ (f1 := (1, ([(0, .ref a0), (1, .int i1)], [.ref a0]))) rfl ?_
  obtain ⟨x1_1, hxx1_1, h⟩ := Option.bind_eq_some_iff.mp h
  refine gg_gI aMi12 rfl rfl rfl hxx1_1 ?_
  refine gg_br (b := decide (x1_1 < 0)) (tg := 32) (off := 28) aMi12 rfl rfl rfl rfl (fun hb => ?_) (fun hb => ?_)
  · rw [if_pos (of_decide_eq_true hb)] at h
    refine go_le (lv1 := [(0, .ref a0)]) (aLe_of (show (List.map (fun q => q.1) ([(0, .ref a0)] : ALv)).Nodup from (by show ([0] : List Nat).Nodup; decide)) (aSubL_cons rfl aSubL_nil)) ?_
    exact Tf12_b32 hd a0 I _ h
  · rw [if_neg (of_decide_eq_false hb)] at h
    refine go_ops aMi12 1 _ (f1 := (8, ([(0, .ref a0), (1, .int i1)], [.ref a0]))) rfl ?_
    obtain ⟨x8_2, hxx8_2, h⟩ := Option.bind_eq_some_iff.mp h
    refine gg_gI aMi12 rfl rfl rfl hxx8_2 ?_
    refine go_ops aMi12 1 _ (f1 := (12, ([(0, .ref a0), (1, .int i1)], [.ref a0, .int x8_2]))) rfl ?_
    obtain ⟨b12_3, hxb12_3, h⟩ := Option.bind_eq_some_iff.mp h
    refine gg_gR aMi12 rfl rfl rfl hxb12_3 ?_
    obtain ⟨x15_4, hxx15_4, h⟩ := Option.bind_eq_some_iff.mp h
    refine gg_len aMi12 rfl hxx15_4 ?_
    refine gg_br (b := decide (x15_4 ≤ x8_2)) (tg := 32) (off := 16) aMi12 rfl rfl rfl rfl (fun hb => ?_) (fun hb => ?_)
    · rw [if_pos (of_decide_eq_true hb)] at h
      refine go_le (lv1 := [(0, .ref a0)]) (aLe_of (show (List.map (fun q => q.1) ([(0, .ref a0)] : ALv)).Nodup from (by show ([0] : List Nat).Nodup; decide)) (aSubL_cons rfl aSubL_nil)) ?_
      exact Tf12_b32 hd a0 I _ h
    · rw [if_neg (of_decide_eq_false hb)] at h
      refine go_ops aMi12 1 _ (f1 := (20, ([(0, .ref a0), (1, .int i1)], [.ref a0]))) rfl ?_
      obtain ⟨b20_5, hxb20_5, h⟩ := Option.bind_eq_some_iff.mp h
      refine gg_gR aMi12 rfl rfl rfl hxb20_5 ?_
      refine go_ops aMi12 1 _ (f1 := (24, ([(0, .ref a0), (1, .int i1)], [.ref a0, .ref b20_5]))) rfl ?_
      obtain ⟨x24_6, hxx24_6, h⟩ := Option.bind_eq_some_iff.mp h
      refine gg_gI aMi12 rfl rfl rfl hxx24_6 ?_
      refine go_ops aMi12 1 _ (f1 := (28, ([(0, .ref a0), (1, .int i1)], [.int x24_6, .ref b20_5, .int x24_6, .ref b20_5]))) rfl ?_
      obtain ⟨x28_7, hxx28_7, h⟩ := Option.bind_eq_some_iff.mp h
      refine gg_lI (Or.inl ⟨rfl, rfl⟩) aMi12 rfl hxx28_7 ?_
      refine go_ops aMi12 2 _ (f1 := (31, ([(0, .ref a0), (1, .int i1)], [.int (x28_7 + i1), .int x24_6, .ref b20_5]))) rfl ?_
      obtain ⟨I31_8, hxI31_8, h⟩ := Option.bind_eq_some_iff.mp h
      refine gg_sI (Or.inl ⟨rfl, rfl⟩) aMi12 rfl hxI31_8 ?_
      refine go_le (lv1 := [(0, .ref a0)]) (aLe_of (show (List.map (fun q => q.1) ([(0, .ref a0)] : ALv)).Nodup from (by show ([0] : List Nat).Nodup; decide)) (aSubL_cons rfl aSubL_nil)) ?_
      exact Tf12_b32 hd a0 I31_8 _ h
-- KernelGym$Assembler.slotOf (II)I
def f13_b15 (kad : Nat → Nat) (N : Nat) (Z : AZ) (s0 : Int32) (I : AI) : Option (Int32 × AI) :=
  some (s0, I)
set_option maxRecDepth 20000 in
theorem Tf13_b15 {kad : Nat → Nat} {N : Nat} {Z : AZ} {d : Nat} {t : Option Nat × (Nat × Nat)} (hd : 0 ≤ d) : ∀ (s0 : Int32) (I : AI) (r : Int32 × AI), f13_b15 kad N Z s0 I = some r → aGo kad d 13 (15, ([], [.int s0])) (aMem Z I, t) (qI Z t r) := by
  intro s0 I r h
  unfold f13_b15 at h
  cases h
  exact go_ret aMi13 rfl aRetI ⟨rfl, rfl⟩
def f13 (kad : Nat → Nat) (N : Nat) (Z : AZ) (i0 : Int32) (i1 : Int32) (I : AI) : Option (Int32 × AI) :=
  if (16 : Int32) ≤ i0 then
    f13_b15 kad N Z (i0 + ((4 : Int32) * i1)) I
  else
    f13_b15 kad N Z i0 I
set_option maxRecDepth 20000 in
theorem Tf13 {kad : Nat → Nat} {N : Nat} {Z : AZ} {d : Nat} {t : Option Nat × (Nat × Nat)} (hd : 0 ≤ d) : ∀ (i0 : Int32) (i1 : Int32) (I : AI) (r : Int32 × AI), f13 kad N Z i0 i1 I = some r → aGo kad d 13 (0, ([(0, .int i0), (1, .int i1)], [])) (aMem Z I, t) (qI Z t r) := by
  intro i0 i1 I r h
  unfold f13 at h
  refine go_ops aMi13 2 _ (f1 := (3, ([(0, .int i0), (1, .int i1)], [.int (16 : Int32), .int i0]))) rfl ?_
  refine gg_br (b := decide ((16 : Int32) ≤ i0)) (tg := 10) (off := 7) aMi13 rfl rfl rfl rfl (fun hb => ?_) (fun hb => ?_)
  · rw [if_pos (of_decide_eq_true hb)] at h
    refine go_ops aMi13 5 _ (f1 := (15, ([(0, .int i0), (1, .int i1)], [.int (i0 + ((4 : Int32) * i1))]))) rfl ?_
    refine go_le (lv1 := []) (aLe_of (show (List.map (fun q => q.1) ([] : ALv)).Nodup from (by show ([] : List Nat).Nodup; decide)) aSubL_nil) ?_
    exact Tf13_b15 hd (i0 + ((4 : Int32) * i1)) I _ h
  · rw [if_neg (of_decide_eq_false hb)] at h
    refine go_ops aMi13 2 _ (f1 := (15, ([(0, .int i0), (1, .int i1)], [.int i0]))) rfl ?_
    refine go_le (lv1 := []) (aLe_of (show (List.map (fun q => q.1) ([] : ALv)).Nodup from (by show ([] : List Nat).Nodup; decide)) aSubL_nil) ?_
    exact Tf13_b15 hd i0 I _ h
-- KernelGym$Assembler.addressOf (I)I
def f21_b23 (kad : Nat → Nat) (N : Nat) (Z : AZ)  (I : AI) : Option (Int32 × AI) :=
  some ((Int32.ofInt (-1)), I)
set_option maxRecDepth 20000 in
theorem Tf21_b23 {kad : Nat → Nat} {N : Nat} {Z : AZ} {d : Nat} {t : Option Nat × (Nat × Nat)} (hd : 0 ≤ d) : ∀  (I : AI) (r : Int32 × AI), f21_b23 kad N Z  I = some r → aGo kad d 21 (23, ([], [])) (aMem Z I, t) (qI Z t r) := by
  intro  I r h
  unfold f21_b23 at h
  refine go_ops aMi21 1 _ (f1 := (24, ([], [.int (Int32.ofInt (-1))]))) rfl ?_
  cases h
  exact go_ret aMi21 rfl aRetI ⟨rfl, rfl⟩
def f21_b49 (kad : Nat → Nat) (N : Nat) (Z : AZ) (a0 : Nat) (i1 : Int32) (s0 : Int32) (I : AI) : Option (Int32 × AI) :=
  (gR Z I 0 7 a0).bind fun b50_1 =>
  (lI Z I 100 b50_1 i1).bind fun x54_2 =>
  some ((s0 + x54_2), I)
set_option maxRecDepth 20000 in
theorem Tf21_b49 {kad : Nat → Nat} {N : Nat} {Z : AZ} {d : Nat} {t : Option Nat × (Nat × Nat)} (hd : 0 ≤ d) : ∀ (a0 : Nat) (i1 : Int32) (s0 : Int32) (I : AI) (r : Int32 × AI), f21_b49 kad N Z a0 i1 s0 I = some r → aGo kad d 21 (49, ([(0, .ref a0), (1, .int i1)], [.int s0])) (aMem Z I, t) (qI Z t r) := by
  intro a0 i1 s0 I r h
  unfold f21_b49 at h
  refine go_ops aMi21 1 _ (f1 := (50, ([(0, .ref a0), (1, .int i1)], [.ref a0, .int s0]))) rfl ?_
  obtain ⟨b50_1, hxb50_1, h⟩ := Option.bind_eq_some_iff.mp h
  refine gg_gR aMi21 rfl rfl rfl hxb50_1 ?_
  refine go_ops aMi21 1 _ (f1 := (54, ([(0, .ref a0), (1, .int i1)], [.int i1, .ref b50_1, .int s0]))) rfl ?_
  obtain ⟨x54_2, hxx54_2, h⟩ := Option.bind_eq_some_iff.mp h
  refine gg_lI (Or.inl ⟨rfl, rfl⟩) aMi21 rfl hxx54_2 ?_
  refine go_ops aMi21 1 _ (f1 := (56, ([(0, .ref a0), (1, .int i1)], [.int (s0 + x54_2)]))) rfl ?_
  cases h
  exact go_ret aMi21 rfl aRetI ⟨rfl, rfl⟩
def f21 (kad : Nat → Nat) (N : Nat) (Z : AZ) (a0 : Nat) (i1 : Int32) (I : AI) : Option (Int32 × AI) :=
  if i1 < 0 then
    f21_b23 kad N Z  I
  else
    (gR Z I 0 7 a0).bind fun b6_1 =>
    (nL Z b6_1).bind fun x9_2 =>
    if x9_2 ≤ i1 then
      f21_b23 kad N Z  I
    else
      (gR Z I 0 7 a0).bind fun b14_3 =>
      (lI Z I 100 b14_3 i1).bind fun x18_4 =>
      if ¬ x18_4 = (Int32.ofInt (-1)) then
        (gR Z I 0 6 a0).bind fun b26_5 =>
        (lI Z I 100 b26_5 i1).bind fun x30_6 =>
        if ¬ x30_6 = 0 then
          (gR Z I 0 11 a0).bind fun b44_7 =>
          (lI Z I 100 b44_7 (1 : Int32)).bind fun x48_8 =>
          f21_b49 kad N Z a0 i1 x48_8 I
        else
          (gR Z I 0 11 a0).bind fun b35_9 =>
          (lI Z I 100 b35_9 (0 : Int32)).bind fun x39_10 =>
          f21_b49 kad N Z a0 i1 x39_10 I
      else
        f21_b23 kad N Z  I
set_option maxRecDepth 20000 in
theorem Tf21 {kad : Nat → Nat} {N : Nat} {Z : AZ} {d : Nat} {t : Option Nat × (Nat × Nat)} (hd : 0 ≤ d) : ∀ (a0 : Nat) (i1 : Int32) (I : AI) (r : Int32 × AI), f21 kad N Z a0 i1 I = some r → aGo kad d 21 (0, ([(0, .ref a0), (1, .int i1)], [])) (aMem Z I, t) (qI Z t r) := by
  intro a0 i1 I r h
  unfold f21 at h
  refine go_ops aMi21 1 _ (f1 := (1, ([(0, .ref a0), (1, .int i1)], [.int i1]))) rfl ?_
  refine gg_br (b := decide (i1 < 0)) (tg := 23) (off := 22) aMi21 rfl rfl rfl rfl (fun hb => ?_) (fun hb => ?_)
  · rw [if_pos (of_decide_eq_true hb)] at h
    refine go_le (lv1 := []) (aLe_of (show (List.map (fun q => q.1) ([] : ALv)).Nodup from (by show ([] : List Nat).Nodup; decide)) aSubL_nil) ?_
    exact Tf21_b23 hd  I _ h
  · rw [if_neg (of_decide_eq_false hb)] at h
    refine go_ops aMi21 2 _ (f1 := (6, ([(0, .ref a0), (1, .int i1)], [.ref a0, .int i1]))) rfl ?_
    obtain ⟨b6_1, hxb6_1, h⟩ := Option.bind_eq_some_iff.mp h
    refine gg_gR aMi21 rfl rfl rfl hxb6_1 ?_
    obtain ⟨x9_2, hxx9_2, h⟩ := Option.bind_eq_some_iff.mp h
    refine gg_len aMi21 rfl hxx9_2 ?_
    refine gg_br (b := decide (x9_2 ≤ i1)) (tg := 23) (off := 13) aMi21 rfl rfl rfl rfl (fun hb => ?_) (fun hb => ?_)
    · rw [if_pos (of_decide_eq_true hb)] at h
      refine go_le (lv1 := []) (aLe_of (show (List.map (fun q => q.1) ([] : ALv)).Nodup from (by show ([] : List Nat).Nodup; decide)) aSubL_nil) ?_
      exact Tf21_b23 hd  I _ h
    · rw [if_neg (of_decide_eq_false hb)] at h
      refine go_ops aMi21 1 _ (f1 := (14, ([(0, .ref a0), (1, .int i1)], [.ref a0]))) rfl ?_
      obtain ⟨b14_3, hxb14_3, h⟩ := Option.bind_eq_some_iff.mp h
      refine gg_gR aMi21 rfl rfl rfl hxb14_3 ?_
      refine go_ops aMi21 1 _ (f1 := (18, ([(0, .ref a0), (1, .int i1)], [.int i1, .ref b14_3]))) rfl ?_
      obtain ⟨x18_4, hxx18_4, h⟩ := Option.bind_eq_some_iff.mp h
      refine gg_lI (Or.inl ⟨rfl, rfl⟩) aMi21 rfl hxx18_4 ?_
      refine go_ops aMi21 1 _ (f1 := (20, ([(0, .ref a0), (1, .int i1)], [.int (Int32.ofInt (-1)), .int x18_4]))) rfl ?_
      refine gg_br (b := decide (¬ x18_4 = (Int32.ofInt (-1)))) (tg := 25) (off := 5) aMi21 rfl rfl rfl rfl (fun hb => ?_) (fun hb => ?_)
      · rw [if_pos (of_decide_eq_true hb)] at h
        refine go_ops aMi21 1 _ (f1 := (26, ([(0, .ref a0), (1, .int i1)], [.ref a0]))) rfl ?_
        obtain ⟨b26_5, hxb26_5, h⟩ := Option.bind_eq_some_iff.mp h
        refine gg_gR aMi21 rfl rfl rfl hxb26_5 ?_
        refine go_ops aMi21 1 _ (f1 := (30, ([(0, .ref a0), (1, .int i1)], [.int i1, .ref b26_5]))) rfl ?_
        obtain ⟨x30_6, hxx30_6, h⟩ := Option.bind_eq_some_iff.mp h
        refine gg_lI (Or.inl ⟨rfl, rfl⟩) aMi21 rfl hxx30_6 ?_
        refine gg_br (b := decide (¬ x30_6 = 0)) (tg := 43) (off := 12) aMi21 rfl rfl rfl rfl (fun hb => ?_) (fun hb => ?_)
        · rw [if_pos (of_decide_eq_true hb)] at h
          refine go_ops aMi21 1 _ (f1 := (44, ([(0, .ref a0), (1, .int i1)], [.ref a0]))) rfl ?_
          obtain ⟨b44_7, hxb44_7, h⟩ := Option.bind_eq_some_iff.mp h
          refine gg_gR aMi21 rfl rfl rfl hxb44_7 ?_
          refine go_ops aMi21 1 _ (f1 := (48, ([(0, .ref a0), (1, .int i1)], [.int (1 : Int32), .ref b44_7]))) rfl ?_
          obtain ⟨x48_8, hxx48_8, h⟩ := Option.bind_eq_some_iff.mp h
          refine gg_lI (Or.inl ⟨rfl, rfl⟩) aMi21 rfl hxx48_8 ?_
          exact Tf21_b49 hd a0 i1 x48_8 I _ h
        · rw [if_neg (of_decide_eq_false hb)] at h
          refine go_ops aMi21 1 _ (f1 := (35, ([(0, .ref a0), (1, .int i1)], [.ref a0]))) rfl ?_
          obtain ⟨b35_9, hxb35_9, h⟩ := Option.bind_eq_some_iff.mp h
          refine gg_gR aMi21 rfl rfl rfl hxb35_9 ?_
          refine go_ops aMi21 1 _ (f1 := (39, ([(0, .ref a0), (1, .int i1)], [.int (0 : Int32), .ref b35_9]))) rfl ?_
          obtain ⟨x39_10, hxx39_10, h⟩ := Option.bind_eq_some_iff.mp h
          refine gg_lI (Or.inl ⟨rfl, rfl⟩) aMi21 rfl hxx39_10 ?_
          refine go_ops aMi21 1 _ (f1 := (49, ([(0, .ref a0), (1, .int i1)], [.int x39_10]))) rfl ?_
          exact Tf21_b49 hd a0 i1 x39_10 I _ h
      · rw [if_neg (of_decide_eq_false hb)] at h
        refine go_le (lv1 := []) (aLe_of (show (List.map (fun q => q.1) ([] : ALv)).Nodup from (by show ([] : List Nat).Nodup; decide)) aSubL_nil) ?_
        exact Tf21_b23 hd  I _ h
-- KernelGym$Assembler.valueOf (III)I
def f19_b32 (kad : Nat → Nat) (N : Nat) (Z : AZ)  (I : AI) : Option (Int32 × AI) :=
  some ((Int32.ofInt (-1)), I)
set_option maxRecDepth 20000 in
theorem Tf19_b32 {kad : Nat → Nat} {N : Nat} {Z : AZ} {d : Nat} {t : Option Nat × (Nat × Nat)} (hd : 1 ≤ d) : ∀  (I : AI) (r : Int32 × AI), f19_b32 kad N Z  I = some r → aGo kad d 19 (32, ([], [])) (aMem Z I, t) (qI Z t r) := by
  intro  I r h
  unfold f19_b32 at h
  refine go_ops aMi19 1 _ (f1 := (33, ([], [.int (Int32.ofInt (-1))]))) rfl ?_
  cases h
  exact go_ret aMi19 rfl aRetI ⟨rfl, rfl⟩
def f19_b54 (kad : Nat → Nat) (N : Nat) (Z : AZ) (i2 : Int32) (s0 : Int32) (I : AI) : Option (Int32 × AI) :=
  some (((s0 + i2) &&& (65535 : Int32)), I)
set_option maxRecDepth 20000 in
theorem Tf19_b54 {kad : Nat → Nat} {N : Nat} {Z : AZ} {d : Nat} {t : Option Nat × (Nat × Nat)} (hd : 1 ≤ d) : ∀ (i2 : Int32) (s0 : Int32) (I : AI) (r : Int32 × AI), f19_b54 kad N Z i2 s0 I = some r → aGo kad d 19 (54, ([(2, .int i2)], [.int s0])) (aMem Z I, t) (qI Z t r) := by
  intro i2 s0 I r h
  unfold f19_b54 at h
  refine go_ops aMi19 4 _ (f1 := (60, ([(4, .int s0), (2, .int i2)], [.int (s0 + i2)]))) rfl ?_
  refine gg_kI (Or.inl ⟨rfl, rfl⟩) aMi19 rfl rfl ?_
  refine go_ops aMi19 1 _ (f1 := (63, ([(4, .int s0), (2, .int i2)], [.int ((s0 + i2) &&& (65535 : Int32))]))) rfl ?_
  cases h
  exact go_ret aMi19 rfl aRetI ⟨rfl, rfl⟩
def f19 (kad : Nat → Nat) (N : Nat) (Z : AZ) (a0 : Nat) (i1 : Int32) (i2 : Int32) (i3 : Int32) (I : AI) : Option (Int32 × AI) :=
  if ¬ i1 = 0 then
    if ¬ i1 = (1 : Int32) then
      if i3 ≤ 0 then
        f19_b32 kad N Z  I
      else
        if i3 ≤ (300 : Int32) then
          if ¬ i1 = (2 : Int32) then
            (gR Z I 0 9 a0).bind fun b49_1 =>
            (lI Z I 100 b49_1 i3).bind fun x53_2 =>
            f19_b54 kad N Z i2 x53_2 I
          else
            (gR Z I 0 8 a0).bind fun b40_3 =>
            (lI Z I 100 b40_3 i3).bind fun x44_4 =>
            f19_b54 kad N Z i2 x44_4 I
        else
          f19_b32 kad N Z  I
    else
      (f13 kad N Z i2 i3 I).bind fun r14_5 =>
      (isK Z a0 0).bind fun u17_6 =>
      (f21 kad N Z a0 r14_5.1 r14_5.2).bind fun r17_7 =>
      some (r17_7.1, r17_7.2)
  else
    some (i2, I)
set_option maxRecDepth 20000 in
theorem Tf19 {kad : Nat → Nat} {N : Nat} {Z : AZ} {d : Nat} {t : Option Nat × (Nat × Nat)} (hd : 1 ≤ d) : ∀ (a0 : Nat) (i1 : Int32) (i2 : Int32) (i3 : Int32) (I : AI) (r : Int32 × AI), f19 kad N Z a0 i1 i2 i3 I = some r → aGo kad d 19 (0, ([(0, .ref a0), (1, .int i1), (2, .int i2), (3, .int i3)], [])) (aMem Z I, t) (qI Z t r) := by
  intro a0 i1 i2 i3 I r h
  unfold f19 at h
  refine go_ops aMi19 1 _ (f1 := (1, ([(0, .ref a0), (1, .int i1), (2, .int i2), (3, .int i3)], [.int i1]))) rfl ?_
  refine gg_br (b := decide (¬ i1 = 0)) (tg := 6) (off := 5) aMi19 rfl rfl rfl rfl (fun hb => ?_) (fun hb => ?_)
  · rw [if_pos (of_decide_eq_true hb)] at h
    refine go_ops aMi19 2 _ (f1 := (8, ([(0, .ref a0), (1, .int i1), (2, .int i2), (3, .int i3)], [.int (1 : Int32), .int i1]))) rfl ?_
    refine gg_br (b := decide (¬ i1 = (1 : Int32))) (tg := 21) (off := 13) aMi19 rfl rfl rfl rfl (fun hb => ?_) (fun hb => ?_)
    · rw [if_pos (of_decide_eq_true hb)] at h
      refine go_ops aMi19 1 _ (f1 := (22, ([(0, .ref a0), (1, .int i1), (2, .int i2), (3, .int i3)], [.int i3]))) rfl ?_
      refine gg_br (b := decide (i3 ≤ 0)) (tg := 32) (off := 10) aMi19 rfl rfl rfl rfl (fun hb => ?_) (fun hb => ?_)
      · rw [if_pos (of_decide_eq_true hb)] at h
        refine go_le (lv1 := []) (aLe_of (show (List.map (fun q => q.1) ([] : ALv)).Nodup from (by show ([] : List Nat).Nodup; decide)) aSubL_nil) ?_
        exact Tf19_b32 hd  I _ h
      · rw [if_neg (of_decide_eq_false hb)] at h
        refine go_ops aMi19 2 _ (f1 := (29, ([(0, .ref a0), (1, .int i1), (2, .int i2), (3, .int i3)], [.int (300 : Int32), .int i3]))) rfl ?_
        refine gg_br (b := decide (i3 ≤ (300 : Int32))) (tg := 34) (off := 5) aMi19 rfl rfl rfl rfl (fun hb => ?_) (fun hb => ?_)
        · rw [if_pos (of_decide_eq_true hb)] at h
          refine go_ops aMi19 2 _ (f1 := (36, ([(0, .ref a0), (1, .int i1), (2, .int i2), (3, .int i3)], [.int (2 : Int32), .int i1]))) rfl ?_
          refine gg_br (b := decide (¬ i1 = (2 : Int32))) (tg := 48) (off := 12) aMi19 rfl rfl rfl rfl (fun hb => ?_) (fun hb => ?_)
          · rw [if_pos (of_decide_eq_true hb)] at h
            refine go_ops aMi19 1 _ (f1 := (49, ([(0, .ref a0), (1, .int i1), (2, .int i2), (3, .int i3)], [.ref a0]))) rfl ?_
            obtain ⟨b49_1, hxb49_1, h⟩ := Option.bind_eq_some_iff.mp h
            refine gg_gR aMi19 rfl rfl rfl hxb49_1 ?_
            refine go_ops aMi19 1 _ (f1 := (53, ([(0, .ref a0), (1, .int i1), (2, .int i2), (3, .int i3)], [.int i3, .ref b49_1]))) rfl ?_
            obtain ⟨x53_2, hxx53_2, h⟩ := Option.bind_eq_some_iff.mp h
            refine gg_lI (Or.inl ⟨rfl, rfl⟩) aMi19 rfl hxx53_2 ?_
            refine go_le (lv1 := [(2, .int i2)]) (aLe_of (show (List.map (fun q => q.1) ([(2, .int i2)] : ALv)).Nodup from (by show ([2] : List Nat).Nodup; decide)) (aSubL_cons rfl aSubL_nil)) ?_
            exact Tf19_b54 hd i2 x53_2 I _ h
          · rw [if_neg (of_decide_eq_false hb)] at h
            refine go_ops aMi19 1 _ (f1 := (40, ([(0, .ref a0), (1, .int i1), (2, .int i2), (3, .int i3)], [.ref a0]))) rfl ?_
            obtain ⟨b40_3, hxb40_3, h⟩ := Option.bind_eq_some_iff.mp h
            refine gg_gR aMi19 rfl rfl rfl hxb40_3 ?_
            refine go_ops aMi19 1 _ (f1 := (44, ([(0, .ref a0), (1, .int i1), (2, .int i2), (3, .int i3)], [.int i3, .ref b40_3]))) rfl ?_
            obtain ⟨x44_4, hxx44_4, h⟩ := Option.bind_eq_some_iff.mp h
            refine gg_lI (Or.inl ⟨rfl, rfl⟩) aMi19 rfl hxx44_4 ?_
            refine go_ops aMi19 1 _ (f1 := (54, ([(0, .ref a0), (1, .int i1), (2, .int i2), (3, .int i3)], [.int x44_4]))) rfl ?_
            refine go_le (lv1 := [(2, .int i2)]) (aLe_of (show (List.map (fun q => q.1) ([(2, .int i2)] : ALv)).Nodup from (by show ([2] : List Nat).Nodup; decide)) (aSubL_cons rfl aSubL_nil)) ?_
            exact Tf19_b54 hd i2 x44_4 I _ h
        · rw [if_neg (of_decide_eq_false hb)] at h
          refine go_le (lv1 := []) (aLe_of (show (List.map (fun q => q.1) ([] : ALv)).Nodup from (by show ([] : List Nat).Nodup; decide)) aSubL_nil) ?_
          exact Tf19_b32 hd  I _ h
    · rw [if_neg (of_decide_eq_false hb)] at h
      refine go_ops aMi19 3 _ (f1 := (14, ([(0, .ref a0), (1, .int i1), (2, .int i2), (3, .int i3)], [.int i3, .int i2, .ref a0]))) rfl ?_
      obtain ⟨r14_5, hxr14_5, h⟩ := Option.bind_eq_some_iff.mp h
      refine gg_cs (as := [.int i2, .int i3]) (r := [.ref a0]) aMi19 rfl rfl rfl aMi13 rfl (Nat.le_of_ble_eq_true rfl) (Nat.le_of_ble_eq_true rfl) (by omega) (Tf13 (by omega) i2 i3 I _ hxr14_5) ?_
      show aGo kad d 19 (17, ([(0, .ref a0), (1, .int i1), (2, .int i2), (3, .int i3)], [.int r14_5.1, .ref a0])) (aMem Z r14_5.2, t) _
      obtain ⟨u17_6, hxu17_6, h⟩ := Option.bind_eq_some_iff.mp h
      obtain ⟨r17_7, hxr17_7, h⟩ := Option.bind_eq_some_iff.mp h
      refine gg_cv (as := [.int r14_5.1]) (r := []) aMi19 rfl rfl rfl aMi21 (Nat.le_of_ble_eq_true rfl) rfl (Nat.le_of_ble_eq_true rfl) (Nat.le_of_ble_eq_true rfl) (by omega) hxu17_6 (Tf21 (by omega) a0 r14_5.1 r14_5.2 _ hxr17_7) ?_
      show aGo kad d 19 (20, ([(0, .ref a0), (1, .int i1), (2, .int i2), (3, .int i3)], [.int r17_7.1])) (aMem Z r17_7.2, t) _
      cases h
      exact go_ret aMi19 rfl aRetI ⟨rfl, rfl⟩
  · rw [if_neg (of_decide_eq_false hb)] at h
    refine go_ops aMi19 1 _ (f1 := (5, ([(0, .ref a0), (1, .int i1), (2, .int i2), (3, .int i3)], [.int i2]))) rfl ?_
    cases h
    exact go_ret aMi19 rfl aRetI ⟨rfl, rfl⟩
-- KernelGym$Assembler.errorOf (II)I
def f20_b21 (kad : Nat → Nat) (N : Nat) (Z : AZ) (s0 : Int32) (I : AI) : Option (Int32 × AI) :=
  some (s0, I)
set_option maxRecDepth 20000 in
theorem Tf20_b21 {kad : Nat → Nat} {N : Nat} {Z : AZ} {d : Nat} {t : Option Nat × (Nat × Nat)} (hd : 0 ≤ d) : ∀ (s0 : Int32) (I : AI) (r : Int32 × AI), f20_b21 kad N Z s0 I = some r → aGo kad d 20 (21, ([], [.int s0])) (aMem Z I, t) (qI Z t r) := by
  intro s0 I r h
  unfold f20_b21 at h
  cases h
  exact go_ret aMi20 rfl aRetI ⟨rfl, rfl⟩
def f20 (kad : Nat → Nat) (N : Nat) (Z : AZ) (i0 : Int32) (i1 : Int32) (I : AI) : Option (Int32 × AI) :=
  if i1 = (Int32.ofInt (-1)) then
    if ¬ i0 = (1 : Int32) then
      f20_b21 kad N Z (7 : Int32) I
    else
      f20_b21 kad N Z (6 : Int32) I
  else
    f20_b21 kad N Z (0 : Int32) I
set_option maxRecDepth 20000 in
theorem Tf20 {kad : Nat → Nat} {N : Nat} {Z : AZ} {d : Nat} {t : Option Nat × (Nat × Nat)} (hd : 0 ≤ d) : ∀ (i0 : Int32) (i1 : Int32) (I : AI) (r : Int32 × AI), f20 kad N Z i0 i1 I = some r → aGo kad d 20 (0, ([(0, .int i0), (1, .int i1)], [])) (aMem Z I, t) (qI Z t r) := by
  intro i0 i1 I r h
  unfold f20 at h
  refine go_ops aMi20 2 _ (f1 := (2, ([(0, .int i0), (1, .int i1)], [.int (Int32.ofInt (-1)), .int i1]))) rfl ?_
  refine gg_br (b := decide (i1 = (Int32.ofInt (-1)))) (tg := 9) (off := 7) aMi20 rfl rfl rfl rfl (fun hb => ?_) (fun hb => ?_)
  · rw [if_pos (of_decide_eq_true hb)] at h
    refine go_ops aMi20 2 _ (f1 := (11, ([(0, .int i0), (1, .int i1)], [.int (1 : Int32), .int i0]))) rfl ?_
    refine gg_br (b := decide (¬ i0 = (1 : Int32))) (tg := 19) (off := 8) aMi20 rfl rfl rfl rfl (fun hb => ?_) (fun hb => ?_)
    · rw [if_pos (of_decide_eq_true hb)] at h
      refine go_ops aMi20 1 _ (f1 := (21, ([(0, .int i0), (1, .int i1)], [.int (7 : Int32)]))) rfl ?_
      refine go_le (lv1 := []) (aLe_of (show (List.map (fun q => q.1) ([] : ALv)).Nodup from (by show ([] : List Nat).Nodup; decide)) aSubL_nil) ?_
      exact Tf20_b21 hd (7 : Int32) I _ h
    · rw [if_neg (of_decide_eq_false hb)] at h
      refine go_ops aMi20 2 _ (f1 := (21, ([(0, .int i0), (1, .int i1)], [.int (6 : Int32)]))) rfl ?_
      refine go_le (lv1 := []) (aLe_of (show (List.map (fun q => q.1) ([] : ALv)).Nodup from (by show ([] : List Nat).Nodup; decide)) aSubL_nil) ?_
      exact Tf20_b21 hd (6 : Int32) I _ h
  · rw [if_neg (of_decide_eq_false hb)] at h
    refine go_ops aMi20 2 _ (f1 := (21, ([(0, .int i0), (1, .int i1)], [.int (0 : Int32)]))) rfl ?_
    refine go_le (lv1 := []) (aLe_of (show (List.map (fun q => q.1) ([] : ALv)).Nodup from (by show ([] : List Nat).Nodup; decide)) aSubL_nil) ?_
    exact Tf20_b21 hd (0 : Int32) I _ h
-- KernelGym$Assembler.setArguments (III)V
def f22_b25 (kad : Nat → Nat) (N : Nat) (Z : AZ)  (I : AI) : Option (Unit × AI) :=
  some ((), I)
set_option maxRecDepth 20000 in
theorem Tf22_b25 {kad : Nat → Nat} {N : Nat} {Z : AZ} {d : Nat} {t : Option Nat × (Nat × Nat)} (hd : 0 ≤ d) : ∀  (I : AI) (r : Unit × AI), f22_b25 kad N Z  I = some r → aGo kad d 22 (25, ([], [])) (aMem Z I, t) (qV Z t r) := by
  intro  I r h
  unfold f22_b25 at h
  cases h
  exact go_ret aMi22 rfl rfl ⟨rfl, rfl⟩
def f22 (kad : Nat → Nat) (N : Nat) (Z : AZ) (a0 : Nat) (i1 : Int32) (i2 : Int32) (i3 : Int32) (I : AI) : Option (Unit × AI) :=
  if i1 ≤ 0 then
    f22_b25 kad N Z  I
  else
    if (300 : Int32) < i1 then
      f22_b25 kad N Z  I
    else
      (gR Z I 0 8 a0).bind fun b12_1 =>
      (sI Z I 100 b12_1 i1 i2).bind fun I17_2 =>
      (gR Z I17_2 0 9 a0).bind fun b19_3 =>
      (sI Z I17_2 100 b19_3 i1 i3).bind fun I24_4 =>
      f22_b25 kad N Z  I24_4
set_option maxRecDepth 20000 in
theorem Tf22 {kad : Nat → Nat} {N : Nat} {Z : AZ} {d : Nat} {t : Option Nat × (Nat × Nat)} (hd : 0 ≤ d) : ∀ (a0 : Nat) (i1 : Int32) (i2 : Int32) (i3 : Int32) (I : AI) (r : Unit × AI), f22 kad N Z a0 i1 i2 i3 I = some r → aGo kad d 22 (0, ([(0, .ref a0), (1, .int i1), (2, .int i2), (3, .int i3)], [])) (aMem Z I, t) (qV Z t r) := by
  intro a0 i1 i2 i3 I r h
  unfold f22 at h
  refine go_ops aMi22 1 _ (f1 := (1, ([(0, .ref a0), (1, .int i1), (2, .int i2), (3, .int i3)], [.int i1]))) rfl ?_
  refine gg_br (b := decide (i1 ≤ 0)) (tg := 25) (off := 24) aMi22 rfl rfl rfl rfl (fun hb => ?_) (fun hb => ?_)
  · rw [if_pos (of_decide_eq_true hb)] at h
    refine go_le (lv1 := []) (aLe_of (show (List.map (fun q => q.1) ([] : ALv)).Nodup from (by show ([] : List Nat).Nodup; decide)) aSubL_nil) ?_
    exact Tf22_b25 hd  I _ h
  · rw [if_neg (of_decide_eq_false hb)] at h
    refine go_ops aMi22 2 _ (f1 := (8, ([(0, .ref a0), (1, .int i1), (2, .int i2), (3, .int i3)], [.int (300 : Int32), .int i1]))) rfl ?_
    refine gg_br (b := decide ((300 : Int32) < i1)) (tg := 25) (off := 17) aMi22 rfl rfl rfl rfl (fun hb => ?_) (fun hb => ?_)
    · rw [if_pos (of_decide_eq_true hb)] at h
      refine go_le (lv1 := []) (aLe_of (show (List.map (fun q => q.1) ([] : ALv)).Nodup from (by show ([] : List Nat).Nodup; decide)) aSubL_nil) ?_
      exact Tf22_b25 hd  I _ h
    · rw [if_neg (of_decide_eq_false hb)] at h
      refine go_ops aMi22 1 _ (f1 := (12, ([(0, .ref a0), (1, .int i1), (2, .int i2), (3, .int i3)], [.ref a0]))) rfl ?_
      obtain ⟨b12_1, hxb12_1, h⟩ := Option.bind_eq_some_iff.mp h
      refine gg_gR aMi22 rfl rfl rfl hxb12_1 ?_
      refine go_ops aMi22 2 _ (f1 := (17, ([(0, .ref a0), (1, .int i1), (2, .int i2), (3, .int i3)], [.int i2, .int i1, .ref b12_1]))) rfl ?_
      obtain ⟨I17_2, hxI17_2, h⟩ := Option.bind_eq_some_iff.mp h
      refine gg_sI (Or.inl ⟨rfl, rfl⟩) aMi22 rfl hxI17_2 ?_
      refine go_ops aMi22 1 _ (f1 := (19, ([(0, .ref a0), (1, .int i1), (2, .int i2), (3, .int i3)], [.ref a0]))) rfl ?_
      obtain ⟨b19_3, hxb19_3, h⟩ := Option.bind_eq_some_iff.mp h
      refine gg_gR aMi22 rfl rfl rfl hxb19_3 ?_
      refine go_ops aMi22 2 _ (f1 := (24, ([(0, .ref a0), (1, .int i1), (2, .int i2), (3, .int i3)], [.int i3, .int i1, .ref b19_3]))) rfl ?_
      obtain ⟨I24_4, hxI24_4, h⟩ := Option.bind_eq_some_iff.mp h
      refine gg_sI (Or.inl ⟨rfl, rfl⟩) aMi22 rfl hxI24_4 ?_
      refine go_le (lv1 := []) (aLe_of (show (List.map (fun q => q.1) ([] : ALv)).Nodup from (by show ([] : List Nat).Nodup; decide)) aSubL_nil) ?_
      exact Tf22_b25 hd  I24_4 _ h
-- KernelGym$Assembler.errorAt (II)I
def f7 (kad : Nat → Nat) (N : Nat) (Z : AZ) (i0 : Int32) (i1 : Int32) (I : AI) : Option (Int32 × AI) :=
  some ((((100 : Int32) * i0) + i1), I)
set_option maxRecDepth 20000 in
theorem Tf7 {kad : Nat → Nat} {N : Nat} {Z : AZ} {d : Nat} {t : Option Nat × (Nat × Nat)} (hd : 0 ≤ d) : ∀ (i0 : Int32) (i1 : Int32) (I : AI) (r : Int32 × AI), f7 kad N Z i0 i1 I = some r → aGo kad d 7 (0, ([(0, .int i0), (1, .int i1)], [])) (aMem Z I, t) (qI Z t r) := by
  intro i0 i1 I r h
  unfold f7 at h
  refine go_ops aMi7 5 _ (f1 := (6, ([(0, .int i0), (1, .int i1)], [.int (((100 : Int32) * i0) + i1)]))) rfl ?_
  cases h
  exact go_ret aMi7 rfl aRetI ⟨rfl, rfl⟩
-- KernelGym$Assembler.putWord (II)V
def f24_b18 (kad : Nat → Nat) (N : Nat) (Z : AZ)  (I : AI) : Option (Unit × AI) :=
  some ((), I)
set_option maxRecDepth 20000 in
theorem Tf24_b18 {kad : Nat → Nat} {N : Nat} {Z : AZ} {d : Nat} {t : Option Nat × (Nat × Nat)} (hd : 0 ≤ d) : ∀  (I : AI) (r : Unit × AI), f24_b18 kad N Z  I = some r → aGo kad d 24 (18, ([], [])) (aMem Z I, t) (qV Z t r) := by
  intro  I r h
  unfold f24_b18 at h
  cases h
  exact go_ret aMi24 rfl rfl ⟨rfl, rfl⟩
def f24 (kad : Nat → Nat) (N : Nat) (Z : AZ) (a0 : Nat) (i1 : Int32) (i2 : Int32) (I : AI) : Option (Unit × AI) :=
  if i1 < 0 then
    f24_b18 kad N Z  I
  else
    if (256 : Int32) ≤ i1 then
      f24_b18 kad N Z  I
    else
      (gR Z I 0 1 a0).bind fun b12_1 =>
      (sI Z I 100 b12_1 i1 i2).bind fun I17_2 =>
      f24_b18 kad N Z  I17_2
set_option maxRecDepth 20000 in
theorem Tf24 {kad : Nat → Nat} {N : Nat} {Z : AZ} {d : Nat} {t : Option Nat × (Nat × Nat)} (hd : 0 ≤ d) : ∀ (a0 : Nat) (i1 : Int32) (i2 : Int32) (I : AI) (r : Unit × AI), f24 kad N Z a0 i1 i2 I = some r → aGo kad d 24 (0, ([(0, .ref a0), (1, .int i1), (2, .int i2)], [])) (aMem Z I, t) (qV Z t r) := by
  intro a0 i1 i2 I r h
  unfold f24 at h
  refine go_ops aMi24 1 _ (f1 := (1, ([(0, .ref a0), (1, .int i1), (2, .int i2)], [.int i1]))) rfl ?_
  refine gg_br (b := decide (i1 < 0)) (tg := 18) (off := 17) aMi24 rfl rfl rfl rfl (fun hb => ?_) (fun hb => ?_)
  · rw [if_pos (of_decide_eq_true hb)] at h
    refine go_le (lv1 := []) (aLe_of (show (List.map (fun q => q.1) ([] : ALv)).Nodup from (by show ([] : List Nat).Nodup; decide)) aSubL_nil) ?_
    exact Tf24_b18 hd  I _ h
  · rw [if_neg (of_decide_eq_false hb)] at h
    refine go_ops aMi24 2 _ (f1 := (8, ([(0, .ref a0), (1, .int i1), (2, .int i2)], [.int (256 : Int32), .int i1]))) rfl ?_
    refine gg_br (b := decide ((256 : Int32) ≤ i1)) (tg := 18) (off := 10) aMi24 rfl rfl rfl rfl (fun hb => ?_) (fun hb => ?_)
    · rw [if_pos (of_decide_eq_true hb)] at h
      refine go_le (lv1 := []) (aLe_of (show (List.map (fun q => q.1) ([] : ALv)).Nodup from (by show ([] : List Nat).Nodup; decide)) aSubL_nil) ?_
      exact Tf24_b18 hd  I _ h
    · rw [if_neg (of_decide_eq_false hb)] at h
      refine go_ops aMi24 1 _ (f1 := (12, ([(0, .ref a0), (1, .int i1), (2, .int i2)], [.ref a0]))) rfl ?_
      obtain ⟨b12_1, hxb12_1, h⟩ := Option.bind_eq_some_iff.mp h
      refine gg_gR aMi24 rfl rfl rfl hxb12_1 ?_
      refine go_ops aMi24 2 _ (f1 := (17, ([(0, .ref a0), (1, .int i1), (2, .int i2)], [.int i2, .int i1, .ref b12_1]))) rfl ?_
      obtain ⟨I17_2, hxI17_2, h⟩ := Option.bind_eq_some_iff.mp h
      refine gg_sI (Or.inl ⟨rfl, rfl⟩) aMi24 rfl hxI17_2 ?_
      refine go_le (lv1 := []) (aLe_of (show (List.map (fun q => q.1) ([] : ALv)).Nodup from (by show ([] : List Nat).Nodup; decide)) aSubL_nil) ?_
      exact Tf24_b18 hd  I17_2 _ h
-- KernelGym$Assembler.putAtEnd (I)V
def f23_b56 (kad : Nat → Nat) (N : Nat) (Z : AZ)  (I : AI) : Option (Unit × AI) :=
  some ((), I)
set_option maxRecDepth 20000 in
theorem Tf23_b56 {kad : Nat → Nat} {N : Nat} {Z : AZ} {d : Nat} {t : Option Nat × (Nat × Nat)} (hd : 1 ≤ d) : ∀  (I : AI) (r : Unit × AI), f23_b56 kad N Z  I = some r → aGo kad d 23 (56, ([], [])) (aMem Z I, t) (qV Z t r) := by
  intro  I r h
  unfold f23_b56 at h
  cases h
  exact go_ret aMi23 rfl rfl ⟨rfl, rfl⟩
def f23 (kad : Nat → Nat) (N : Nat) (Z : AZ) (a0 : Nat) (i1 : Int32) (I : AI) : Option (Unit × AI) :=
  (gI Z I 0 15 a0).bind fun x1_1 =>
  if x1_1 < 0 then
    f23_b56 kad N Z  I
  else
    (gI Z I 0 15 a0).bind fun x8_2 =>
    (gR Z I 0 10 a0).bind fun b12_3 =>
    (nL Z b12_3).bind fun x15_4 =>
    if x15_4 ≤ x8_2 then
      f23_b56 kad N Z  I
    else
      (gR Z I 0 11 a0).bind fun b21_5 =>
      (gI Z I 0 15 a0).bind fun x25_6 =>
      (lI Z I 100 b21_5 x25_6).bind fun x28_7 =>
      (gR Z I 0 10 a0).bind fun b30_8 =>
      (gI Z I 0 15 a0).bind fun x34_9 =>
      (lI Z I 100 b30_8 x34_9).bind fun x37_10 =>
      (isK Z a0 0).bind fun u40_11 =>
      (f24 kad N Z a0 (x28_7 + x37_10) i1 I).bind fun r40_12 =>
      (gR Z r40_12.2 0 10 a0).bind fun b44_13 =>
      (gI Z r40_12.2 0 15 a0).bind fun x48_14 =>
      (lI Z r40_12.2 100 b44_13 x48_14).bind fun x52_15 =>
      (sI Z r40_12.2 100 b44_13 x48_14 (x52_15 + (1 : Int32))).bind fun I55_16 =>
      f23_b56 kad N Z  I55_16
set_option maxRecDepth 20000 in
theorem Tf23 {kad : Nat → Nat} {N : Nat} {Z : AZ} {d : Nat} {t : Option Nat × (Nat × Nat)} (hd : 1 ≤ d) : ∀ (a0 : Nat) (i1 : Int32) (I : AI) (r : Unit × AI), f23 kad N Z a0 i1 I = some r → aGo kad d 23 (0, ([(0, .ref a0), (1, .int i1)], [])) (aMem Z I, t) (qV Z t r) := by
  intro a0 i1 I r h
  unfold f23 at h
  refine go_ops aMi23 1 _ (f1 := (1, ([(0, .ref a0), (1, .int i1)], [.ref a0]))) rfl ?_
  obtain ⟨x1_1, hxx1_1, h⟩ := Option.bind_eq_some_iff.mp h
  refine gg_gI aMi23 rfl rfl rfl hxx1_1 ?_
  refine gg_br (b := decide (x1_1 < 0)) (tg := 56) (off := 52) aMi23 rfl rfl rfl rfl (fun hb => ?_) (fun hb => ?_)
  · rw [if_pos (of_decide_eq_true hb)] at h
    refine go_le (lv1 := []) (aLe_of (show (List.map (fun q => q.1) ([] : ALv)).Nodup from (by show ([] : List Nat).Nodup; decide)) aSubL_nil) ?_
    exact Tf23_b56 hd  I _ h
  · rw [if_neg (of_decide_eq_false hb)] at h
    refine go_ops aMi23 1 _ (f1 := (8, ([(0, .ref a0), (1, .int i1)], [.ref a0]))) rfl ?_
    obtain ⟨x8_2, hxx8_2, h⟩ := Option.bind_eq_some_iff.mp h
    refine gg_gI aMi23 rfl rfl rfl hxx8_2 ?_
    refine go_ops aMi23 1 _ (f1 := (12, ([(0, .ref a0), (1, .int i1)], [.ref a0, .int x8_2]))) rfl ?_
    obtain ⟨b12_3, hxb12_3, h⟩ := Option.bind_eq_some_iff.mp h
    refine gg_gR aMi23 rfl rfl rfl hxb12_3 ?_
    obtain ⟨x15_4, hxx15_4, h⟩ := Option.bind_eq_some_iff.mp h
    refine gg_len aMi23 rfl hxx15_4 ?_
    refine gg_br (b := decide (x15_4 ≤ x8_2)) (tg := 56) (off := 40) aMi23 rfl rfl rfl rfl (fun hb => ?_) (fun hb => ?_)
    · rw [if_pos (of_decide_eq_true hb)] at h
      refine go_le (lv1 := []) (aLe_of (show (List.map (fun q => q.1) ([] : ALv)).Nodup from (by show ([] : List Nat).Nodup; decide)) aSubL_nil) ?_
      exact Tf23_b56 hd  I _ h
    · rw [if_neg (of_decide_eq_false hb)] at h
      refine go_ops aMi23 2 _ (f1 := (21, ([(0, .ref a0), (1, .int i1)], [.ref a0, .ref a0]))) rfl ?_
      obtain ⟨b21_5, hxb21_5, h⟩ := Option.bind_eq_some_iff.mp h
      refine gg_gR aMi23 rfl rfl rfl hxb21_5 ?_
      refine go_ops aMi23 1 _ (f1 := (25, ([(0, .ref a0), (1, .int i1)], [.ref a0, .ref b21_5, .ref a0]))) rfl ?_
      obtain ⟨x25_6, hxx25_6, h⟩ := Option.bind_eq_some_iff.mp h
      refine gg_gI aMi23 rfl rfl rfl hxx25_6 ?_
      obtain ⟨x28_7, hxx28_7, h⟩ := Option.bind_eq_some_iff.mp h
      refine gg_lI (Or.inl ⟨rfl, rfl⟩) aMi23 rfl hxx28_7 ?_
      refine go_ops aMi23 1 _ (f1 := (30, ([(0, .ref a0), (1, .int i1)], [.ref a0, .int x28_7, .ref a0]))) rfl ?_
      obtain ⟨b30_8, hxb30_8, h⟩ := Option.bind_eq_some_iff.mp h
      refine gg_gR aMi23 rfl rfl rfl hxb30_8 ?_
      refine go_ops aMi23 1 _ (f1 := (34, ([(0, .ref a0), (1, .int i1)], [.ref a0, .ref b30_8, .int x28_7, .ref a0]))) rfl ?_
      obtain ⟨x34_9, hxx34_9, h⟩ := Option.bind_eq_some_iff.mp h
      refine gg_gI aMi23 rfl rfl rfl hxx34_9 ?_
      obtain ⟨x37_10, hxx37_10, h⟩ := Option.bind_eq_some_iff.mp h
      refine gg_lI (Or.inl ⟨rfl, rfl⟩) aMi23 rfl hxx37_10 ?_
      refine go_ops aMi23 2 _ (f1 := (40, ([(0, .ref a0), (1, .int i1)], [.int i1, .int (x28_7 + x37_10), .ref a0]))) rfl ?_
      obtain ⟨u40_11, hxu40_11, h⟩ := Option.bind_eq_some_iff.mp h
      obtain ⟨r40_12, hxr40_12, h⟩ := Option.bind_eq_some_iff.mp h
      refine gg_cv (as := [.int (x28_7 + x37_10), .int i1]) (r := []) aMi23 rfl rfl rfl aMi24 (Nat.le_of_ble_eq_true rfl) rfl (Nat.le_of_ble_eq_true rfl) (Nat.le_of_ble_eq_true rfl) (by omega) hxu40_11 (Tf24 (by omega) a0 (x28_7 + x37_10) i1 I _ hxr40_12) ?_
      show aGo kad d 23 (43, ([(0, .ref a0), (1, .int i1)], [])) (aMem Z r40_12.2, t) _
      refine go_ops aMi23 1 _ (f1 := (44, ([(0, .ref a0), (1, .int i1)], [.ref a0]))) rfl ?_
      obtain ⟨b44_13, hxb44_13, h⟩ := Option.bind_eq_some_iff.mp h
      refine gg_gR aMi23 rfl rfl rfl hxb44_13 ?_
      refine go_ops aMi23 1 _ (f1 := (48, ([(0, .ref a0), (1, .int i1)], [.ref a0, .ref b44_13]))) rfl ?_
      obtain ⟨x48_14, hxx48_14, h⟩ := Option.bind_eq_some_iff.mp h
      refine gg_gI aMi23 rfl rfl rfl hxx48_14 ?_
      refine go_ops aMi23 1 _ (f1 := (52, ([(0, .ref a0), (1, .int i1)], [.int x48_14, .ref b44_13, .int x48_14, .ref b44_13]))) rfl ?_
      obtain ⟨x52_15, hxx52_15, h⟩ := Option.bind_eq_some_iff.mp h
      refine gg_lI (Or.inl ⟨rfl, rfl⟩) aMi23 rfl hxx52_15 ?_
      refine go_ops aMi23 2 _ (f1 := (55, ([(0, .ref a0), (1, .int i1)], [.int (x52_15 + (1 : Int32)), .int x48_14, .ref b44_13]))) rfl ?_
      obtain ⟨I55_16, hxI55_16, h⟩ := Option.bind_eq_some_iff.mp h
      refine gg_sI (Or.inl ⟨rfl, rfl⟩) aMi23 rfl hxI55_16 ?_
      refine go_le (lv1 := []) (aLe_of (show (List.map (fun q => q.1) ([] : ALv)).Nodup from (by show ([] : List Nat).Nodup; decide)) aSubL_nil) ?_
      exact Tf23_b56 hd  I55_16 _ h
-- KernelGym$Assembler.useOperands (LKernelGym$Line;II)I
def f18_b157 (kad : Nat → Nat) (N : Nat) (Z : AZ)  (I : AI) : Option (Int32 × AI) :=
  some ((0 : Int32), I)
set_option maxRecDepth 20000 in
theorem Tf18_b157 {kad : Nat → Nat} {N : Nat} {Z : AZ} {d : Nat} {t : Option Nat × (Nat × Nat)} (hd : 2 ≤ d) : ∀  (I : AI) (r : Int32 × AI), f18_b157 kad N Z  I = some r → aGo kad d 18 (157, ([], [])) (aMem Z I, t) (qI Z t r) := by
  intro  I r h
  unfold f18_b157 at h
  refine go_ops aMi18 1 _ (f1 := (158, ([], [.int (0 : Int32)]))) rfl ?_
  cases h
  exact go_ret aMi18 rfl aRetI ⟨rfl, rfl⟩
def f18_b151 (kad : Nat → Nat) (N : Nat) (Z : AZ) (a0 : Nat) (i4 : Int32) (I : AI) : Option (Int32 × AI) :=
  (isK Z a0 0).bind fun u154_1 =>
  (f23 kad N Z a0 i4 I).bind fun r154_2 =>
  f18_b157 kad N Z  r154_2.2
set_option maxRecDepth 20000 in
theorem Tf18_b151 {kad : Nat → Nat} {N : Nat} {Z : AZ} {d : Nat} {t : Option Nat × (Nat × Nat)} (hd : 2 ≤ d) : ∀ (a0 : Nat) (i4 : Int32) (I : AI) (r : Int32 × AI), f18_b151 kad N Z a0 i4 I = some r → aGo kad d 18 (151, ([(0, .ref a0), (4, .int i4)], [])) (aMem Z I, t) (qI Z t r) := by
  intro a0 i4 I r h
  unfold f18_b151 at h
  refine go_ops aMi18 2 _ (f1 := (154, ([(0, .ref a0), (4, .int i4)], [.int i4, .ref a0]))) rfl ?_
  obtain ⟨u154_1, hxu154_1, h⟩ := Option.bind_eq_some_iff.mp h
  obtain ⟨r154_2, hxr154_2, h⟩ := Option.bind_eq_some_iff.mp h
  refine gg_cv (as := [.int i4]) (r := []) aMi18 rfl rfl rfl aMi23 (Nat.le_of_ble_eq_true rfl) rfl (Nat.le_of_ble_eq_true rfl) (Nat.le_of_ble_eq_true rfl) (by omega) hxu154_1 (Tf23 (by omega) a0 i4 I _ hxr154_2) ?_
  show aGo kad d 18 (157, ([(0, .ref a0), (4, .int i4)], [])) (aMem Z r154_2.2, t) _
  refine go_le (lv1 := []) (aLe_of (show (List.map (fun q => q.1) ([] : ALv)).Nodup from (by show ([] : List Nat).Nodup; decide)) aSubL_nil) ?_
  exact Tf18_b157 hd  r154_2.2 _ h
def f18_b131 (kad : Nat → Nat) (N : Nat) (Z : AZ) (a0 : Nat) (a1 : Nat) (i4 : Int32) (I : AI) : Option (Int32 × AI) :=
  (gR Z I 7 0 a1).bind fun b132_1 =>
  if b132_1 = (kad 2) then
    f18_b151 kad N Z a0 i4 I
  else
    (gR Z I 7 0 a1).bind fun b142_2 =>
    if ¬ b142_2 = (kad 3) then
      f18_b157 kad N Z  I
    else
      f18_b151 kad N Z a0 i4 I
set_option maxRecDepth 20000 in
theorem Tf18_b131 {kad : Nat → Nat} {N : Nat} {Z : AZ} {d : Nat} {t : Option Nat × (Nat × Nat)} (hd : 2 ≤ d) : ∀ (a0 : Nat) (a1 : Nat) (i4 : Int32) (I : AI) (r : Int32 × AI), f18_b131 kad N Z a0 a1 i4 I = some r → aGo kad d 18 (131, ([(0, .ref a0), (1, .ref a1), (4, .int i4)], [])) (aMem Z I, t) (qI Z t r) := by
  intro a0 a1 i4 I r h
  unfold f18_b131 at h
  refine go_ops aMi18 1 _ (f1 := (132, ([(0, .ref a0), (1, .ref a1), (4, .int i4)], [.ref a1]))) rfl ?_
  obtain ⟨b132_1, hxb132_1, h⟩ := Option.bind_eq_some_iff.mp h
  refine gg_gR aMi18 rfl rfl rfl hxb132_1 ?_
  refine gg_gs aMi18 rfl rfl ?_
  refine gg_br (b := decide (b132_1 = (kad 2))) (tg := 151) (off := 13) aMi18 rfl rfl rfl rfl (fun hb => ?_) (fun hb => ?_)
  · rw [if_pos (of_decide_eq_true hb)] at h
    refine go_le (lv1 := [(0, .ref a0), (4, .int i4)]) (aLe_of (show (List.map (fun q => q.1) ([(0, .ref a0), (4, .int i4)] : ALv)).Nodup from (by show ([0, 4] : List Nat).Nodup; decide)) (aSubL_cons rfl (aSubL_cons rfl aSubL_nil))) ?_
    exact Tf18_b151 hd a0 i4 I _ h
  · rw [if_neg (of_decide_eq_false hb)] at h
    refine go_ops aMi18 1 _ (f1 := (142, ([(0, .ref a0), (1, .ref a1), (4, .int i4)], [.ref a1]))) rfl ?_
    obtain ⟨b142_2, hxb142_2, h⟩ := Option.bind_eq_some_iff.mp h
    refine gg_gR aMi18 rfl rfl rfl hxb142_2 ?_
    refine gg_gs aMi18 rfl rfl ?_
    refine gg_br (b := decide (¬ b142_2 = (kad 3))) (tg := 157) (off := 9) aMi18 rfl rfl rfl rfl (fun hb => ?_) (fun hb => ?_)
    · rw [if_pos (of_decide_eq_true hb)] at h
      refine go_le (lv1 := []) (aLe_of (show (List.map (fun q => q.1) ([] : ALv)).Nodup from (by show ([] : List Nat).Nodup; decide)) aSubL_nil) ?_
      exact Tf18_b157 hd  I _ h
    · rw [if_neg (of_decide_eq_false hb)] at h
      refine go_le (lv1 := [(0, .ref a0), (4, .int i4)]) (aLe_of (show (List.map (fun q => q.1) ([(0, .ref a0), (4, .int i4)] : ALv)).Nodup from (by show ([0, 4] : List Nat).Nodup; decide)) (aSubL_cons rfl (aSubL_cons rfl aSubL_nil))) ?_
      exact Tf18_b151 hd a0 i4 I _ h
def f18_b113 (kad : Nat → Nat) (N : Nat) (Z : AZ) (a0 : Nat) (a1 : Nat) (i4 : Int32) (I : AI) : Option (Int32 × AI) :=
  (gR Z I 7 0 a1).bind fun b114_1 =>
  if ¬ b114_1 = (kad 2) then
    f18_b131 kad N Z a0 a1 i4 I
  else
    (gI Z I 7 1 a1).bind fun x125_2 =>
    (isK Z a0 0).bind fun u128_3 =>
    (f23 kad N Z a0 x125_2 I).bind fun r128_4 =>
    f18_b131 kad N Z a0 a1 i4 r128_4.2
set_option maxRecDepth 20000 in
theorem Tf18_b113 {kad : Nat → Nat} {N : Nat} {Z : AZ} {d : Nat} {t : Option Nat × (Nat × Nat)} (hd : 2 ≤ d) : ∀ (a0 : Nat) (a1 : Nat) (i4 : Int32) (I : AI) (r : Int32 × AI), f18_b113 kad N Z a0 a1 i4 I = some r → aGo kad d 18 (113, ([(0, .ref a0), (1, .ref a1), (4, .int i4)], [])) (aMem Z I, t) (qI Z t r) := by
  intro a0 a1 i4 I r h
  unfold f18_b113 at h
  refine go_ops aMi18 1 _ (f1 := (114, ([(0, .ref a0), (1, .ref a1), (4, .int i4)], [.ref a1]))) rfl ?_
  obtain ⟨b114_1, hxb114_1, h⟩ := Option.bind_eq_some_iff.mp h
  refine gg_gR aMi18 rfl rfl rfl hxb114_1 ?_
  refine gg_gs aMi18 rfl rfl ?_
  refine gg_br (b := decide (¬ b114_1 = (kad 2))) (tg := 131) (off := 11) aMi18 rfl rfl rfl rfl (fun hb => ?_) (fun hb => ?_)
  · rw [if_pos (of_decide_eq_true hb)] at h
    exact Tf18_b131 hd a0 a1 i4 I _ h
  · rw [if_neg (of_decide_eq_false hb)] at h
    refine go_ops aMi18 2 _ (f1 := (125, ([(0, .ref a0), (1, .ref a1), (4, .int i4)], [.ref a1, .ref a0]))) rfl ?_
    obtain ⟨x125_2, hxx125_2, h⟩ := Option.bind_eq_some_iff.mp h
    refine gg_gI aMi18 rfl rfl rfl hxx125_2 ?_
    obtain ⟨u128_3, hxu128_3, h⟩ := Option.bind_eq_some_iff.mp h
    obtain ⟨r128_4, hxr128_4, h⟩ := Option.bind_eq_some_iff.mp h
    refine gg_cv (as := [.int x125_2]) (r := []) aMi18 rfl rfl rfl aMi23 (Nat.le_of_ble_eq_true rfl) rfl (Nat.le_of_ble_eq_true rfl) (Nat.le_of_ble_eq_true rfl) (by omega) hxu128_3 (Tf23 (by omega) a0 x125_2 I _ hxr128_4) ?_
    show aGo kad d 18 (131, ([(0, .ref a0), (1, .ref a1), (4, .int i4)], [])) (aMem Z r128_4.2, t) _
    exact Tf18_b131 hd a0 a1 i4 r128_4.2 _ h
def f18_b81 (kad : Nat → Nat) (N : Nat) (Z : AZ) (a0 : Nat) (a1 : Nat) (i2 : Int32) (i4 : Int32) (i5 : Int32) (I : AI) : Option (Int32 × AI) :=
  if i5 = 0 then
    (gR Z I 7 0 a1).bind fun b94_1 =>
    if ¬ b94_1 = (kad 5) then
      f18_b113 kad N Z a0 a1 i4 I
    else
      (gI Z I 7 1 a1).bind fun x105_2 =>
      (isK Z a0 0).bind fun u110_3 =>
      (f24 kad N Z a0 x105_2 i4 I).bind fun r110_4 =>
      f18_b113 kad N Z a0 a1 i4 r110_4.2
  else
    (f7 kad N Z i5 i2 I).bind fun r89_5 =>
    some (r89_5.1, r89_5.2)
set_option maxRecDepth 20000 in
theorem Tf18_b81 {kad : Nat → Nat} {N : Nat} {Z : AZ} {d : Nat} {t : Option Nat × (Nat × Nat)} (hd : 2 ≤ d) : ∀ (a0 : Nat) (a1 : Nat) (i2 : Int32) (i4 : Int32) (i5 : Int32) (I : AI) (r : Int32 × AI), f18_b81 kad N Z a0 a1 i2 i4 i5 I = some r → aGo kad d 18 (81, ([(0, .ref a0), (1, .ref a1), (2, .int i2), (4, .int i4), (5, .int i5)], [])) (aMem Z I, t) (qI Z t r) := by
  intro a0 a1 i2 i4 i5 I r h
  unfold f18_b81 at h
  refine go_ops aMi18 1 _ (f1 := (83, ([(0, .ref a0), (1, .ref a1), (2, .int i2), (4, .int i4), (5, .int i5)], [.int i5]))) rfl ?_
  refine gg_br (b := decide (i5 = 0)) (tg := 93) (off := 10) aMi18 rfl rfl rfl rfl (fun hb => ?_) (fun hb => ?_)
  · rw [if_pos (of_decide_eq_true hb)] at h
    refine go_ops aMi18 1 _ (f1 := (94, ([(0, .ref a0), (1, .ref a1), (2, .int i2), (4, .int i4), (5, .int i5)], [.ref a1]))) rfl ?_
    obtain ⟨b94_1, hxb94_1, h⟩ := Option.bind_eq_some_iff.mp h
    refine gg_gR aMi18 rfl rfl rfl hxb94_1 ?_
    refine gg_gs aMi18 rfl rfl ?_
    refine gg_br (b := decide (¬ b94_1 = (kad 5))) (tg := 113) (off := 13) aMi18 rfl rfl rfl rfl (fun hb => ?_) (fun hb => ?_)
    · rw [if_pos (of_decide_eq_true hb)] at h
      refine go_le (lv1 := [(0, .ref a0), (1, .ref a1), (4, .int i4)]) (aLe_of (show (List.map (fun q => q.1) ([(0, .ref a0), (1, .ref a1), (4, .int i4)] : ALv)).Nodup from (by show ([0, 1, 4] : List Nat).Nodup; decide)) (aSubL_cons rfl (aSubL_cons rfl (aSubL_cons rfl aSubL_nil)))) ?_
      exact Tf18_b113 hd a0 a1 i4 I _ h
    · rw [if_neg (of_decide_eq_false hb)] at h
      refine go_ops aMi18 2 _ (f1 := (105, ([(0, .ref a0), (1, .ref a1), (2, .int i2), (4, .int i4), (5, .int i5)], [.ref a1, .ref a0]))) rfl ?_
      obtain ⟨x105_2, hxx105_2, h⟩ := Option.bind_eq_some_iff.mp h
      refine gg_gI aMi18 rfl rfl rfl hxx105_2 ?_
      refine go_ops aMi18 1 _ (f1 := (110, ([(0, .ref a0), (1, .ref a1), (2, .int i2), (4, .int i4), (5, .int i5)], [.int i4, .int x105_2, .ref a0]))) rfl ?_
      obtain ⟨u110_3, hxu110_3, h⟩ := Option.bind_eq_some_iff.mp h
      obtain ⟨r110_4, hxr110_4, h⟩ := Option.bind_eq_some_iff.mp h
      refine gg_cv (as := [.int x105_2, .int i4]) (r := []) aMi18 rfl rfl rfl aMi24 (Nat.le_of_ble_eq_true rfl) rfl (Nat.le_of_ble_eq_true rfl) (Nat.le_of_ble_eq_true rfl) (by omega) hxu110_3 (Tf24 (by omega) a0 x105_2 i4 I _ hxr110_4) ?_
      show aGo kad d 18 (113, ([(0, .ref a0), (1, .ref a1), (2, .int i2), (4, .int i4), (5, .int i5)], [])) (aMem Z r110_4.2, t) _
      refine go_le (lv1 := [(0, .ref a0), (1, .ref a1), (4, .int i4)]) (aLe_of (show (List.map (fun q => q.1) ([(0, .ref a0), (1, .ref a1), (4, .int i4)] : ALv)).Nodup from (by show ([0, 1, 4] : List Nat).Nodup; decide)) (aSubL_cons rfl (aSubL_cons rfl (aSubL_cons rfl aSubL_nil)))) ?_
      exact Tf18_b113 hd a0 a1 i4 r110_4.2 _ h
  · rw [if_neg (of_decide_eq_false hb)] at h
    refine go_ops aMi18 2 _ (f1 := (89, ([(0, .ref a0), (1, .ref a1), (2, .int i2), (4, .int i4), (5, .int i5)], [.int i2, .int i5]))) rfl ?_
    obtain ⟨r89_5, hxr89_5, h⟩ := Option.bind_eq_some_iff.mp h
    refine gg_cs (as := [.int i5, .int i2]) (r := []) aMi18 rfl rfl rfl aMi7 rfl (Nat.le_of_ble_eq_true rfl) (Nat.le_of_ble_eq_true rfl) (by omega) (Tf7 (by omega) i5 i2 I _ hxr89_5) ?_
    show aGo kad d 18 (92, ([(0, .ref a0), (1, .ref a1), (2, .int i2), (4, .int i4), (5, .int i5)], [.int r89_5.1])) (aMem Z r89_5.2, t) _
    cases h
    exact go_ret aMi18 rfl aRetI ⟨rfl, rfl⟩
def f18 (kad : Nat → Nat) (N : Nat) (Z : AZ) (a0 : Nat) (a1 : Nat) (i2 : Int32) (i3 : Int32) (I : AI) : Option (Int32 × AI) :=
  (gI Z I 7 2 a1).bind fun x2_1 =>
  (gI Z I 7 3 a1).bind fun x6_2 =>
  (isK Z a0 0).bind fun u10_3 =>
  (f19 kad N Z a0 x2_1 x6_2 i3 I).bind fun r10_4 =>
  (gI Z r10_4.2 7 2 a1).bind fun x16_5 =>
  (f20 kad N Z x16_5 r10_4.1 r10_4.2).bind fun r21_6 =>
  if ¬ r21_6.1 = 0 then
    f18_b81 kad N Z a0 a1 i2 r10_4.1 r21_6.1 r21_6.2
  else
    (gR Z r21_6.2 7 0 a1).bind fun b32_7 =>
    if ¬ b32_7 = (kad 8) then
      f18_b81 kad N Z a0 a1 i2 r10_4.1 r21_6.1 r21_6.2
    else
      (gI Z r21_6.2 7 4 a1).bind fun x43_8 =>
      (gI Z r21_6.2 7 5 a1).bind fun x47_9 =>
      (isK Z a0 0).bind fun u51_10 =>
      (f19 kad N Z a0 x43_8 x47_9 i3 r21_6.2).bind fun r51_11 =>
      (gI Z r51_11.2 7 4 a1).bind fun x57_12 =>
      (f20 kad N Z x57_12 r51_11.1 r51_11.2).bind fun r62_13 =>
      (gI Z r62_13.2 0 14 a0).bind fun x69_14 =>
      (isK Z a0 0).bind fun u78_15 =>
      (f22 kad N Z a0 (x69_14 + (1 : Int32)) r10_4.1 r51_11.1 r62_13.2).bind fun r78_16 =>
      f18_b81 kad N Z a0 a1 i2 r10_4.1 r62_13.1 r78_16.2
set_option maxRecDepth 20000 in
theorem Tf18 {kad : Nat → Nat} {N : Nat} {Z : AZ} {d : Nat} {t : Option Nat × (Nat × Nat)} (hd : 2 ≤ d) : ∀ (a0 : Nat) (a1 : Nat) (i2 : Int32) (i3 : Int32) (I : AI) (r : Int32 × AI), f18 kad N Z a0 a1 i2 i3 I = some r → aGo kad d 18 (0, ([(0, .ref a0), (1, .ref a1), (2, .int i2), (3, .int i3)], [])) (aMem Z I, t) (qI Z t r) := by
  intro a0 a1 i2 i3 I r h
  unfold f18 at h
  refine go_ops aMi18 2 _ (f1 := (2, ([(0, .ref a0), (1, .ref a1), (2, .int i2), (3, .int i3)], [.ref a1, .ref a0]))) rfl ?_
  obtain ⟨x2_1, hxx2_1, h⟩ := Option.bind_eq_some_iff.mp h
  refine gg_gI aMi18 rfl rfl rfl hxx2_1 ?_
  refine go_ops aMi18 1 _ (f1 := (6, ([(0, .ref a0), (1, .ref a1), (2, .int i2), (3, .int i3)], [.ref a1, .int x2_1, .ref a0]))) rfl ?_
  obtain ⟨x6_2, hxx6_2, h⟩ := Option.bind_eq_some_iff.mp h
  refine gg_gI aMi18 rfl rfl rfl hxx6_2 ?_
  refine go_ops aMi18 1 _ (f1 := (10, ([(0, .ref a0), (1, .ref a1), (2, .int i2), (3, .int i3)], [.int i3, .int x6_2, .int x2_1, .ref a0]))) rfl ?_
  obtain ⟨u10_3, hxu10_3, h⟩ := Option.bind_eq_some_iff.mp h
  obtain ⟨r10_4, hxr10_4, h⟩ := Option.bind_eq_some_iff.mp h
  refine gg_cv (as := [.int x2_1, .int x6_2, .int i3]) (r := []) aMi18 rfl rfl rfl aMi19 (Nat.le_of_ble_eq_true rfl) rfl (Nat.le_of_ble_eq_true rfl) (Nat.le_of_ble_eq_true rfl) (by omega) hxu10_3 (Tf19 (by omega) a0 x2_1 x6_2 i3 I _ hxr10_4) ?_
  show aGo kad d 18 (13, ([(0, .ref a0), (1, .ref a1), (2, .int i2), (3, .int i3)], [.int r10_4.1])) (aMem Z r10_4.2, t) _
  refine go_ops aMi18 2 _ (f1 := (16, ([(4, .int r10_4.1), (0, .ref a0), (1, .ref a1), (2, .int i2), (3, .int i3)], [.ref a1]))) rfl ?_
  obtain ⟨x16_5, hxx16_5, h⟩ := Option.bind_eq_some_iff.mp h
  refine gg_gI aMi18 rfl rfl rfl hxx16_5 ?_
  refine go_ops aMi18 1 _ (f1 := (21, ([(4, .int r10_4.1), (0, .ref a0), (1, .ref a1), (2, .int i2), (3, .int i3)], [.int r10_4.1, .int x16_5]))) rfl ?_
  obtain ⟨r21_6, hxr21_6, h⟩ := Option.bind_eq_some_iff.mp h
  refine gg_cs (as := [.int x16_5, .int r10_4.1]) (r := []) aMi18 rfl rfl rfl aMi20 rfl (Nat.le_of_ble_eq_true rfl) (Nat.le_of_ble_eq_true rfl) (by omega) (Tf20 (by omega) x16_5 r10_4.1 r10_4.2 _ hxr21_6) ?_
  show aGo kad d 18 (24, ([(4, .int r10_4.1), (0, .ref a0), (1, .ref a1), (2, .int i2), (3, .int i3)], [.int r21_6.1])) (aMem Z r21_6.2, t) _
  refine go_ops aMi18 2 _ (f1 := (28, ([(5, .int r21_6.1), (4, .int r10_4.1), (0, .ref a0), (1, .ref a1), (2, .int i2), (3, .int i3)], [.int r21_6.1]))) rfl ?_
  refine gg_br (b := decide (¬ r21_6.1 = 0)) (tg := 81) (off := 53) aMi18 rfl rfl rfl rfl (fun hb => ?_) (fun hb => ?_)
  · rw [if_pos (of_decide_eq_true hb)] at h
    refine go_le (lv1 := [(0, .ref a0), (1, .ref a1), (2, .int i2), (4, .int r10_4.1), (5, .int r21_6.1)]) (aLe_of (show (List.map (fun q => q.1) ([(0, .ref a0), (1, .ref a1), (2, .int i2), (4, .int r10_4.1), (5, .int r21_6.1)] : ALv)).Nodup from (by show ([0, 1, 2, 4, 5] : List Nat).Nodup; decide)) (aSubL_cons rfl (aSubL_cons rfl (aSubL_cons rfl (aSubL_cons rfl (aSubL_cons rfl aSubL_nil)))))) ?_
    exact Tf18_b81 hd a0 a1 i2 r10_4.1 r21_6.1 r21_6.2 _ h
  · rw [if_neg (of_decide_eq_false hb)] at h
    refine go_ops aMi18 1 _ (f1 := (32, ([(5, .int r21_6.1), (4, .int r10_4.1), (0, .ref a0), (1, .ref a1), (2, .int i2), (3, .int i3)], [.ref a1]))) rfl ?_
    obtain ⟨b32_7, hxb32_7, h⟩ := Option.bind_eq_some_iff.mp h
    refine gg_gR aMi18 rfl rfl rfl hxb32_7 ?_
    refine gg_gs aMi18 rfl rfl ?_
    refine gg_br (b := decide (¬ b32_7 = (kad 8))) (tg := 81) (off := 43) aMi18 rfl rfl rfl rfl (fun hb => ?_) (fun hb => ?_)
    · rw [if_pos (of_decide_eq_true hb)] at h
      refine go_le (lv1 := [(0, .ref a0), (1, .ref a1), (2, .int i2), (4, .int r10_4.1), (5, .int r21_6.1)]) (aLe_of (show (List.map (fun q => q.1) ([(0, .ref a0), (1, .ref a1), (2, .int i2), (4, .int r10_4.1), (5, .int r21_6.1)] : ALv)).Nodup from (by show ([0, 1, 2, 4, 5] : List Nat).Nodup; decide)) (aSubL_cons rfl (aSubL_cons rfl (aSubL_cons rfl (aSubL_cons rfl (aSubL_cons rfl aSubL_nil)))))) ?_
      exact Tf18_b81 hd a0 a1 i2 r10_4.1 r21_6.1 r21_6.2 _ h
    · rw [if_neg (of_decide_eq_false hb)] at h
      refine go_ops aMi18 2 _ (f1 := (43, ([(5, .int r21_6.1), (4, .int r10_4.1), (0, .ref a0), (1, .ref a1), (2, .int i2), (3, .int i3)], [.ref a1, .ref a0]))) rfl ?_
      obtain ⟨x43_8, hxx43_8, h⟩ := Option.bind_eq_some_iff.mp h
      refine gg_gI aMi18 rfl rfl rfl hxx43_8 ?_
      refine go_ops aMi18 1 _ (f1 := (47, ([(5, .int r21_6.1), (4, .int r10_4.1), (0, .ref a0), (1, .ref a1), (2, .int i2), (3, .int i3)], [.ref a1, .int x43_8, .ref a0]))) rfl ?_
      obtain ⟨x47_9, hxx47_9, h⟩ := Option.bind_eq_some_iff.mp h
      refine gg_gI aMi18 rfl rfl rfl hxx47_9 ?_
      refine go_ops aMi18 1 _ (f1 := (51, ([(5, .int r21_6.1), (4, .int r10_4.1), (0, .ref a0), (1, .ref a1), (2, .int i2), (3, .int i3)], [.int i3, .int x47_9, .int x43_8, .ref a0]))) rfl ?_
      obtain ⟨u51_10, hxu51_10, h⟩ := Option.bind_eq_some_iff.mp h
      obtain ⟨r51_11, hxr51_11, h⟩ := Option.bind_eq_some_iff.mp h
      refine gg_cv (as := [.int x43_8, .int x47_9, .int i3]) (r := []) aMi18 rfl rfl rfl aMi19 (Nat.le_of_ble_eq_true rfl) rfl (Nat.le_of_ble_eq_true rfl) (Nat.le_of_ble_eq_true rfl) (by omega) hxu51_10 (Tf19 (by omega) a0 x43_8 x47_9 i3 r21_6.2 _ hxr51_11) ?_
      show aGo kad d 18 (54, ([(5, .int r21_6.1), (4, .int r10_4.1), (0, .ref a0), (1, .ref a1), (2, .int i2), (3, .int i3)], [.int r51_11.1])) (aMem Z r51_11.2, t) _
      refine go_ops aMi18 2 _ (f1 := (57, ([(6, .int r51_11.1), (5, .int r21_6.1), (4, .int r10_4.1), (0, .ref a0), (1, .ref a1), (2, .int i2), (3, .int i3)], [.ref a1]))) rfl ?_
      obtain ⟨x57_12, hxx57_12, h⟩ := Option.bind_eq_some_iff.mp h
      refine gg_gI aMi18 rfl rfl rfl hxx57_12 ?_
      refine go_ops aMi18 1 _ (f1 := (62, ([(6, .int r51_11.1), (5, .int r21_6.1), (4, .int r10_4.1), (0, .ref a0), (1, .ref a1), (2, .int i2), (3, .int i3)], [.int r51_11.1, .int x57_12]))) rfl ?_
      obtain ⟨r62_13, hxr62_13, h⟩ := Option.bind_eq_some_iff.mp h
      refine gg_cs (as := [.int x57_12, .int r51_11.1]) (r := []) aMi18 rfl rfl rfl aMi20 rfl (Nat.le_of_ble_eq_true rfl) (Nat.le_of_ble_eq_true rfl) (by omega) (Tf20 (by omega) x57_12 r51_11.1 r51_11.2 _ hxr62_13) ?_
      show aGo kad d 18 (65, ([(6, .int r51_11.1), (5, .int r21_6.1), (4, .int r10_4.1), (0, .ref a0), (1, .ref a1), (2, .int i2), (3, .int i3)], [.int r62_13.1])) (aMem Z r62_13.2, t) _
      refine go_ops aMi18 3 _ (f1 := (69, ([(5, .int r62_13.1), (6, .int r51_11.1), (4, .int r10_4.1), (0, .ref a0), (1, .ref a1), (2, .int i2), (3, .int i3)], [.ref a0, .ref a0]))) rfl ?_
      obtain ⟨x69_14, hxx69_14, h⟩ := Option.bind_eq_some_iff.mp h
      refine gg_gI aMi18 rfl rfl rfl hxx69_14 ?_
      refine go_ops aMi18 4 _ (f1 := (78, ([(5, .int r62_13.1), (6, .int r51_11.1), (4, .int r10_4.1), (0, .ref a0), (1, .ref a1), (2, .int i2), (3, .int i3)], [.int r51_11.1, .int r10_4.1, .int (x69_14 + (1 : Int32)), .ref a0]))) rfl ?_
      obtain ⟨u78_15, hxu78_15, h⟩ := Option.bind_eq_some_iff.mp h
      obtain ⟨r78_16, hxr78_16, h⟩ := Option.bind_eq_some_iff.mp h
      refine gg_cv (as := [.int (x69_14 + (1 : Int32)), .int r10_4.1, .int r51_11.1]) (r := []) aMi18 rfl rfl rfl aMi22 (Nat.le_of_ble_eq_true rfl) rfl (Nat.le_of_ble_eq_true rfl) (Nat.le_of_ble_eq_true rfl) (by omega) hxu78_15 (Tf22 (by omega) a0 (x69_14 + (1 : Int32)) r10_4.1 r51_11.1 r62_13.2 _ hxr78_16) ?_
      show aGo kad d 18 (81, ([(5, .int r62_13.1), (6, .int r51_11.1), (4, .int r10_4.1), (0, .ref a0), (1, .ref a1), (2, .int i2), (3, .int i3)], [])) (aMem Z r78_16.2, t) _
      refine go_le (lv1 := [(0, .ref a0), (1, .ref a1), (2, .int i2), (4, .int r10_4.1), (5, .int r62_13.1)]) (aLe_of (show (List.map (fun q => q.1) ([(0, .ref a0), (1, .ref a1), (2, .int i2), (4, .int r10_4.1), (5, .int r62_13.1)] : ALv)).Nodup from (by show ([0, 1, 2, 4, 5] : List Nat).Nodup; decide)) (aSubL_cons rfl (aSubL_cons rfl (aSubL_cons rfl (aSubL_cons rfl (aSubL_cons rfl aSubL_nil)))))) ?_
      exact Tf18_b81 hd a0 a1 i2 r10_4.1 r62_13.1 r78_16.2 _ h
-- KernelGym$Assembler.secondTime (LKernelGym$Line;II)I
def f17_b89 (kad : Nat → Nat) (N : Nat) (Z : AZ)  (I : AI) : Option (Int32 × AI) :=
  some ((0 : Int32), I)
set_option maxRecDepth 20000 in
theorem Tf17_b89 {kad : Nat → Nat} {N : Nat} {Z : AZ} {d : Nat} {t : Option Nat × (Nat × Nat)} (hd : 3 ≤ d) : ∀  (I : AI) (r : Int32 × AI), f17_b89 kad N Z  I = some r → aGo kad d 17 (89, ([], [])) (aMem Z I, t) (qI Z t r) := by
  intro  I r h
  unfold f17_b89 at h
  refine go_ops aMi17 1 _ (f1 := (90, ([], [.int (0 : Int32)]))) rfl ?_
  cases h
  exact go_ret aMi17 rfl aRetI ⟨rfl, rfl⟩
def f17_b81 (kad : Nat → Nat) (N : Nat) (Z : AZ) (a0 : Nat) (a1 : Nat) (i2 : Int32) (i3 : Int32) (I : AI) : Option (Int32 × AI) :=
  (isK Z a0 0).bind fun u85_1 =>
  (f18 kad N Z a0 a1 i2 i3 I).bind fun r85_2 =>
  some (r85_2.1, r85_2.2)
set_option maxRecDepth 20000 in
theorem Tf17_b81 {kad : Nat → Nat} {N : Nat} {Z : AZ} {d : Nat} {t : Option Nat × (Nat × Nat)} (hd : 3 ≤ d) : ∀ (a0 : Nat) (a1 : Nat) (i2 : Int32) (i3 : Int32) (I : AI) (r : Int32 × AI), f17_b81 kad N Z a0 a1 i2 i3 I = some r → aGo kad d 17 (81, ([(0, .ref a0), (1, .ref a1), (2, .int i2), (3, .int i3)], [])) (aMem Z I, t) (qI Z t r) := by
  intro a0 a1 i2 i3 I r h
  unfold f17_b81 at h
  refine go_ops aMi17 4 _ (f1 := (85, ([(0, .ref a0), (1, .ref a1), (2, .int i2), (3, .int i3)], [.int i3, .int i2, .ref a1, .ref a0]))) rfl ?_
  obtain ⟨u85_1, hxu85_1, h⟩ := Option.bind_eq_some_iff.mp h
  obtain ⟨r85_2, hxr85_2, h⟩ := Option.bind_eq_some_iff.mp h
  refine gg_cv (as := [.ref a1, .int i2, .int i3]) (r := []) aMi17 rfl rfl rfl aMi18 (Nat.le_of_ble_eq_true rfl) rfl (Nat.le_of_ble_eq_true rfl) (Nat.le_of_ble_eq_true rfl) (by omega) hxu85_1 (Tf18 (by omega) a0 a1 i2 i3 I _ hxr85_2) ?_
  show aGo kad d 17 (88, ([(0, .ref a0), (1, .ref a1), (2, .int i2), (3, .int i3)], [.int r85_2.1])) (aMem Z r85_2.2, t) _
  cases h
  exact go_ret aMi17 rfl aRetI ⟨rfl, rfl⟩
def f17 (kad : Nat → Nat) (N : Nat) (Z : AZ) (a0 : Nat) (a1 : Nat) (i2 : Int32) (i3 : Int32) (I : AI) : Option (Int32 × AI) :=
  (gR Z I 7 0 a1).bind fun b4_1 =>
  (orI kad b4_1).bind fun x7_2 =>
  (swI kad Z x7_2).bind fun x10_3 =>
  if x10_3 = (1 : Int32) then
    (gI Z I 7 1 a1).bind fun x62_4 =>
    (pI Z I 0 15 a0 x62_4).bind fun I65_5 =>
    some ((0 : Int32), I65_5)
  else
  if x10_3 = (2 : Int32) then
    f17_b89 kad N Z  I
  else
  if x10_3 = (3 : Int32) then
    f17_b81 kad N Z a0 a1 i2 i3 I
  else
  if x10_3 = (4 : Int32) then
    f17_b81 kad N Z a0 a1 i2 i3 I
  else
  if x10_3 = (5 : Int32) then
    (gI Z I 7 1 a1).bind fun x72_6 =>
    (isK Z a0 0).bind fun u75_7 =>
    (f12 kad N Z a0 x72_6 I).bind fun r75_8 =>
    some ((0 : Int32), r75_8.2)
  else
  if x10_3 = (6 : Int32) then
    f17_b89 kad N Z  I
  else
  if x10_3 = (7 : Int32) then
    f17_b89 kad N Z  I
  else
  if x10_3 = (8 : Int32) then
    f17_b81 kad N Z a0 a1 i2 i3 I
  else
  if x10_3 = (9 : Int32) then
    f17_b81 kad N Z a0 a1 i2 i3 I
  else
    f17_b89 kad N Z  I
set_option maxRecDepth 20000 in
theorem Tf17 {kad : Nat → Nat} {N : Nat} {Z : AZ} {d : Nat} {t : Option Nat × (Nat × Nat)} (hd : 3 ≤ d) : ∀ (a0 : Nat) (a1 : Nat) (i2 : Int32) (i3 : Int32) (I : AI) (r : Int32 × AI), f17 kad N Z a0 a1 i2 i3 I = some r → aGo kad d 17 (0, ([(0, .ref a0), (1, .ref a1), (2, .int i2), (3, .int i3)], [])) (aMem Z I, t) (qI Z t r) := by
  intro a0 a1 i2 i3 I r h
  unfold f17 at h
  refine gg_gs aMi17 rfl rfl ?_
  refine go_ops aMi17 1 _ (f1 := (4, ([(0, .ref a0), (1, .ref a1), (2, .int i2), (3, .int i3)], [.ref a1, .ref (kad 9)]))) rfl ?_
  obtain ⟨b4_1, hxb4_1, h⟩ := Option.bind_eq_some_iff.mp h
  refine gg_gR aMi17 rfl rfl rfl hxb4_1 ?_
  obtain ⟨x7_2, hxx7_2, h⟩ := Option.bind_eq_some_iff.mp h
  refine gg_or aMi17 rfl rfl (Nat.le_of_ble_eq_true rfl) hxx7_2 ?_
  obtain ⟨x10_3, hxx10_3, h⟩ := Option.bind_eq_some_iff.mp h
  refine gg_sw aMi17 rfl hxx10_3 ?_
  by_cases hs0 : x10_3 = (1 : Int32)
  · rw [if_pos hs0] at h
    refine go_sw (f1 := (60, ([(0, .ref a0), (1, .ref a1), (2, .int i2), (3, .int i3)], []))) aMi17 rfl (by rw [hs0]; rfl) ?_
    refine go_ops aMi17 2 _ (f1 := (62, ([(0, .ref a0), (1, .ref a1), (2, .int i2), (3, .int i3)], [.ref a1, .ref a0]))) rfl ?_
    obtain ⟨x62_4, hxx62_4, h⟩ := Option.bind_eq_some_iff.mp h
    refine gg_gI aMi17 rfl rfl rfl hxx62_4 ?_
    obtain ⟨I65_5, hxI65_5, h⟩ := Option.bind_eq_some_iff.mp h
    refine gg_pI aMi17 rfl rfl rfl rfl (by decide) hxI65_5 ?_
    refine go_ops aMi17 1 _ (f1 := (69, ([(0, .ref a0), (1, .ref a1), (2, .int i2), (3, .int i3)], [.int (0 : Int32)]))) rfl ?_
    cases h
    exact go_ret aMi17 rfl aRetI ⟨rfl, rfl⟩
  rw [if_neg hs0] at h
  by_cases hs1 : x10_3 = (2 : Int32)
  · rw [if_pos hs1] at h
    refine go_sw (f1 := (89, ([(0, .ref a0), (1, .ref a1), (2, .int i2), (3, .int i3)], []))) aMi17 rfl (by rw [hs1]; rfl) ?_
    refine go_le (lv1 := []) (aLe_of (show (List.map (fun q => q.1) ([] : ALv)).Nodup from (by show ([] : List Nat).Nodup; decide)) aSubL_nil) ?_
    exact Tf17_b89 hd  I _ h
  rw [if_neg hs1] at h
  by_cases hs2 : x10_3 = (3 : Int32)
  · rw [if_pos hs2] at h
    refine go_sw (f1 := (81, ([(0, .ref a0), (1, .ref a1), (2, .int i2), (3, .int i3)], []))) aMi17 rfl (by rw [hs2]; rfl) ?_
    exact Tf17_b81 hd a0 a1 i2 i3 I _ h
  rw [if_neg hs2] at h
  by_cases hs3 : x10_3 = (4 : Int32)
  · rw [if_pos hs3] at h
    refine go_sw (f1 := (81, ([(0, .ref a0), (1, .ref a1), (2, .int i2), (3, .int i3)], []))) aMi17 rfl (by rw [hs3]; rfl) ?_
    exact Tf17_b81 hd a0 a1 i2 i3 I _ h
  rw [if_neg hs3] at h
  by_cases hs4 : x10_3 = (5 : Int32)
  · rw [if_pos hs4] at h
    refine go_sw (f1 := (70, ([(0, .ref a0), (1, .ref a1), (2, .int i2), (3, .int i3)], []))) aMi17 rfl (by rw [hs4]; rfl) ?_
    refine go_ops aMi17 2 _ (f1 := (72, ([(0, .ref a0), (1, .ref a1), (2, .int i2), (3, .int i3)], [.ref a1, .ref a0]))) rfl ?_
    obtain ⟨x72_6, hxx72_6, h⟩ := Option.bind_eq_some_iff.mp h
    refine gg_gI aMi17 rfl rfl rfl hxx72_6 ?_
    obtain ⟨u75_7, hxu75_7, h⟩ := Option.bind_eq_some_iff.mp h
    obtain ⟨r75_8, hxr75_8, h⟩ := Option.bind_eq_some_iff.mp h
    refine gg_cv (as := [.int x72_6]) (r := []) aMi17 rfl rfl rfl aMi12 (Nat.le_of_ble_eq_true rfl) rfl (Nat.le_of_ble_eq_true rfl) (Nat.le_of_ble_eq_true rfl) (by omega) hxu75_7 (Tf12 (by omega) a0 x72_6 I _ hxr75_8) ?_
    show aGo kad d 17 (78, ([(0, .ref a0), (1, .ref a1), (2, .int i2), (3, .int i3)], [.int r75_8.1])) (aMem Z r75_8.2, t) _
    refine go_ops aMi17 2 _ (f1 := (80, ([(0, .ref a0), (1, .ref a1), (2, .int i2), (3, .int i3)], [.int (0 : Int32)]))) rfl ?_
    cases h
    exact go_ret aMi17 rfl aRetI ⟨rfl, rfl⟩
  rw [if_neg hs4] at h
  by_cases hs5 : x10_3 = (6 : Int32)
  · rw [if_pos hs5] at h
    refine go_sw (f1 := (89, ([(0, .ref a0), (1, .ref a1), (2, .int i2), (3, .int i3)], []))) aMi17 rfl (by rw [hs5]; rfl) ?_
    refine go_le (lv1 := []) (aLe_of (show (List.map (fun q => q.1) ([] : ALv)).Nodup from (by show ([] : List Nat).Nodup; decide)) aSubL_nil) ?_
    exact Tf17_b89 hd  I _ h
  rw [if_neg hs5] at h
  by_cases hs6 : x10_3 = (7 : Int32)
  · rw [if_pos hs6] at h
    refine go_sw (f1 := (89, ([(0, .ref a0), (1, .ref a1), (2, .int i2), (3, .int i3)], []))) aMi17 rfl (by rw [hs6]; rfl) ?_
    refine go_le (lv1 := []) (aLe_of (show (List.map (fun q => q.1) ([] : ALv)).Nodup from (by show ([] : List Nat).Nodup; decide)) aSubL_nil) ?_
    exact Tf17_b89 hd  I _ h
  rw [if_neg hs6] at h
  by_cases hs7 : x10_3 = (8 : Int32)
  · rw [if_pos hs7] at h
    refine go_sw (f1 := (81, ([(0, .ref a0), (1, .ref a1), (2, .int i2), (3, .int i3)], []))) aMi17 rfl (by rw [hs7]; rfl) ?_
    exact Tf17_b81 hd a0 a1 i2 i3 I _ h
  rw [if_neg hs7] at h
  by_cases hs8 : x10_3 = (9 : Int32)
  · rw [if_pos hs8] at h
    refine go_sw (f1 := (81, ([(0, .ref a0), (1, .ref a1), (2, .int i2), (3, .int i3)], []))) aMi17 rfl (by rw [hs8]; rfl) ?_
    exact Tf17_b81 hd a0 a1 i2 i3 I _ h
  rw [if_neg hs8] at h
  refine go_swd (tg := 89) (m := 9) aMi17 rfl rfl (by decide) (fun k hk => ?_) ?_
  · match k, hk with
    | 0, _ => exact hs0
    | 1, _ => exact hs1
    | 2, _ => exact hs2
    | 3, _ => exact hs3
    | 4, _ => exact hs4
    | 5, _ => exact hs5
    | 6, _ => exact hs6
    | 7, _ => exact hs7
    | 8, _ => exact hs8
    | k + 9, hk => exact absurd hk (by omega)
  refine go_le (lv1 := []) (aLe_of (show (List.map (fun q => q.1) ([] : ALv)).Nodup from (by show ([] : List Nat).Nodup; decide)) aSubL_nil) ?_
  exact Tf17_b89 hd  I _ h
-- KernelGym$Assembler.setLabel (II)Z
def f14_b29 (kad : Nat → Nat) (N : Nat) (Z : AZ)  (I : AI) : Option (Int32 × AI) :=
  if (0 : Int32) = 0 ∨ (0 : Int32) = 1 then some ((0 : Int32), I) else none
set_option maxRecDepth 20000 in
theorem Tf14_b29 {kad : Nat → Nat} {N : Nat} {Z : AZ} {d : Nat} {t : Option Nat × (Nat × Nat)} (hd : 1 ≤ d) : ∀  (I : AI) (r : Int32 × AI), f14_b29 kad N Z  I = some r → aGo kad d 14 (29, ([], [])) (aMem Z I, t) (qI Z t r) := by
  intro  I r h
  unfold f14_b29 at h
  refine go_ops aMi14 1 _ (f1 := (30, ([], [.int (0 : Int32)]))) rfl ?_
  split at h
  · rename_i hz
    cases h
    exact go_ret aMi14 rfl (aRetZ hz) ⟨rfl, rfl⟩
  · cases h
def f14_b75 (kad : Nat → Nat) (N : Nat) (Z : AZ)  (I : AI) : Option (Int32 × AI) :=
  if (1 : Int32) = 0 ∨ (1 : Int32) = 1 then some ((1 : Int32), I) else none
set_option maxRecDepth 20000 in
theorem Tf14_b75 {kad : Nat → Nat} {N : Nat} {Z : AZ} {d : Nat} {t : Option Nat × (Nat × Nat)} (hd : 1 ≤ d) : ∀  (I : AI) (r : Int32 × AI), f14_b75 kad N Z  I = some r → aGo kad d 14 (75, ([], [])) (aMem Z I, t) (qI Z t r) := by
  intro  I r h
  unfold f14_b75 at h
  refine go_ops aMi14 1 _ (f1 := (76, ([], [.int (1 : Int32)]))) rfl ?_
  split at h
  · rename_i hz
    cases h
    exact go_ret aMi14 rfl (aRetZ hz) ⟨rfl, rfl⟩
  · cases h
def f14 (kad : Nat → Nat) (N : Nat) (Z : AZ) (a0 : Nat) (i1 : Int32) (i2 : Int32) (I : AI) : Option (Int32 × AI) :=
  (f13 kad N Z i1 i2 I).bind fun r2_1 =>
  if r2_1.1 < 0 then
    f14_b29 kad N Z  r2_1.2
  else
    (gR Z r2_1.2 0 7 a0).bind fun b12_2 =>
    (nL Z b12_2).bind fun x15_3 =>
    if x15_3 ≤ r2_1.1 then
      f14_b29 kad N Z  r2_1.2
    else
      (gR Z r2_1.2 0 7 a0).bind fun b20_4 =>
      (lI Z r2_1.2 100 b20_4 r2_1.1).bind fun x24_5 =>
      if x24_5 = (Int32.ofInt (-1)) then
        (gI Z r2_1.2 0 15 a0).bind fun x32_6 =>
        if x32_6 < 0 then
          f14_b75 kad N Z  r2_1.2
        else
          (gI Z r2_1.2 0 15 a0).bind fun x39_7 =>
          (gR Z r2_1.2 0 10 a0).bind fun b43_8 =>
          (nL Z b43_8).bind fun x46_9 =>
          if x46_9 ≤ x39_7 then
            f14_b75 kad N Z  r2_1.2
          else
            (gR Z r2_1.2 0 6 a0).bind fun b51_10 =>
            (gI Z r2_1.2 0 15 a0).bind fun x56_11 =>
            (sI Z r2_1.2 100 b51_10 r2_1.1 x56_11).bind fun I59_12 =>
            (gR Z I59_12 0 7 a0).bind fun b61_13 =>
            (gR Z I59_12 0 10 a0).bind fun b66_14 =>
            (gI Z I59_12 0 15 a0).bind fun x70_15 =>
            (lI Z I59_12 100 b66_14 x70_15).bind fun x73_16 =>
            (sI Z I59_12 100 b61_13 r2_1.1 x73_16).bind fun I74_17 =>
            f14_b75 kad N Z  I74_17
      else
        f14_b29 kad N Z  r2_1.2
set_option maxRecDepth 20000 in
theorem Tf14 {kad : Nat → Nat} {N : Nat} {Z : AZ} {d : Nat} {t : Option Nat × (Nat × Nat)} (hd : 1 ≤ d) : ∀ (a0 : Nat) (i1 : Int32) (i2 : Int32) (I : AI) (r : Int32 × AI), f14 kad N Z a0 i1 i2 I = some r → aGo kad d 14 (0, ([(0, .ref a0), (1, .int i1), (2, .int i2)], [])) (aMem Z I, t) (qI Z t r) := by
  intro a0 i1 i2 I r h
  unfold f14 at h
  refine go_ops aMi14 2 _ (f1 := (2, ([(0, .ref a0), (1, .int i1), (2, .int i2)], [.int i2, .int i1]))) rfl ?_
  obtain ⟨r2_1, hxr2_1, h⟩ := Option.bind_eq_some_iff.mp h
  refine gg_cs (as := [.int i1, .int i2]) (r := []) aMi14 rfl rfl rfl aMi13 rfl (Nat.le_of_ble_eq_true rfl) (Nat.le_of_ble_eq_true rfl) (by omega) (Tf13 (by omega) i1 i2 I _ hxr2_1) ?_
  show aGo kad d 14 (5, ([(0, .ref a0), (1, .int i1), (2, .int i2)], [.int r2_1.1])) (aMem Z r2_1.2, t) _
  refine go_ops aMi14 2 _ (f1 := (7, ([(3, .int r2_1.1), (0, .ref a0), (1, .int i1), (2, .int i2)], [.int r2_1.1]))) rfl ?_
  refine gg_br (b := decide (r2_1.1 < 0)) (tg := 29) (off := 22) aMi14 rfl rfl rfl rfl (fun hb => ?_) (fun hb => ?_)
  · rw [if_pos (of_decide_eq_true hb)] at h
    refine go_le (lv1 := []) (aLe_of (show (List.map (fun q => q.1) ([] : ALv)).Nodup from (by show ([] : List Nat).Nodup; decide)) aSubL_nil) ?_
    exact Tf14_b29 hd  r2_1.2 _ h
  · rw [if_neg (of_decide_eq_false hb)] at h
    refine go_ops aMi14 2 _ (f1 := (12, ([(3, .int r2_1.1), (0, .ref a0), (1, .int i1), (2, .int i2)], [.ref a0, .int r2_1.1]))) rfl ?_
    obtain ⟨b12_2, hxb12_2, h⟩ := Option.bind_eq_some_iff.mp h
    refine gg_gR aMi14 rfl rfl rfl hxb12_2 ?_
    obtain ⟨x15_3, hxx15_3, h⟩ := Option.bind_eq_some_iff.mp h
    refine gg_len aMi14 rfl hxx15_3 ?_
    refine gg_br (b := decide (x15_3 ≤ r2_1.1)) (tg := 29) (off := 13) aMi14 rfl rfl rfl rfl (fun hb => ?_) (fun hb => ?_)
    · rw [if_pos (of_decide_eq_true hb)] at h
      refine go_le (lv1 := []) (aLe_of (show (List.map (fun q => q.1) ([] : ALv)).Nodup from (by show ([] : List Nat).Nodup; decide)) aSubL_nil) ?_
      exact Tf14_b29 hd  r2_1.2 _ h
    · rw [if_neg (of_decide_eq_false hb)] at h
      refine go_ops aMi14 1 _ (f1 := (20, ([(3, .int r2_1.1), (0, .ref a0), (1, .int i1), (2, .int i2)], [.ref a0]))) rfl ?_
      obtain ⟨b20_4, hxb20_4, h⟩ := Option.bind_eq_some_iff.mp h
      refine gg_gR aMi14 rfl rfl rfl hxb20_4 ?_
      refine go_ops aMi14 1 _ (f1 := (24, ([(3, .int r2_1.1), (0, .ref a0), (1, .int i1), (2, .int i2)], [.int r2_1.1, .ref b20_4]))) rfl ?_
      obtain ⟨x24_5, hxx24_5, h⟩ := Option.bind_eq_some_iff.mp h
      refine gg_lI (Or.inl ⟨rfl, rfl⟩) aMi14 rfl hxx24_5 ?_
      refine go_ops aMi14 1 _ (f1 := (26, ([(3, .int r2_1.1), (0, .ref a0), (1, .int i1), (2, .int i2)], [.int (Int32.ofInt (-1)), .int x24_5]))) rfl ?_
      refine gg_br (b := decide (x24_5 = (Int32.ofInt (-1)))) (tg := 31) (off := 5) aMi14 rfl rfl rfl rfl (fun hb => ?_) (fun hb => ?_)
      · rw [if_pos (of_decide_eq_true hb)] at h
        refine go_ops aMi14 1 _ (f1 := (32, ([(3, .int r2_1.1), (0, .ref a0), (1, .int i1), (2, .int i2)], [.ref a0]))) rfl ?_
        obtain ⟨x32_6, hxx32_6, h⟩ := Option.bind_eq_some_iff.mp h
        refine gg_gI aMi14 rfl rfl rfl hxx32_6 ?_
        refine gg_br (b := decide (x32_6 < 0)) (tg := 75) (off := 40) aMi14 rfl rfl rfl rfl (fun hb => ?_) (fun hb => ?_)
        · rw [if_pos (of_decide_eq_true hb)] at h
          refine go_le (lv1 := []) (aLe_of (show (List.map (fun q => q.1) ([] : ALv)).Nodup from (by show ([] : List Nat).Nodup; decide)) aSubL_nil) ?_
          exact Tf14_b75 hd  r2_1.2 _ h
        · rw [if_neg (of_decide_eq_false hb)] at h
          refine go_ops aMi14 1 _ (f1 := (39, ([(3, .int r2_1.1), (0, .ref a0), (1, .int i1), (2, .int i2)], [.ref a0]))) rfl ?_
          obtain ⟨x39_7, hxx39_7, h⟩ := Option.bind_eq_some_iff.mp h
          refine gg_gI aMi14 rfl rfl rfl hxx39_7 ?_
          refine go_ops aMi14 1 _ (f1 := (43, ([(3, .int r2_1.1), (0, .ref a0), (1, .int i1), (2, .int i2)], [.ref a0, .int x39_7]))) rfl ?_
          obtain ⟨b43_8, hxb43_8, h⟩ := Option.bind_eq_some_iff.mp h
          refine gg_gR aMi14 rfl rfl rfl hxb43_8 ?_
          obtain ⟨x46_9, hxx46_9, h⟩ := Option.bind_eq_some_iff.mp h
          refine gg_len aMi14 rfl hxx46_9 ?_
          refine gg_br (b := decide (x46_9 ≤ x39_7)) (tg := 75) (off := 28) aMi14 rfl rfl rfl rfl (fun hb => ?_) (fun hb => ?_)
          · rw [if_pos (of_decide_eq_true hb)] at h
            refine go_le (lv1 := []) (aLe_of (show (List.map (fun q => q.1) ([] : ALv)).Nodup from (by show ([] : List Nat).Nodup; decide)) aSubL_nil) ?_
            exact Tf14_b75 hd  r2_1.2 _ h
          · rw [if_neg (of_decide_eq_false hb)] at h
            refine go_ops aMi14 1 _ (f1 := (51, ([(3, .int r2_1.1), (0, .ref a0), (1, .int i1), (2, .int i2)], [.ref a0]))) rfl ?_
            obtain ⟨b51_10, hxb51_10, h⟩ := Option.bind_eq_some_iff.mp h
            refine gg_gR aMi14 rfl rfl rfl hxb51_10 ?_
            refine go_ops aMi14 2 _ (f1 := (56, ([(3, .int r2_1.1), (0, .ref a0), (1, .int i1), (2, .int i2)], [.ref a0, .int r2_1.1, .ref b51_10]))) rfl ?_
            obtain ⟨x56_11, hxx56_11, h⟩ := Option.bind_eq_some_iff.mp h
            refine gg_gI aMi14 rfl rfl rfl hxx56_11 ?_
            obtain ⟨I59_12, hxI59_12, h⟩ := Option.bind_eq_some_iff.mp h
            refine gg_sI (Or.inl ⟨rfl, rfl⟩) aMi14 rfl hxI59_12 ?_
            refine go_ops aMi14 1 _ (f1 := (61, ([(3, .int r2_1.1), (0, .ref a0), (1, .int i1), (2, .int i2)], [.ref a0]))) rfl ?_
            obtain ⟨b61_13, hxb61_13, h⟩ := Option.bind_eq_some_iff.mp h
            refine gg_gR aMi14 rfl rfl rfl hxb61_13 ?_
            refine go_ops aMi14 2 _ (f1 := (66, ([(3, .int r2_1.1), (0, .ref a0), (1, .int i1), (2, .int i2)], [.ref a0, .int r2_1.1, .ref b61_13]))) rfl ?_
            obtain ⟨b66_14, hxb66_14, h⟩ := Option.bind_eq_some_iff.mp h
            refine gg_gR aMi14 rfl rfl rfl hxb66_14 ?_
            refine go_ops aMi14 1 _ (f1 := (70, ([(3, .int r2_1.1), (0, .ref a0), (1, .int i1), (2, .int i2)], [.ref a0, .ref b66_14, .int r2_1.1, .ref b61_13]))) rfl ?_
            obtain ⟨x70_15, hxx70_15, h⟩ := Option.bind_eq_some_iff.mp h
            refine gg_gI aMi14 rfl rfl rfl hxx70_15 ?_
            obtain ⟨x73_16, hxx73_16, h⟩ := Option.bind_eq_some_iff.mp h
            refine gg_lI (Or.inl ⟨rfl, rfl⟩) aMi14 rfl hxx73_16 ?_
            obtain ⟨I74_17, hxI74_17, h⟩ := Option.bind_eq_some_iff.mp h
            refine gg_sI (Or.inl ⟨rfl, rfl⟩) aMi14 rfl hxI74_17 ?_
            refine go_le (lv1 := []) (aLe_of (show (List.map (fun q => q.1) ([] : ALv)).Nodup from (by show ([] : List Nat).Nodup; decide)) aSubL_nil) ?_
            exact Tf14_b75 hd  I74_17 _ h
      · rw [if_neg (of_decide_eq_false hb)] at h
        refine go_le (lv1 := []) (aLe_of (show (List.map (fun q => q.1) ([] : ALv)).Nodup from (by show ([] : List Nat).Nodup; decide)) aSubL_nil) ?_
        exact Tf14_b29 hd  r2_1.2 _ h
-- KernelGym$Assembler.wordsOf (LKernelGym$Line;)I
def f11_b32 (kad : Nat → Nat) (N : Nat) (Z : AZ) (s0 : Int32) (I : AI) : Option (Int32 × AI) :=
  some (s0, I)
set_option maxRecDepth 20000 in
theorem Tf11_b32 {kad : Nat → Nat} {N : Nat} {Z : AZ} {d : Nat} {t : Option Nat × (Nat × Nat)} (hd : 0 ≤ d) : ∀ (s0 : Int32) (I : AI) (r : Int32 × AI), f11_b32 kad N Z s0 I = some r → aGo kad d 11 (32, ([], [.int s0])) (aMem Z I, t) (qI Z t r) := by
  intro s0 I r h
  unfold f11_b32 at h
  cases h
  exact go_ret aMi11 rfl aRetI ⟨rfl, rfl⟩
def f11 (kad : Nat → Nat) (N : Nat) (Z : AZ) (a0 : Nat) (I : AI) : Option (Int32 × AI) :=
  (gR Z I 7 0 a0).bind fun b1_1 =>
  if ¬ b1_1 = (kad 2) then
    (gR Z I 7 0 a0).bind fun b15_2 =>
    if ¬ b15_2 = (kad 3) then
      (gI Z I 7 1 a0).bind fun x29_3 =>
      f11_b32 kad N Z x29_3 I
    else
      f11_b32 kad N Z (1 : Int32) I
  else
    f11_b32 kad N Z (2 : Int32) I
set_option maxRecDepth 20000 in
theorem Tf11 {kad : Nat → Nat} {N : Nat} {Z : AZ} {d : Nat} {t : Option Nat × (Nat × Nat)} (hd : 0 ≤ d) : ∀ (a0 : Nat) (I : AI) (r : Int32 × AI), f11 kad N Z a0 I = some r → aGo kad d 11 (0, ([(0, .ref a0)], [])) (aMem Z I, t) (qI Z t r) := by
  intro a0 I r h
  unfold f11 at h
  refine go_ops aMi11 1 _ (f1 := (1, ([(0, .ref a0)], [.ref a0]))) rfl ?_
  obtain ⟨b1_1, hxb1_1, h⟩ := Option.bind_eq_some_iff.mp h
  refine gg_gR aMi11 rfl rfl rfl hxb1_1 ?_
  refine gg_gs aMi11 rfl rfl ?_
  refine gg_br (b := decide (¬ b1_1 = (kad 2))) (tg := 14) (off := 7) aMi11 rfl rfl rfl rfl (fun hb => ?_) (fun hb => ?_)
  · rw [if_pos (of_decide_eq_true hb)] at h
    refine go_ops aMi11 1 _ (f1 := (15, ([(0, .ref a0)], [.ref a0]))) rfl ?_
    obtain ⟨b15_2, hxb15_2, h⟩ := Option.bind_eq_some_iff.mp h
    refine gg_gR aMi11 rfl rfl rfl hxb15_2 ?_
    refine gg_gs aMi11 rfl rfl ?_
    refine gg_br (b := decide (¬ b15_2 = (kad 3))) (tg := 28) (off := 7) aMi11 rfl rfl rfl rfl (fun hb => ?_) (fun hb => ?_)
    · rw [if_pos (of_decide_eq_true hb)] at h
      refine go_ops aMi11 1 _ (f1 := (29, ([(0, .ref a0)], [.ref a0]))) rfl ?_
      obtain ⟨x29_3, hxx29_3, h⟩ := Option.bind_eq_some_iff.mp h
      refine gg_gI aMi11 rfl rfl rfl hxx29_3 ?_
      refine go_le (lv1 := []) (aLe_of (show (List.map (fun q => q.1) ([] : ALv)).Nodup from (by show ([] : List Nat).Nodup; decide)) aSubL_nil) ?_
      exact Tf11_b32 hd x29_3 I _ h
    · rw [if_neg (of_decide_eq_false hb)] at h
      refine go_ops aMi11 2 _ (f1 := (32, ([(0, .ref a0)], [.int (1 : Int32)]))) rfl ?_
      refine go_le (lv1 := []) (aLe_of (show (List.map (fun q => q.1) ([] : ALv)).Nodup from (by show ([] : List Nat).Nodup; decide)) aSubL_nil) ?_
      exact Tf11_b32 hd (1 : Int32) I _ h
  · rw [if_neg (of_decide_eq_false hb)] at h
    refine go_ops aMi11 2 _ (f1 := (32, ([(0, .ref a0)], [.int (2 : Int32)]))) rfl ?_
    refine go_le (lv1 := []) (aLe_of (show (List.map (fun q => q.1) ([] : ALv)).Nodup from (by show ([] : List Nat).Nodup; decide)) aSubL_nil) ?_
    exact Tf11_b32 hd (2 : Int32) I _ h
-- KernelGym$Assembler.beginMacro (II)I
def f15_b19 (kad : Nat → Nat) (N : Nat) (Z : AZ) (i2 : Int32) (I : AI) : Option (Int32 × AI) :=
  (f7 kad N Z (3 : Int32) i2 I).bind fun r21_1 =>
  some (r21_1.1, r21_1.2)
set_option maxRecDepth 20000 in
theorem Tf15_b19 {kad : Nat → Nat} {N : Nat} {Z : AZ} {d : Nat} {t : Option Nat × (Nat × Nat)} (hd : 1 ≤ d) : ∀ (i2 : Int32) (I : AI) (r : Int32 × AI), f15_b19 kad N Z i2 I = some r → aGo kad d 15 (19, ([(2, .int i2)], [])) (aMem Z I, t) (qI Z t r) := by
  intro i2 I r h
  unfold f15_b19 at h
  refine go_ops aMi15 2 _ (f1 := (21, ([(2, .int i2)], [.int i2, .int (3 : Int32)]))) rfl ?_
  obtain ⟨r21_1, hxr21_1, h⟩ := Option.bind_eq_some_iff.mp h
  refine gg_cs (as := [.int (3 : Int32), .int i2]) (r := []) aMi15 rfl rfl rfl aMi7 rfl (Nat.le_of_ble_eq_true rfl) (Nat.le_of_ble_eq_true rfl) (by omega) (Tf7 (by omega) (3 : Int32) i2 I _ hxr21_1) ?_
  show aGo kad d 15 (24, ([(2, .int i2)], [.int r21_1.1])) (aMem Z r21_1.2, t) _
  cases h
  exact go_ret aMi15 rfl aRetI ⟨rfl, rfl⟩
def f15_b98 (kad : Nat → Nat) (N : Nat) (Z : AZ) (i2 : Int32) (I : AI) : Option (Int32 × AI) :=
  (f7 kad N Z (4 : Int32) i2 I).bind fun r100_1 =>
  some (r100_1.1, r100_1.2)
set_option maxRecDepth 20000 in
theorem Tf15_b98 {kad : Nat → Nat} {N : Nat} {Z : AZ} {d : Nat} {t : Option Nat × (Nat × Nat)} (hd : 1 ≤ d) : ∀ (i2 : Int32) (I : AI) (r : Int32 × AI), f15_b98 kad N Z i2 I = some r → aGo kad d 15 (98, ([(2, .int i2)], [])) (aMem Z I, t) (qI Z t r) := by
  intro i2 I r h
  unfold f15_b98 at h
  refine go_ops aMi15 2 _ (f1 := (100, ([(2, .int i2)], [.int i2, .int (4 : Int32)]))) rfl ?_
  obtain ⟨r100_1, hxr100_1, h⟩ := Option.bind_eq_some_iff.mp h
  refine gg_cs (as := [.int (4 : Int32), .int i2]) (r := []) aMi15 rfl rfl rfl aMi7 rfl (Nat.le_of_ble_eq_true rfl) (Nat.le_of_ble_eq_true rfl) (by omega) (Tf7 (by omega) (4 : Int32) i2 I _ hxr100_1) ?_
  show aGo kad d 15 (103, ([(2, .int i2)], [.int r100_1.1])) (aMem Z r100_1.2, t) _
  cases h
  exact go_ret aMi15 rfl aRetI ⟨rfl, rfl⟩
def f15_b29 (kad : Nat → Nat) (N : Nat) (Z : AZ) : Nat → Nat → Int32 → Int32 → Int32 → AI → Option (Int32 × AI)
  | 0, _, _, _, _, _ => none
  | F + 1, a0, i1, i2, i3, I =>
    (gI Z I 0 0 a0).bind fun x31_1 =>
    if x31_1 ≤ i3 then
      f15_b98 kad N Z i2 I
    else
      if (100 : Int32) ≤ i3 then
        f15_b98 kad N Z i2 I
      else
        (gR Z I 0 2 a0).bind fun b44_2 =>
        (lR Z I b44_2 i3).bind fun b48_3 =>
        (gR Z I 7 0 b48_3).bind fun b49_4 =>
        if ¬ b49_4 = (kad 6) then
          if ¬ b49_4 = (kad 7) then
            f15_b29 kad N Z F a0 i1 i2 (i3 + (1 : Int32)) I
          else
            (gR Z I 0 3 a0).bind fun b77_5 =>
            (sI Z I 100 b77_5 i1 i2).bind fun I82_6 =>
            (gR Z I82_6 0 4 a0).bind fun b84_7 =>
            (sI Z I82_6 100 b84_7 i1 i3).bind fun I89_8 =>
            some ((0 : Int32), I89_8)
        else
          (f7 kad N Z (4 : Int32) i3 I).bind fun r64_9 =>
          some (r64_9.1, r64_9.2)
set_option maxRecDepth 20000 in
theorem Tf15_b29 {kad : Nat → Nat} {N : Nat} {Z : AZ} {d : Nat} {t : Option Nat × (Nat × Nat)} (hd : 1 ≤ d) : ∀ (F : Nat) (a0 : Nat) (i1 : Int32) (i2 : Int32) (i3 : Int32) (I : AI) (r : Int32 × AI), f15_b29 kad N Z F a0 i1 i2 i3 I = some r → aGo kad d 15 (29, ([(0, .ref a0), (1, .int i1), (2, .int i2), (3, .int i3)], [])) (aMem Z I, t) (qI Z t r) := by
  intro F
  induction F with
  | zero => intro a0 i1 i2 i3 I r h; cases h
  | succ F ih =>
    intro a0 i1 i2 i3 I r h
    unfold f15_b29 at h
    refine go_ops aMi15 2 _ (f1 := (31, ([(0, .ref a0), (1, .int i1), (2, .int i2), (3, .int i3)], [.ref a0, .int i3]))) rfl ?_
    obtain ⟨x31_1, hxx31_1, h⟩ := Option.bind_eq_some_iff.mp h
    refine gg_gI aMi15 rfl rfl rfl hxx31_1 ?_
    refine gg_br (b := decide (x31_1 ≤ i3)) (tg := 98) (off := 64) aMi15 rfl rfl rfl rfl (fun hb => ?_) (fun hb => ?_)
    · rw [if_pos (of_decide_eq_true hb)] at h
      refine go_le (lv1 := [(2, .int i2)]) (aLe_of (show (List.map (fun q => q.1) ([(2, .int i2)] : ALv)).Nodup from (by show ([2] : List Nat).Nodup; decide)) (aSubL_cons rfl aSubL_nil)) ?_
      exact Tf15_b98 hd i2 I _ h
    · rw [if_neg (of_decide_eq_false hb)] at h
      refine go_ops aMi15 2 _ (f1 := (40, ([(0, .ref a0), (1, .int i1), (2, .int i2), (3, .int i3)], [.int (100 : Int32), .int i3]))) rfl ?_
      refine gg_br (b := decide ((100 : Int32) ≤ i3)) (tg := 98) (off := 58) aMi15 rfl rfl rfl rfl (fun hb => ?_) (fun hb => ?_)
      · rw [if_pos (of_decide_eq_true hb)] at h
        refine go_le (lv1 := [(2, .int i2)]) (aLe_of (show (List.map (fun q => q.1) ([(2, .int i2)] : ALv)).Nodup from (by show ([2] : List Nat).Nodup; decide)) (aSubL_cons rfl aSubL_nil)) ?_
        exact Tf15_b98 hd i2 I _ h
      · rw [if_neg (of_decide_eq_false hb)] at h
        refine go_ops aMi15 1 _ (f1 := (44, ([(0, .ref a0), (1, .int i1), (2, .int i2), (3, .int i3)], [.ref a0]))) rfl ?_
        obtain ⟨b44_2, hxb44_2, h⟩ := Option.bind_eq_some_iff.mp h
        refine gg_gR aMi15 rfl rfl rfl hxb44_2 ?_
        refine go_ops aMi15 1 _ (f1 := (48, ([(0, .ref a0), (1, .int i1), (2, .int i2), (3, .int i3)], [.int i3, .ref b44_2]))) rfl ?_
        obtain ⟨b48_3, hxb48_3, h⟩ := Option.bind_eq_some_iff.mp h
        refine gg_lR aMi15 rfl hxb48_3 ?_
        obtain ⟨b49_4, hxb49_4, h⟩ := Option.bind_eq_some_iff.mp h
        refine gg_gR aMi15 rfl rfl rfl hxb49_4 ?_
        refine go_ops aMi15 2 _ (f1 := (56, ([(4, .ref b49_4), (0, .ref a0), (1, .int i1), (2, .int i2), (3, .int i3)], [.ref b49_4]))) rfl ?_
        refine gg_gs aMi15 rfl rfl ?_
        refine gg_br (b := decide (¬ b49_4 = (kad 6))) (tg := 68) (off := 9) aMi15 rfl rfl rfl rfl (fun hb => ?_) (fun hb => ?_)
        · rw [if_pos (of_decide_eq_true hb)] at h
          refine go_ops aMi15 1 _ (f1 := (70, ([(4, .ref b49_4), (0, .ref a0), (1, .int i1), (2, .int i2), (3, .int i3)], [.ref b49_4]))) rfl ?_
          refine gg_gs aMi15 rfl rfl ?_
          refine gg_br (b := decide (¬ b49_4 = (kad 7))) (tg := 92) (off := 19) aMi15 rfl rfl rfl rfl (fun hb => ?_) (fun hb => ?_)
          · rw [if_pos (of_decide_eq_true hb)] at h
            refine go_ops aMi15 2 _ (f1 := (29, ([(3, .int (i3 + (1 : Int32))), (4, .ref b49_4), (0, .ref a0), (1, .int i1), (2, .int i2)], []))) rfl ?_
            refine go_le (lv1 := [(0, .ref a0), (1, .int i1), (2, .int i2), (3, .int (i3 + (1 : Int32)))]) (aLe_of (show (List.map (fun q => q.1) ([(0, .ref a0), (1, .int i1), (2, .int i2), (3, .int (i3 + (1 : Int32)))] : ALv)).Nodup from (by show ([0, 1, 2, 3] : List Nat).Nodup; decide)) (aSubL_cons rfl (aSubL_cons rfl (aSubL_cons rfl (aSubL_cons rfl aSubL_nil))))) ?_
            exact ih a0 i1 i2 (i3 + (1 : Int32)) I _ h
          · rw [if_neg (of_decide_eq_false hb)] at h
            refine go_ops aMi15 1 _ (f1 := (77, ([(4, .ref b49_4), (0, .ref a0), (1, .int i1), (2, .int i2), (3, .int i3)], [.ref a0]))) rfl ?_
            obtain ⟨b77_5, hxb77_5, h⟩ := Option.bind_eq_some_iff.mp h
            refine gg_gR aMi15 rfl rfl rfl hxb77_5 ?_
            refine go_ops aMi15 2 _ (f1 := (82, ([(4, .ref b49_4), (0, .ref a0), (1, .int i1), (2, .int i2), (3, .int i3)], [.int i2, .int i1, .ref b77_5]))) rfl ?_
            obtain ⟨I82_6, hxI82_6, h⟩ := Option.bind_eq_some_iff.mp h
            refine gg_sI (Or.inl ⟨rfl, rfl⟩) aMi15 rfl hxI82_6 ?_
            refine go_ops aMi15 1 _ (f1 := (84, ([(4, .ref b49_4), (0, .ref a0), (1, .int i1), (2, .int i2), (3, .int i3)], [.ref a0]))) rfl ?_
            obtain ⟨b84_7, hxb84_7, h⟩ := Option.bind_eq_some_iff.mp h
            refine gg_gR aMi15 rfl rfl rfl hxb84_7 ?_
            refine go_ops aMi15 2 _ (f1 := (89, ([(4, .ref b49_4), (0, .ref a0), (1, .int i1), (2, .int i2), (3, .int i3)], [.int i3, .int i1, .ref b84_7]))) rfl ?_
            obtain ⟨I89_8, hxI89_8, h⟩ := Option.bind_eq_some_iff.mp h
            refine gg_sI (Or.inl ⟨rfl, rfl⟩) aMi15 rfl hxI89_8 ?_
            refine go_ops aMi15 1 _ (f1 := (91, ([(4, .ref b49_4), (0, .ref a0), (1, .int i1), (2, .int i2), (3, .int i3)], [.int (0 : Int32)]))) rfl ?_
            cases h
            exact go_ret aMi15 rfl aRetI ⟨rfl, rfl⟩
        · rw [if_neg (of_decide_eq_false hb)] at h
          refine go_ops aMi15 2 _ (f1 := (64, ([(4, .ref b49_4), (0, .ref a0), (1, .int i1), (2, .int i2), (3, .int i3)], [.int i3, .int (4 : Int32)]))) rfl ?_
          obtain ⟨r64_9, hxr64_9, h⟩ := Option.bind_eq_some_iff.mp h
          refine gg_cs (as := [.int (4 : Int32), .int i3]) (r := []) aMi15 rfl rfl rfl aMi7 rfl (Nat.le_of_ble_eq_true rfl) (Nat.le_of_ble_eq_true rfl) (by omega) (Tf7 (by omega) (4 : Int32) i3 I _ hxr64_9) ?_
          show aGo kad d 15 (67, ([(4, .ref b49_4), (0, .ref a0), (1, .int i1), (2, .int i2), (3, .int i3)], [.int r64_9.1])) (aMem Z r64_9.2, t) _
          cases h
          exact go_ret aMi15 rfl aRetI ⟨rfl, rfl⟩
def f15 (kad : Nat → Nat) (N : Nat) (Z : AZ) (a0 : Nat) (i1 : Int32) (i2 : Int32) (I : AI) : Option (Int32 × AI) :=
  if i1 < 0 then
    f15_b19 kad N Z i2 I
  else
    if (5 : Int32) ≤ i1 then
      f15_b19 kad N Z i2 I
    else
      (gR Z I 0 3 a0).bind fun b10_1 =>
      (lI Z I 100 b10_1 i1).bind fun x14_2 =>
      if x14_2 = (Int32.ofInt (-1)) then
        f15_b29 kad N Z N a0 i1 i2 (i2 + (1 : Int32)) I
      else
        f15_b19 kad N Z i2 I
set_option maxRecDepth 20000 in
theorem Tf15 {kad : Nat → Nat} {N : Nat} {Z : AZ} {d : Nat} {t : Option Nat × (Nat × Nat)} (hd : 1 ≤ d) : ∀ (a0 : Nat) (i1 : Int32) (i2 : Int32) (I : AI) (r : Int32 × AI), f15 kad N Z a0 i1 i2 I = some r → aGo kad d 15 (0, ([(0, .ref a0), (1, .int i1), (2, .int i2)], [])) (aMem Z I, t) (qI Z t r) := by
  intro a0 i1 i2 I r h
  unfold f15 at h
  refine go_ops aMi15 1 _ (f1 := (1, ([(0, .ref a0), (1, .int i1), (2, .int i2)], [.int i1]))) rfl ?_
  refine gg_br (b := decide (i1 < 0)) (tg := 19) (off := 18) aMi15 rfl rfl rfl rfl (fun hb => ?_) (fun hb => ?_)
  · rw [if_pos (of_decide_eq_true hb)] at h
    refine go_le (lv1 := [(2, .int i2)]) (aLe_of (show (List.map (fun q => q.1) ([(2, .int i2)] : ALv)).Nodup from (by show ([2] : List Nat).Nodup; decide)) (aSubL_cons rfl aSubL_nil)) ?_
    exact Tf15_b19 hd i2 I _ h
  · rw [if_neg (of_decide_eq_false hb)] at h
    refine go_ops aMi15 2 _ (f1 := (6, ([(0, .ref a0), (1, .int i1), (2, .int i2)], [.int (5 : Int32), .int i1]))) rfl ?_
    refine gg_br (b := decide ((5 : Int32) ≤ i1)) (tg := 19) (off := 13) aMi15 rfl rfl rfl rfl (fun hb => ?_) (fun hb => ?_)
    · rw [if_pos (of_decide_eq_true hb)] at h
      refine go_le (lv1 := [(2, .int i2)]) (aLe_of (show (List.map (fun q => q.1) ([(2, .int i2)] : ALv)).Nodup from (by show ([2] : List Nat).Nodup; decide)) (aSubL_cons rfl aSubL_nil)) ?_
      exact Tf15_b19 hd i2 I _ h
    · rw [if_neg (of_decide_eq_false hb)] at h
      refine go_ops aMi15 1 _ (f1 := (10, ([(0, .ref a0), (1, .int i1), (2, .int i2)], [.ref a0]))) rfl ?_
      obtain ⟨b10_1, hxb10_1, h⟩ := Option.bind_eq_some_iff.mp h
      refine gg_gR aMi15 rfl rfl rfl hxb10_1 ?_
      refine go_ops aMi15 1 _ (f1 := (14, ([(0, .ref a0), (1, .int i1), (2, .int i2)], [.int i1, .ref b10_1]))) rfl ?_
      obtain ⟨x14_2, hxx14_2, h⟩ := Option.bind_eq_some_iff.mp h
      refine gg_lI (Or.inl ⟨rfl, rfl⟩) aMi15 rfl hxx14_2 ?_
      refine go_ops aMi15 1 _ (f1 := (16, ([(0, .ref a0), (1, .int i1), (2, .int i2)], [.int (Int32.ofInt (-1)), .int x14_2]))) rfl ?_
      refine gg_br (b := decide (x14_2 = (Int32.ofInt (-1)))) (tg := 25) (off := 9) aMi15 rfl rfl rfl rfl (fun hb => ?_) (fun hb => ?_)
      · rw [if_pos (of_decide_eq_true hb)] at h
        refine go_ops aMi15 4 _ (f1 := (29, ([(3, .int (i2 + (1 : Int32))), (0, .ref a0), (1, .int i1), (2, .int i2)], []))) rfl ?_
        refine go_le (lv1 := [(0, .ref a0), (1, .int i1), (2, .int i2), (3, .int (i2 + (1 : Int32)))]) (aLe_of (show (List.map (fun q => q.1) ([(0, .ref a0), (1, .int i1), (2, .int i2), (3, .int (i2 + (1 : Int32)))] : ALv)).Nodup from (by show ([0, 1, 2, 3] : List Nat).Nodup; decide)) (aSubL_cons rfl (aSubL_cons rfl (aSubL_cons rfl (aSubL_cons rfl aSubL_nil))))) ?_
        exact Tf15_b29 hd N a0 i1 i2 (i2 + (1 : Int32)) I _ h
      · rw [if_neg (of_decide_eq_false hb)] at h
        refine go_le (lv1 := [(2, .int i2)]) (aLe_of (show (List.map (fun q => q.1) ([(2, .int i2)] : ALv)).Nodup from (by show ([2] : List Nat).Nodup; decide)) (aSubL_cons rfl aSubL_nil)) ?_
        exact Tf15_b19 hd i2 I _ h
-- KernelGym$Assembler.canUse (I)Z
def f16_b33 (kad : Nat → Nat) (N : Nat) (Z : AZ) (s0 : Int32) (I : AI) : Option (Int32 × AI) :=
  if s0 = 0 ∨ s0 = 1 then some (s0, I) else none
set_option maxRecDepth 20000 in
theorem Tf16_b33 {kad : Nat → Nat} {N : Nat} {Z : AZ} {d : Nat} {t : Option Nat × (Nat × Nat)} (hd : 0 ≤ d) : ∀ (s0 : Int32) (I : AI) (r : Int32 × AI), f16_b33 kad N Z s0 I = some r → aGo kad d 16 (33, ([], [.int s0])) (aMem Z I, t) (qI Z t r) := by
  intro s0 I r h
  unfold f16_b33 at h
  split at h
  · rename_i hz
    cases h
    exact go_ret aMi16 rfl (aRetZ hz) ⟨rfl, rfl⟩
  · cases h
def f16_b32 (kad : Nat → Nat) (N : Nat) (Z : AZ)  (I : AI) : Option (Int32 × AI) :=
  f16_b33 kad N Z (0 : Int32) I
set_option maxRecDepth 20000 in
theorem Tf16_b32 {kad : Nat → Nat} {N : Nat} {Z : AZ} {d : Nat} {t : Option Nat × (Nat × Nat)} (hd : 0 ≤ d) : ∀  (I : AI) (r : Int32 × AI), f16_b32 kad N Z  I = some r → aGo kad d 16 (32, ([], [])) (aMem Z I, t) (qI Z t r) := by
  intro  I r h
  unfold f16_b32 at h
  refine go_ops aMi16 1 _ (f1 := (33, ([], [.int (0 : Int32)]))) rfl ?_
  exact Tf16_b33 hd (0 : Int32) I _ h
def f16 (kad : Nat → Nat) (N : Nat) (Z : AZ) (a0 : Nat) (i1 : Int32) (I : AI) : Option (Int32 × AI) :=
  if i1 < 0 then
    f16_b32 kad N Z  I
  else
    if (5 : Int32) ≤ i1 then
      f16_b32 kad N Z  I
    else
      (gR Z I 0 3 a0).bind fun b10_1 =>
      (lI Z I 100 b10_1 i1).bind fun x14_2 =>
      if x14_2 = (Int32.ofInt (-1)) then
        f16_b32 kad N Z  I
      else
        (gR Z I 0 5 a0).bind fun b20_3 =>
        (lI Z I 101 b20_3 i1).bind fun x24_4 =>
        if ¬ x24_4 = 0 then
          f16_b32 kad N Z  I
        else
          f16_b33 kad N Z (1 : Int32) I
set_option maxRecDepth 20000 in
theorem Tf16 {kad : Nat → Nat} {N : Nat} {Z : AZ} {d : Nat} {t : Option Nat × (Nat × Nat)} (hd : 0 ≤ d) : ∀ (a0 : Nat) (i1 : Int32) (I : AI) (r : Int32 × AI), f16 kad N Z a0 i1 I = some r → aGo kad d 16 (0, ([(0, .ref a0), (1, .int i1)], [])) (aMem Z I, t) (qI Z t r) := by
  intro a0 i1 I r h
  unfold f16 at h
  refine go_ops aMi16 1 _ (f1 := (1, ([(0, .ref a0), (1, .int i1)], [.int i1]))) rfl ?_
  refine gg_br (b := decide (i1 < 0)) (tg := 32) (off := 31) aMi16 rfl rfl rfl rfl (fun hb => ?_) (fun hb => ?_)
  · rw [if_pos (of_decide_eq_true hb)] at h
    refine go_le (lv1 := []) (aLe_of (show (List.map (fun q => q.1) ([] : ALv)).Nodup from (by show ([] : List Nat).Nodup; decide)) aSubL_nil) ?_
    exact Tf16_b32 hd  I _ h
  · rw [if_neg (of_decide_eq_false hb)] at h
    refine go_ops aMi16 2 _ (f1 := (6, ([(0, .ref a0), (1, .int i1)], [.int (5 : Int32), .int i1]))) rfl ?_
    refine gg_br (b := decide ((5 : Int32) ≤ i1)) (tg := 32) (off := 26) aMi16 rfl rfl rfl rfl (fun hb => ?_) (fun hb => ?_)
    · rw [if_pos (of_decide_eq_true hb)] at h
      refine go_le (lv1 := []) (aLe_of (show (List.map (fun q => q.1) ([] : ALv)).Nodup from (by show ([] : List Nat).Nodup; decide)) aSubL_nil) ?_
      exact Tf16_b32 hd  I _ h
    · rw [if_neg (of_decide_eq_false hb)] at h
      refine go_ops aMi16 1 _ (f1 := (10, ([(0, .ref a0), (1, .int i1)], [.ref a0]))) rfl ?_
      obtain ⟨b10_1, hxb10_1, h⟩ := Option.bind_eq_some_iff.mp h
      refine gg_gR aMi16 rfl rfl rfl hxb10_1 ?_
      refine go_ops aMi16 1 _ (f1 := (14, ([(0, .ref a0), (1, .int i1)], [.int i1, .ref b10_1]))) rfl ?_
      obtain ⟨x14_2, hxx14_2, h⟩ := Option.bind_eq_some_iff.mp h
      refine gg_lI (Or.inl ⟨rfl, rfl⟩) aMi16 rfl hxx14_2 ?_
      refine go_ops aMi16 1 _ (f1 := (16, ([(0, .ref a0), (1, .int i1)], [.int (Int32.ofInt (-1)), .int x14_2]))) rfl ?_
      refine gg_br (b := decide (x14_2 = (Int32.ofInt (-1)))) (tg := 32) (off := 16) aMi16 rfl rfl rfl rfl (fun hb => ?_) (fun hb => ?_)
      · rw [if_pos (of_decide_eq_true hb)] at h
        refine go_le (lv1 := []) (aLe_of (show (List.map (fun q => q.1) ([] : ALv)).Nodup from (by show ([] : List Nat).Nodup; decide)) aSubL_nil) ?_
        exact Tf16_b32 hd  I _ h
      · rw [if_neg (of_decide_eq_false hb)] at h
        refine go_ops aMi16 1 _ (f1 := (20, ([(0, .ref a0), (1, .int i1)], [.ref a0]))) rfl ?_
        obtain ⟨b20_3, hxb20_3, h⟩ := Option.bind_eq_some_iff.mp h
        refine gg_gR aMi16 rfl rfl rfl hxb20_3 ?_
        refine go_ops aMi16 1 _ (f1 := (24, ([(0, .ref a0), (1, .int i1)], [.int i1, .ref b20_3]))) rfl ?_
        obtain ⟨x24_4, hxx24_4, h⟩ := Option.bind_eq_some_iff.mp h
        refine gg_lI (Or.inr ⟨rfl, rfl⟩) aMi16 rfl hxx24_4 ?_
        refine gg_br (b := decide (¬ x24_4 = 0)) (tg := 32) (off := 7) aMi16 rfl rfl rfl rfl (fun hb => ?_) (fun hb => ?_)
        · rw [if_pos (of_decide_eq_true hb)] at h
          refine go_le (lv1 := []) (aLe_of (show (List.map (fun q => q.1) ([] : ALv)).Nodup from (by show ([] : List Nat).Nodup; decide)) aSubL_nil) ?_
          exact Tf16_b32 hd  I _ h
        · rw [if_neg (of_decide_eq_false hb)] at h
          refine go_ops aMi16 2 _ (f1 := (33, ([(0, .ref a0), (1, .int i1)], [.int (1 : Int32)]))) rfl ?_
          refine go_le (lv1 := []) (aLe_of (show (List.map (fun q => q.1) ([] : ALv)).Nodup from (by show ([] : List Nat).Nodup; decide)) aSubL_nil) ?_
          exact Tf16_b33 hd (1 : Int32) I _ h
