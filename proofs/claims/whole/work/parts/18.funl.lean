-- KernelGymModel.back (I)I
def f264_b52 (kad : Nat → Nat) (N : Nat) (Z : AZ) (a0 : Nat) (s0 : Int32) (I : AI) : Option (Int32 × AI) :=
  (gI Z I 11 38 a0).bind fun x54_1 =>
  (gI Z I 11 40 a0).bind fun x62_2 =>
  (pI Z I 11 40 a0 (x62_2 - s0)).bind fun I67_3 =>
  (isK Z a0 11).bind fun u72_4 =>
  (f256 kad N Z a0 (x54_1 - s0) I67_3).bind fun r72_5 =>
  some (s0, r72_5.2)
theorem Tf264_b52 {kad : Nat → Nat} {N : Nat} {Z : AZ} {d : Nat} {t : Option Nat × (Nat × Nat)} (hd : 8 ≤ d) : ∀ (a0 : Nat) (s0 : Int32) (I : AI) (r : Int32 × AI), f264_b52 kad N Z a0 s0 I = some r → aGo kad d 264 (52, ([(0, .ref a0)], [.int s0])) (aMem Z I, t) (qI Z t r) := by
  intro a0 s0 I r h
  unfold f264_b52 at h
  refine go_ops aMi264 2 _ (f1 := (54, ([(2, .int s0), (0, .ref a0)], [.ref a0]))) rfl ?_
  obtain ⟨x54_1, hxx54_1, h⟩ := Option.bind_eq_some_iff.mp h
  refine gg_gI aMi264 rfl rfl rfl hxx54_1 ?_
  refine go_ops aMi264 5 _ (f1 := (62, ([(3, .int (x54_1 - s0)), (2, .int s0), (0, .ref a0)], [.ref a0, .ref a0]))) rfl ?_
  obtain ⟨x62_2, hxx62_2, h⟩ := Option.bind_eq_some_iff.mp h
  refine gg_gI aMi264 rfl rfl rfl hxx62_2 ?_
  refine go_ops aMi264 2 _ (f1 := (67, ([(3, .int (x54_1 - s0)), (2, .int s0), (0, .ref a0)], [.int (x62_2 - s0), .ref a0]))) rfl ?_
  obtain ⟨I67_3, hxI67_3, h⟩ := Option.bind_eq_some_iff.mp h
  refine gg_pI aMi264 rfl rfl rfl rfl (by decide) hxI67_3 ?_
  refine go_ops aMi264 2 _ (f1 := (72, ([(3, .int (x54_1 - s0)), (2, .int s0), (0, .ref a0)], [.int (x54_1 - s0), .ref a0]))) rfl ?_
  obtain ⟨u72_4, hxu72_4, h⟩ := Option.bind_eq_some_iff.mp h
  obtain ⟨r72_5, hxr72_5, h⟩ := Option.bind_eq_some_iff.mp h
  refine gg_cv (as := [.int (x54_1 - s0)]) (r := []) aMi264 rfl rfl rfl aMi256 (Nat.le_of_ble_eq_true rfl) rfl (Nat.le_of_ble_eq_true rfl) (Nat.le_of_ble_eq_true rfl) (by omega) hxu72_4 (Tf256 (by omega) a0 (x54_1 - s0) I67_3 _ hxr72_5) ?_
  show aGo kad d 264 (75, ([(3, .int (x54_1 - s0)), (2, .int s0), (0, .ref a0)], [])) (aMem Z r72_5.2, t) _
  refine go_ops aMi264 1 _ (f1 := (76, ([(3, .int (x54_1 - s0)), (2, .int s0), (0, .ref a0)], [.int s0]))) rfl ?_
  cases h
  exact go_ret aMi264 rfl aRetI ⟨rfl, rfl⟩
def f264_b28 (kad : Nat → Nat) (N : Nat) (Z : AZ) (a0 : Nat) (i1 : Int32) (s0 : Int32) (s1 : Nat) (I : AI) : Option (Int32 × AI) :=
  (isK Z s1 11).bind fun u28_1 =>
  (f185 kad N Z s1 s0 I).bind fun r28_2 =>
  if ¬ r28_2.1 = 0 then
    (gI Z r28_2.2 11 40 a0).bind fun x38_3 =>
    if x38_3 ≤ i1 then
      (gI Z r28_2.2 11 40 a0).bind fun x49_4 =>
      f264_b52 kad N Z a0 x49_4 r28_2.2
    else
      f264_b52 kad N Z a0 i1 r28_2.2
  else
    some ((0 : Int32), r28_2.2)
theorem Tf264_b28 {kad : Nat → Nat} {N : Nat} {Z : AZ} {d : Nat} {t : Option Nat × (Nat × Nat)} (hd : 8 ≤ d) : ∀ (a0 : Nat) (i1 : Int32) (s0 : Int32) (s1 : Nat) (I : AI) (r : Int32 × AI), f264_b28 kad N Z a0 i1 s0 s1 I = some r → aGo kad d 264 (28, ([(0, .ref a0), (1, .int i1)], [.int s0, .ref s1])) (aMem Z I, t) (qI Z t r) := by
  intro a0 i1 s0 s1 I r h
  unfold f264_b28 at h
  obtain ⟨u28_1, hxu28_1, h⟩ := Option.bind_eq_some_iff.mp h
  obtain ⟨r28_2, hxr28_2, h⟩ := Option.bind_eq_some_iff.mp h
  refine gg_cv (as := [.int s0]) (r := []) aMi264 rfl rfl rfl aMi185 (Nat.le_of_ble_eq_true rfl) rfl (Nat.le_of_ble_eq_true rfl) (Nat.le_of_ble_eq_true rfl) (by omega) hxu28_1 (Tf185 (by omega) s1 s0 I _ hxr28_2) ?_
  show aGo kad d 264 (31, ([(0, .ref a0), (1, .int i1)], [.int r28_2.1])) (aMem Z r28_2.2, t) _
  refine gg_br (b := decide (¬ r28_2.1 = 0)) (tg := 36) (off := 5) aMi264 rfl rfl rfl rfl (fun hb => ?_) (fun hb => ?_)
  · rw [if_pos (of_decide_eq_true hb)] at h
    refine go_ops aMi264 2 _ (f1 := (38, ([(0, .ref a0), (1, .int i1)], [.ref a0, .int i1]))) rfl ?_
    obtain ⟨x38_3, hxx38_3, h⟩ := Option.bind_eq_some_iff.mp h
    refine gg_gI aMi264 rfl rfl rfl hxx38_3 ?_
    refine gg_br (b := decide (x38_3 ≤ i1)) (tg := 48) (off := 7) aMi264 rfl rfl rfl rfl (fun hb => ?_) (fun hb => ?_)
    · rw [if_pos (of_decide_eq_true hb)] at h
      refine go_ops aMi264 1 _ (f1 := (49, ([(0, .ref a0), (1, .int i1)], [.ref a0]))) rfl ?_
      obtain ⟨x49_4, hxx49_4, h⟩ := Option.bind_eq_some_iff.mp h
      refine gg_gI aMi264 rfl rfl rfl hxx49_4 ?_
      refine go_le (lv1 := [(0, .ref a0)]) (aLe_of (show (List.map (fun q => q.1) ([(0, .ref a0)] : ALv)).Nodup from (by show ([0] : List Nat).Nodup; decide)) (aSubL_cons rfl aSubL_nil)) ?_
      exact Tf264_b52 hd a0 x49_4 r28_2.2 _ h
    · rw [if_neg (of_decide_eq_false hb)] at h
      refine go_ops aMi264 2 _ (f1 := (52, ([(0, .ref a0), (1, .int i1)], [.int i1]))) rfl ?_
      refine go_le (lv1 := [(0, .ref a0)]) (aLe_of (show (List.map (fun q => q.1) ([(0, .ref a0)] : ALv)).Nodup from (by show ([0] : List Nat).Nodup; decide)) (aSubL_cons rfl aSubL_nil)) ?_
      exact Tf264_b52 hd a0 i1 r28_2.2 _ h
  · rw [if_neg (of_decide_eq_false hb)] at h
    refine go_ops aMi264 1 _ (f1 := (35, ([(0, .ref a0), (1, .int i1)], [.int (0 : Int32)]))) rfl ?_
    cases h
    exact go_ret aMi264 rfl aRetI ⟨rfl, rfl⟩
def f264 (kad : Nat → Nat) (N : Nat) (Z : AZ) (a0 : Nat) (i1 : Int32) (I : AI) : Option (Int32 × AI) :=
  (f186 kad N Z i1 (1 : Int32) (200 : Int32) I).bind fun r6_1 =>
  if ¬ r6_1.1 = 0 then
    (isK Z a0 11).bind fun u17_2 =>
    (f216 kad N Z a0 r6_1.2).bind fun r17_3 =>
    if r17_3.1 = 0 then
      f264_b28 kad N Z a0 i1 (2 : Int32) a0 r17_3.2
    else
      f264_b28 kad N Z a0 i1 (0 : Int32) a0 r17_3.2
  else
    f264_b28 kad N Z a0 i1 (1 : Int32) a0 r6_1.2
theorem Tf264 {kad : Nat → Nat} {N : Nat} {Z : AZ} {d : Nat} {t : Option Nat × (Nat × Nat)} (hd : 8 ≤ d) : ∀ (a0 : Nat) (i1 : Int32) (I : AI) (r : Int32 × AI), f264 kad N Z a0 i1 I = some r → aGo kad d 264 (0, ([(0, .ref a0), (1, .int i1)], [])) (aMem Z I, t) (qI Z t r) := by
  intro a0 i1 I r h
  unfold f264 at h
  refine go_ops aMi264 4 _ (f1 := (6, ([(0, .ref a0), (1, .int i1)], [.int (200 : Int32), .int (1 : Int32), .int i1, .ref a0]))) rfl ?_
  obtain ⟨r6_1, hxr6_1, h⟩ := Option.bind_eq_some_iff.mp h
  refine gg_cs (as := [.int i1, .int (1 : Int32), .int (200 : Int32)]) (r := [.ref a0]) aMi264 rfl rfl rfl aMi186 rfl (Nat.le_of_ble_eq_true rfl) (Nat.le_of_ble_eq_true rfl) (by omega) (Tf186 (by omega) i1 (1 : Int32) (200 : Int32) I _ hxr6_1) ?_
  show aGo kad d 264 (9, ([(0, .ref a0), (1, .int i1)], [.int r6_1.1, .ref a0])) (aMem Z r6_1.2, t) _
  refine gg_br (b := decide (¬ r6_1.1 = 0)) (tg := 16) (off := 7) aMi264 rfl rfl rfl rfl (fun hb => ?_) (fun hb => ?_)
  · rw [if_pos (of_decide_eq_true hb)] at h
    refine go_ops aMi264 1 _ (f1 := (17, ([(0, .ref a0), (1, .int i1)], [.ref a0, .ref a0]))) rfl ?_
    obtain ⟨u17_2, hxu17_2, h⟩ := Option.bind_eq_some_iff.mp h
    obtain ⟨r17_3, hxr17_3, h⟩ := Option.bind_eq_some_iff.mp h
    refine gg_cv (as := []) (r := [.ref a0]) aMi264 rfl rfl rfl aMi216 (Nat.le_of_ble_eq_true rfl) rfl (Nat.le_of_ble_eq_true rfl) (Nat.le_of_ble_eq_true rfl) (by omega) hxu17_2 (Tf216 (by omega) a0 r6_1.2 _ hxr17_3) ?_
    show aGo kad d 264 (20, ([(0, .ref a0), (1, .int i1)], [.int r17_3.1, .ref a0])) (aMem Z r17_3.2, t) _
    refine gg_br (b := decide (r17_3.1 = 0)) (tg := 27) (off := 7) aMi264 rfl rfl rfl rfl (fun hb => ?_) (fun hb => ?_)
    · rw [if_pos (of_decide_eq_true hb)] at h
      refine go_ops aMi264 1 _ (f1 := (28, ([(0, .ref a0), (1, .int i1)], [.int (2 : Int32), .ref a0]))) rfl ?_
      exact Tf264_b28 hd a0 i1 (2 : Int32) a0 r17_3.2 _ h
    · rw [if_neg (of_decide_eq_false hb)] at h
      refine go_ops aMi264 2 _ (f1 := (28, ([(0, .ref a0), (1, .int i1)], [.int (0 : Int32), .ref a0]))) rfl ?_
      exact Tf264_b28 hd a0 i1 (0 : Int32) a0 r17_3.2 _ h
  · rw [if_neg (of_decide_eq_false hb)] at h
    refine go_ops aMi264 2 _ (f1 := (28, ([(0, .ref a0), (1, .int i1)], [.int (1 : Int32), .ref a0]))) rfl ?_
    exact Tf264_b28 hd a0 i1 (1 : Int32) a0 r6_1.2 _ h
-- KernelGymModel.press (I)I
def f265_b103 (kad : Nat → Nat) (N : Nat) (Z : AZ) (a0 : Nat) (i1 : Int32) (i2 : Int32) (I : AI) : Option (Int32 × AI) :=
  (gR Z I 11 41 a0).bind fun b104_1 =>
  (gI Z I 11 38 a0).bind fun x109_2 =>
  (sI Z I 100 b104_1 i2 x109_2).bind fun I112_3 =>
  (gR Z I112_3 11 42 a0).bind fun b114_4 =>
  (sI Z I112_3 100 b114_4 i2 i1).bind fun I119_5 =>
  (gI Z I119_5 11 43 a0).bind fun x122_6 =>
  (pI Z I119_5 11 43 a0 (x122_6 + (1 : Int32))).bind fun I127_7 =>
  (pB Z I127_7 11 33 a0 (1 : Int32)).bind fun I132_8 =>
  (gI Z I132_8 11 43 a0).bind fun x136_9 =>
  some (x136_9, I132_8)
theorem Tf265_b103 {kad : Nat → Nat} {N : Nat} {Z : AZ} {d : Nat} {t : Option Nat × (Nat × Nat)} (hd : 1 ≤ d) : ∀ (a0 : Nat) (i1 : Int32) (i2 : Int32) (I : AI) (r : Int32 × AI), f265_b103 kad N Z a0 i1 i2 I = some r → aGo kad d 265 (103, ([(0, .ref a0), (1, .int i1), (2, .int i2)], [])) (aMem Z I, t) (qI Z t r) := by
  intro a0 i1 i2 I r h
  unfold f265_b103 at h
  refine go_ops aMi265 1 _ (f1 := (104, ([(0, .ref a0), (1, .int i1), (2, .int i2)], [.ref a0]))) rfl ?_
  obtain ⟨b104_1, hxb104_1, h⟩ := Option.bind_eq_some_iff.mp h
  refine gg_gR aMi265 rfl rfl rfl hxb104_1 ?_
  refine go_ops aMi265 2 _ (f1 := (109, ([(0, .ref a0), (1, .int i1), (2, .int i2)], [.ref a0, .int i2, .ref b104_1]))) rfl ?_
  obtain ⟨x109_2, hxx109_2, h⟩ := Option.bind_eq_some_iff.mp h
  refine gg_gI aMi265 rfl rfl rfl hxx109_2 ?_
  obtain ⟨I112_3, hxI112_3, h⟩ := Option.bind_eq_some_iff.mp h
  refine gg_sI (Or.inl ⟨rfl, rfl⟩) aMi265 rfl hxI112_3 ?_
  refine go_ops aMi265 1 _ (f1 := (114, ([(0, .ref a0), (1, .int i1), (2, .int i2)], [.ref a0]))) rfl ?_
  obtain ⟨b114_4, hxb114_4, h⟩ := Option.bind_eq_some_iff.mp h
  refine gg_gR aMi265 rfl rfl rfl hxb114_4 ?_
  refine go_ops aMi265 2 _ (f1 := (119, ([(0, .ref a0), (1, .int i1), (2, .int i2)], [.int i1, .int i2, .ref b114_4]))) rfl ?_
  obtain ⟨I119_5, hxI119_5, h⟩ := Option.bind_eq_some_iff.mp h
  refine gg_sI (Or.inl ⟨rfl, rfl⟩) aMi265 rfl hxI119_5 ?_
  refine go_ops aMi265 2 _ (f1 := (122, ([(0, .ref a0), (1, .int i1), (2, .int i2)], [.ref a0, .ref a0]))) rfl ?_
  obtain ⟨x122_6, hxx122_6, h⟩ := Option.bind_eq_some_iff.mp h
  refine gg_gI aMi265 rfl rfl rfl hxx122_6 ?_
  refine go_ops aMi265 2 _ (f1 := (127, ([(0, .ref a0), (1, .int i1), (2, .int i2)], [.int (x122_6 + (1 : Int32)), .ref a0]))) rfl ?_
  obtain ⟨I127_7, hxI127_7, h⟩ := Option.bind_eq_some_iff.mp h
  refine gg_pI aMi265 rfl rfl rfl rfl (by decide) hxI127_7 ?_
  refine go_ops aMi265 2 _ (f1 := (132, ([(0, .ref a0), (1, .int i1), (2, .int i2)], [.int (1 : Int32), .ref a0]))) rfl ?_
  obtain ⟨I132_8, hxI132_8, h⟩ := Option.bind_eq_some_iff.mp h
  refine gg_pB aMi265 rfl rfl rfl rfl (by decide) hxI132_8 ?_
  refine go_ops aMi265 1 _ (f1 := (136, ([(0, .ref a0), (1, .int i1), (2, .int i2)], [.ref a0]))) rfl ?_
  obtain ⟨x136_9, hxx136_9, h⟩ := Option.bind_eq_some_iff.mp h
  refine gg_gI aMi265 rfl rfl rfl hxx136_9 ?_
  cases h
  exact go_ret aMi265 rfl aRetI ⟨rfl, rfl⟩
def f265_b50 (kad : Nat → Nat) (N : Nat) (Z : AZ) : Nat → Nat → Int32 → Int32 → AI → Option (Int32 × AI)
  | 0, _, _, _, _ => none
  | F + 1, a0, i1, i2, I =>
    if i2 ≤ 0 then
      f265_b103 kad N Z a0 i1 i2 I
    else
      (gR Z I 11 41 a0).bind fun b55_1 =>
      (lI Z I 100 b55_1 (i2 - (1 : Int32))).bind fun x61_2 =>
      (gI Z I 11 38 a0).bind fun x63_3 =>
      if x61_2 ≤ x63_3 then
        f265_b103 kad N Z a0 i1 i2 I
      else
        (gR Z I 11 41 a0).bind fun b70_4 =>
        (gR Z I 11 41 a0).bind fun b75_5 =>
        (lI Z I 100 b75_5 (i2 - (1 : Int32))).bind fun x81_6 =>
        (sI Z I 100 b70_4 i2 x81_6).bind fun I82_7 =>
        (gR Z I82_7 11 42 a0).bind fun b84_8 =>
        (gR Z I82_7 11 42 a0).bind fun b89_9 =>
        (lI Z I82_7 100 b89_9 (i2 - (1 : Int32))).bind fun x95_10 =>
        (sI Z I82_7 100 b84_8 i2 x95_10).bind fun I96_11 =>
        f265_b50 kad N Z F a0 i1 (i2 + (Int32.ofInt (-1))) I96_11
theorem Tf265_b50 {kad : Nat → Nat} {N : Nat} {Z : AZ} {d : Nat} {t : Option Nat × (Nat × Nat)} (hd : 1 ≤ d) : ∀ (F : Nat) (a0 : Nat) (i1 : Int32) (i2 : Int32) (I : AI) (r : Int32 × AI), f265_b50 kad N Z F a0 i1 i2 I = some r → aGo kad d 265 (50, ([(0, .ref a0), (1, .int i1), (2, .int i2)], [])) (aMem Z I, t) (qI Z t r) := by
  intro F
  induction F with
  | zero => intro a0 i1 i2 I r h; cases h
  | succ F ih =>
    intro a0 i1 i2 I r h
    unfold f265_b50 at h
    refine go_ops aMi265 1 _ (f1 := (51, ([(0, .ref a0), (1, .int i1), (2, .int i2)], [.int i2]))) rfl ?_
    refine gg_br (b := decide (i2 ≤ 0)) (tg := 103) (off := 52) aMi265 rfl rfl rfl rfl (fun hb => ?_) (fun hb => ?_)
    · rw [if_pos (of_decide_eq_true hb)] at h
      exact Tf265_b103 hd a0 i1 i2 I _ h
    · rw [if_neg (of_decide_eq_false hb)] at h
      refine go_ops aMi265 1 _ (f1 := (55, ([(0, .ref a0), (1, .int i1), (2, .int i2)], [.ref a0]))) rfl ?_
      obtain ⟨b55_1, hxb55_1, h⟩ := Option.bind_eq_some_iff.mp h
      refine gg_gR aMi265 rfl rfl rfl hxb55_1 ?_
      refine go_ops aMi265 3 _ (f1 := (61, ([(0, .ref a0), (1, .int i1), (2, .int i2)], [.int (i2 - (1 : Int32)), .ref b55_1]))) rfl ?_
      obtain ⟨x61_2, hxx61_2, h⟩ := Option.bind_eq_some_iff.mp h
      refine gg_lI (Or.inl ⟨rfl, rfl⟩) aMi265 rfl hxx61_2 ?_
      refine go_ops aMi265 1 _ (f1 := (63, ([(0, .ref a0), (1, .int i1), (2, .int i2)], [.ref a0, .int x61_2]))) rfl ?_
      obtain ⟨x63_3, hxx63_3, h⟩ := Option.bind_eq_some_iff.mp h
      refine gg_gI aMi265 rfl rfl rfl hxx63_3 ?_
      refine gg_br (b := decide (x61_2 ≤ x63_3)) (tg := 103) (off := 37) aMi265 rfl rfl rfl rfl (fun hb => ?_) (fun hb => ?_)
      · rw [if_pos (of_decide_eq_true hb)] at h
        exact Tf265_b103 hd a0 i1 i2 I _ h
      · rw [if_neg (of_decide_eq_false hb)] at h
        refine go_ops aMi265 1 _ (f1 := (70, ([(0, .ref a0), (1, .int i1), (2, .int i2)], [.ref a0]))) rfl ?_
        obtain ⟨b70_4, hxb70_4, h⟩ := Option.bind_eq_some_iff.mp h
        refine gg_gR aMi265 rfl rfl rfl hxb70_4 ?_
        refine go_ops aMi265 2 _ (f1 := (75, ([(0, .ref a0), (1, .int i1), (2, .int i2)], [.ref a0, .int i2, .ref b70_4]))) rfl ?_
        obtain ⟨b75_5, hxb75_5, h⟩ := Option.bind_eq_some_iff.mp h
        refine gg_gR aMi265 rfl rfl rfl hxb75_5 ?_
        refine go_ops aMi265 3 _ (f1 := (81, ([(0, .ref a0), (1, .int i1), (2, .int i2)], [.int (i2 - (1 : Int32)), .ref b75_5, .int i2, .ref b70_4]))) rfl ?_
        obtain ⟨x81_6, hxx81_6, h⟩ := Option.bind_eq_some_iff.mp h
        refine gg_lI (Or.inl ⟨rfl, rfl⟩) aMi265 rfl hxx81_6 ?_
        obtain ⟨I82_7, hxI82_7, h⟩ := Option.bind_eq_some_iff.mp h
        refine gg_sI (Or.inl ⟨rfl, rfl⟩) aMi265 rfl hxI82_7 ?_
        refine go_ops aMi265 1 _ (f1 := (84, ([(0, .ref a0), (1, .int i1), (2, .int i2)], [.ref a0]))) rfl ?_
        obtain ⟨b84_8, hxb84_8, h⟩ := Option.bind_eq_some_iff.mp h
        refine gg_gR aMi265 rfl rfl rfl hxb84_8 ?_
        refine go_ops aMi265 2 _ (f1 := (89, ([(0, .ref a0), (1, .int i1), (2, .int i2)], [.ref a0, .int i2, .ref b84_8]))) rfl ?_
        obtain ⟨b89_9, hxb89_9, h⟩ := Option.bind_eq_some_iff.mp h
        refine gg_gR aMi265 rfl rfl rfl hxb89_9 ?_
        refine go_ops aMi265 3 _ (f1 := (95, ([(0, .ref a0), (1, .int i1), (2, .int i2)], [.int (i2 - (1 : Int32)), .ref b89_9, .int i2, .ref b84_8]))) rfl ?_
        obtain ⟨x95_10, hxx95_10, h⟩ := Option.bind_eq_some_iff.mp h
        refine gg_lI (Or.inl ⟨rfl, rfl⟩) aMi265 rfl hxx95_10 ?_
        obtain ⟨I96_11, hxI96_11, h⟩ := Option.bind_eq_some_iff.mp h
        refine gg_sI (Or.inl ⟨rfl, rfl⟩) aMi265 rfl hxI96_11 ?_
        refine go_ops aMi265 2 _ (f1 := (50, ([(2, .int (i2 + (Int32.ofInt (-1)))), (0, .ref a0), (1, .int i1)], []))) rfl ?_
        refine go_le (lv1 := [(0, .ref a0), (1, .int i1), (2, .int (i2 + (Int32.ofInt (-1))))]) (aLe_of (show (List.map (fun q => q.1) ([(0, .ref a0), (1, .int i1), (2, .int (i2 + (Int32.ofInt (-1))))] : ALv)).Nodup from (by show ([0, 1, 2] : List Nat).Nodup; decide)) (aSubL_cons rfl (aSubL_cons rfl (aSubL_cons rfl aSubL_nil)))) ?_
        exact ih a0 i1 (i2 + (Int32.ofInt (-1))) I96_11 _ h
def f265_b37 (kad : Nat → Nat) (N : Nat) (Z : AZ) (a0 : Nat) (i1 : Int32) (s0 : Int32) (s1 : Nat) (I : AI) : Option (Int32 × AI) :=
  (isK Z s1 11).bind fun u37_1 =>
  (f185 kad N Z s1 s0 I).bind fun r37_2 =>
  if ¬ r37_2.1 = 0 then
    (gI Z r37_2.2 11 43 a0).bind fun x46_3 =>
    f265_b50 kad N Z N a0 i1 x46_3 r37_2.2
  else
    some ((0 : Int32), r37_2.2)
theorem Tf265_b37 {kad : Nat → Nat} {N : Nat} {Z : AZ} {d : Nat} {t : Option Nat × (Nat × Nat)} (hd : 1 ≤ d) : ∀ (a0 : Nat) (i1 : Int32) (s0 : Int32) (s1 : Nat) (I : AI) (r : Int32 × AI), f265_b37 kad N Z a0 i1 s0 s1 I = some r → aGo kad d 265 (37, ([(0, .ref a0), (1, .int i1)], [.int s0, .ref s1])) (aMem Z I, t) (qI Z t r) := by
  intro a0 i1 s0 s1 I r h
  unfold f265_b37 at h
  obtain ⟨u37_1, hxu37_1, h⟩ := Option.bind_eq_some_iff.mp h
  obtain ⟨r37_2, hxr37_2, h⟩ := Option.bind_eq_some_iff.mp h
  refine gg_cv (as := [.int s0]) (r := []) aMi265 rfl rfl rfl aMi185 (Nat.le_of_ble_eq_true rfl) rfl (Nat.le_of_ble_eq_true rfl) (Nat.le_of_ble_eq_true rfl) (by omega) hxu37_1 (Tf185 (by omega) s1 s0 I _ hxr37_2) ?_
  show aGo kad d 265 (40, ([(0, .ref a0), (1, .int i1)], [.int r37_2.1])) (aMem Z r37_2.2, t) _
  refine gg_br (b := decide (¬ r37_2.1 = 0)) (tg := 45) (off := 5) aMi265 rfl rfl rfl rfl (fun hb => ?_) (fun hb => ?_)
  · rw [if_pos (of_decide_eq_true hb)] at h
    refine go_ops aMi265 1 _ (f1 := (46, ([(0, .ref a0), (1, .int i1)], [.ref a0]))) rfl ?_
    obtain ⟨x46_3, hxx46_3, h⟩ := Option.bind_eq_some_iff.mp h
    refine gg_gI aMi265 rfl rfl rfl hxx46_3 ?_
    refine go_ops aMi265 1 _ (f1 := (50, ([(2, .int x46_3), (0, .ref a0), (1, .int i1)], []))) rfl ?_
    refine go_le (lv1 := [(0, .ref a0), (1, .int i1), (2, .int x46_3)]) (aLe_of (show (List.map (fun q => q.1) ([(0, .ref a0), (1, .int i1), (2, .int x46_3)] : ALv)).Nodup from (by show ([0, 1, 2] : List Nat).Nodup; decide)) (aSubL_cons rfl (aSubL_cons rfl (aSubL_cons rfl aSubL_nil)))) ?_
    exact Tf265_b50 hd N a0 i1 x46_3 r37_2.2 _ h
  · rw [if_neg (of_decide_eq_false hb)] at h
    refine go_ops aMi265 1 _ (f1 := (44, ([(0, .ref a0), (1, .int i1)], [.int (0 : Int32)]))) rfl ?_
    cases h
    exact go_ret aMi265 rfl aRetI ⟨rfl, rfl⟩
def f265_b32 (kad : Nat → Nat) (N : Nat) (Z : AZ) (a0 : Nat) (i1 : Int32) (s0 : Nat) (I : AI) : Option (Int32 × AI) :=
  f265_b37 kad N Z a0 i1 (2 : Int32) s0 I
theorem Tf265_b32 {kad : Nat → Nat} {N : Nat} {Z : AZ} {d : Nat} {t : Option Nat × (Nat × Nat)} (hd : 1 ≤ d) : ∀ (a0 : Nat) (i1 : Int32) (s0 : Nat) (I : AI) (r : Int32 × AI), f265_b32 kad N Z a0 i1 s0 I = some r → aGo kad d 265 (32, ([(0, .ref a0), (1, .int i1)], [.ref s0])) (aMem Z I, t) (qI Z t r) := by
  intro a0 i1 s0 I r h
  unfold f265_b32 at h
  refine go_ops aMi265 2 _ (f1 := (37, ([(0, .ref a0), (1, .int i1)], [.int (2 : Int32), .ref s0]))) rfl ?_
  exact Tf265_b37 hd a0 i1 (2 : Int32) s0 I _ h
def f265 (kad : Nat → Nat) (N : Nat) (Z : AZ) (a0 : Nat) (i1 : Int32) (I : AI) : Option (Int32 × AI) :=
  (f186 kad N Z i1 (0 : Int32) (65535 : Int32) I).bind fun r5_1 =>
  if ¬ r5_1.1 = 0 then
    (gI Z r5_1.2 11 23 a0).bind fun x16_2 =>
    if ¬ x16_2 = (1 : Int32) then
      f265_b32 kad N Z a0 i1 a0 r5_1.2
    else
      (gI Z r5_1.2 11 43 a0).bind fun x24_3 =>
      if ¬ x24_3 = (20 : Int32) then
        f265_b37 kad N Z a0 i1 (0 : Int32) a0 r5_1.2
      else
        f265_b32 kad N Z a0 i1 a0 r5_1.2
  else
    f265_b37 kad N Z a0 i1 (1 : Int32) a0 r5_1.2
theorem Tf265 {kad : Nat → Nat} {N : Nat} {Z : AZ} {d : Nat} {t : Option Nat × (Nat × Nat)} (hd : 1 ≤ d) : ∀ (a0 : Nat) (i1 : Int32) (I : AI) (r : Int32 × AI), f265 kad N Z a0 i1 I = some r → aGo kad d 265 (0, ([(0, .ref a0), (1, .int i1)], [])) (aMem Z I, t) (qI Z t r) := by
  intro a0 i1 I r h
  unfold f265 at h
  refine go_ops aMi265 3 _ (f1 := (3, ([(0, .ref a0), (1, .int i1)], [.int (0 : Int32), .int i1, .ref a0]))) rfl ?_
  refine gg_kI (Or.inl ⟨rfl, rfl⟩) aMi265 rfl rfl ?_
  obtain ⟨r5_1, hxr5_1, h⟩ := Option.bind_eq_some_iff.mp h
  refine gg_cs (as := [.int i1, .int (0 : Int32), .int (65535 : Int32)]) (r := [.ref a0]) aMi265 rfl rfl rfl aMi186 rfl (Nat.le_of_ble_eq_true rfl) (Nat.le_of_ble_eq_true rfl) (by omega) (Tf186 (by omega) i1 (0 : Int32) (65535 : Int32) I _ hxr5_1) ?_
  show aGo kad d 265 (8, ([(0, .ref a0), (1, .int i1)], [.int r5_1.1, .ref a0])) (aMem Z r5_1.2, t) _
  refine gg_br (b := decide (¬ r5_1.1 = 0)) (tg := 15) (off := 7) aMi265 rfl rfl rfl rfl (fun hb => ?_) (fun hb => ?_)
  · rw [if_pos (of_decide_eq_true hb)] at h
    refine go_ops aMi265 1 _ (f1 := (16, ([(0, .ref a0), (1, .int i1)], [.ref a0, .ref a0]))) rfl ?_
    obtain ⟨x16_2, hxx16_2, h⟩ := Option.bind_eq_some_iff.mp h
    refine gg_gI aMi265 rfl rfl rfl hxx16_2 ?_
    refine go_ops aMi265 1 _ (f1 := (20, ([(0, .ref a0), (1, .int i1)], [.int (1 : Int32), .int x16_2, .ref a0]))) rfl ?_
    refine gg_br (b := decide (¬ x16_2 = (1 : Int32))) (tg := 32) (off := 12) aMi265 rfl rfl rfl rfl (fun hb => ?_) (fun hb => ?_)
    · rw [if_pos (of_decide_eq_true hb)] at h
      exact Tf265_b32 hd a0 i1 a0 r5_1.2 _ h
    · rw [if_neg (of_decide_eq_false hb)] at h
      refine go_ops aMi265 1 _ (f1 := (24, ([(0, .ref a0), (1, .int i1)], [.ref a0, .ref a0]))) rfl ?_
      obtain ⟨x24_3, hxx24_3, h⟩ := Option.bind_eq_some_iff.mp h
      refine gg_gI aMi265 rfl rfl rfl hxx24_3 ?_
      refine go_ops aMi265 1 _ (f1 := (29, ([(0, .ref a0), (1, .int i1)], [.int (20 : Int32), .int x24_3, .ref a0]))) rfl ?_
      refine gg_br (b := decide (¬ x24_3 = (20 : Int32))) (tg := 36) (off := 7) aMi265 rfl rfl rfl rfl (fun hb => ?_) (fun hb => ?_)
      · rw [if_pos (of_decide_eq_true hb)] at h
        refine go_ops aMi265 1 _ (f1 := (37, ([(0, .ref a0), (1, .int i1)], [.int (0 : Int32), .ref a0]))) rfl ?_
        exact Tf265_b37 hd a0 i1 (0 : Int32) a0 r5_1.2 _ h
      · rw [if_neg (of_decide_eq_false hb)] at h
        exact Tf265_b32 hd a0 i1 a0 r5_1.2 _ h
  · rw [if_neg (of_decide_eq_false hb)] at h
    refine go_ops aMi265 2 _ (f1 := (37, ([(0, .ref a0), (1, .int i1)], [.int (1 : Int32), .ref a0]))) rfl ?_
    exact Tf265_b37 hd a0 i1 (1 : Int32) a0 r5_1.2 _ h
-- KernelGymModel.state ()I
def f266 (kad : Nat → Nat) (N : Nat) (Z : AZ) (a0 : Nat) (I : AI) : Option (Int32 × AI) :=
  (pI Z I 11 0 a0 (0 : Int32)).bind fun I2_1 =>
  (gI Z I2_1 11 23 a0).bind fun x6_2 =>
  some (x6_2, I2_1)
theorem Tf266 {kad : Nat → Nat} {N : Nat} {Z : AZ} {d : Nat} {t : Option Nat × (Nat × Nat)} (hd : 0 ≤ d) : ∀ (a0 : Nat) (I : AI) (r : Int32 × AI), f266 kad N Z a0 I = some r → aGo kad d 266 (0, ([(0, .ref a0)], [])) (aMem Z I, t) (qI Z t r) := by
  intro a0 I r h
  unfold f266 at h
  refine go_ops aMi266 2 _ (f1 := (2, ([(0, .ref a0)], [.int (0 : Int32), .ref a0]))) rfl ?_
  obtain ⟨I2_1, hxI2_1, h⟩ := Option.bind_eq_some_iff.mp h
  refine gg_pI aMi266 rfl rfl rfl rfl (by decide) hxI2_1 ?_
  refine go_ops aMi266 1 _ (f1 := (6, ([(0, .ref a0)], [.ref a0]))) rfl ?_
  obtain ⟨x6_2, hxx6_2, h⟩ := Option.bind_eq_some_iff.mp h
  refine gg_gI aMi266 rfl rfl rfl hxx6_2 ?_
  cases h
  exact go_ret aMi266 rfl aRetI ⟨rfl, rfl⟩
-- KernelGymModel.fault ()I
def f267 (kad : Nat → Nat) (N : Nat) (Z : AZ) (a0 : Nat) (I : AI) : Option (Int32 × AI) :=
  (pI Z I 11 0 a0 (0 : Int32)).bind fun I2_1 =>
  (gI Z I2_1 11 24 a0).bind fun x6_2 =>
  some (x6_2, I2_1)
theorem Tf267 {kad : Nat → Nat} {N : Nat} {Z : AZ} {d : Nat} {t : Option Nat × (Nat × Nat)} (hd : 0 ≤ d) : ∀ (a0 : Nat) (I : AI) (r : Int32 × AI), f267 kad N Z a0 I = some r → aGo kad d 267 (0, ([(0, .ref a0)], [])) (aMem Z I, t) (qI Z t r) := by
  intro a0 I r h
  unfold f267 at h
  refine go_ops aMi267 2 _ (f1 := (2, ([(0, .ref a0)], [.int (0 : Int32), .ref a0]))) rfl ?_
  obtain ⟨I2_1, hxI2_1, h⟩ := Option.bind_eq_some_iff.mp h
  refine gg_pI aMi267 rfl rfl rfl rfl (by decide) hxI2_1 ?_
  refine go_ops aMi267 1 _ (f1 := (6, ([(0, .ref a0)], [.ref a0]))) rfl ?_
  obtain ⟨x6_2, hxx6_2, h⟩ := Option.bind_eq_some_iff.mp h
  refine gg_gI aMi267 rfl rfl rfl hxx6_2 ?_
  cases h
  exact go_ret aMi267 rfl aRetI ⟨rfl, rfl⟩
-- KernelGymModel.steps ()I
def f268 (kad : Nat → Nat) (N : Nat) (Z : AZ) (a0 : Nat) (I : AI) : Option (Int32 × AI) :=
  (pI Z I 11 0 a0 (0 : Int32)).bind fun I2_1 =>
  (gI Z I2_1 11 38 a0).bind fun x6_2 =>
  some (x6_2, I2_1)
theorem Tf268 {kad : Nat → Nat} {N : Nat} {Z : AZ} {d : Nat} {t : Option Nat × (Nat × Nat)} (hd : 0 ≤ d) : ∀ (a0 : Nat) (I : AI) (r : Int32 × AI), f268 kad N Z a0 I = some r → aGo kad d 268 (0, ([(0, .ref a0)], [])) (aMem Z I, t) (qI Z t r) := by
  intro a0 I r h
  unfold f268 at h
  refine go_ops aMi268 2 _ (f1 := (2, ([(0, .ref a0)], [.int (0 : Int32), .ref a0]))) rfl ?_
  obtain ⟨I2_1, hxI2_1, h⟩ := Option.bind_eq_some_iff.mp h
  refine gg_pI aMi268 rfl rfl rfl rfl (by decide) hxI2_1 ?_
  refine go_ops aMi268 1 _ (f1 := (6, ([(0, .ref a0)], [.ref a0]))) rfl ?_
  obtain ⟨x6_2, hxx6_2, h⟩ := Option.bind_eq_some_iff.mp h
  refine gg_gI aMi268 rfl rfl rfl hxx6_2 ?_
  cases h
  exact go_ret aMi268 rfl aRetI ⟨rfl, rfl⟩
-- KernelGymModel.kept ()I
def f269 (kad : Nat → Nat) (N : Nat) (Z : AZ) (a0 : Nat) (I : AI) : Option (Int32 × AI) :=
  (pI Z I 11 0 a0 (0 : Int32)).bind fun I2_1 =>
  (gI Z I2_1 11 40 a0).bind fun x6_2 =>
  some (x6_2, I2_1)
theorem Tf269 {kad : Nat → Nat} {N : Nat} {Z : AZ} {d : Nat} {t : Option Nat × (Nat × Nat)} (hd : 0 ≤ d) : ∀ (a0 : Nat) (I : AI) (r : Int32 × AI), f269 kad N Z a0 I = some r → aGo kad d 269 (0, ([(0, .ref a0)], [])) (aMem Z I, t) (qI Z t r) := by
  intro a0 I r h
  unfold f269 at h
  refine go_ops aMi269 2 _ (f1 := (2, ([(0, .ref a0)], [.int (0 : Int32), .ref a0]))) rfl ?_
  obtain ⟨I2_1, hxI2_1, h⟩ := Option.bind_eq_some_iff.mp h
  refine gg_pI aMi269 rfl rfl rfl rfl (by decide) hxI2_1 ?_
  refine go_ops aMi269 1 _ (f1 := (6, ([(0, .ref a0)], [.ref a0]))) rfl ?_
  obtain ⟨x6_2, hxx6_2, h⟩ := Option.bind_eq_some_iff.mp h
  refine gg_gI aMi269 rfl rfl rfl hxx6_2 ?_
  cases h
  exact go_ret aMi269 rfl aRetI ⟨rfl, rfl⟩
-- KernelGymModel.counter ()I
def f270 (kad : Nat → Nat) (N : Nat) (Z : AZ) (a0 : Nat) (I : AI) : Option (Int32 × AI) :=
  (pI Z I 11 0 a0 (0 : Int32)).bind fun I2_1 =>
  (gI Z I2_1 11 27 a0).bind fun x6_2 =>
  some (x6_2, I2_1)
theorem Tf270 {kad : Nat → Nat} {N : Nat} {Z : AZ} {d : Nat} {t : Option Nat × (Nat × Nat)} (hd : 0 ≤ d) : ∀ (a0 : Nat) (I : AI) (r : Int32 × AI), f270 kad N Z a0 I = some r → aGo kad d 270 (0, ([(0, .ref a0)], [])) (aMem Z I, t) (qI Z t r) := by
  intro a0 I r h
  unfold f270 at h
  refine go_ops aMi270 2 _ (f1 := (2, ([(0, .ref a0)], [.int (0 : Int32), .ref a0]))) rfl ?_
  obtain ⟨I2_1, hxI2_1, h⟩ := Option.bind_eq_some_iff.mp h
  refine gg_pI aMi270 rfl rfl rfl rfl (by decide) hxI2_1 ?_
  refine go_ops aMi270 1 _ (f1 := (6, ([(0, .ref a0)], [.ref a0]))) rfl ?_
  obtain ⟨x6_2, hxx6_2, h⟩ := Option.bind_eq_some_iff.mp h
  refine gg_gI aMi270 rfl rfl rfl hxx6_2 ?_
  cases h
  exact go_ret aMi270 rfl aRetI ⟨rfl, rfl⟩
-- KernelGymModel.stack ()I
def f271 (kad : Nat → Nat) (N : Nat) (Z : AZ) (a0 : Nat) (I : AI) : Option (Int32 × AI) :=
  (pI Z I 11 0 a0 (0 : Int32)).bind fun I2_1 =>
  (gI Z I2_1 11 28 a0).bind fun x6_2 =>
  some (x6_2, I2_1)
theorem Tf271 {kad : Nat → Nat} {N : Nat} {Z : AZ} {d : Nat} {t : Option Nat × (Nat × Nat)} (hd : 0 ≤ d) : ∀ (a0 : Nat) (I : AI) (r : Int32 × AI), f271 kad N Z a0 I = some r → aGo kad d 271 (0, ([(0, .ref a0)], [])) (aMem Z I, t) (qI Z t r) := by
  intro a0 I r h
  unfold f271 at h
  refine go_ops aMi271 2 _ (f1 := (2, ([(0, .ref a0)], [.int (0 : Int32), .ref a0]))) rfl ?_
  obtain ⟨I2_1, hxI2_1, h⟩ := Option.bind_eq_some_iff.mp h
  refine gg_pI aMi271 rfl rfl rfl rfl (by decide) hxI2_1 ?_
  refine go_ops aMi271 1 _ (f1 := (6, ([(0, .ref a0)], [.ref a0]))) rfl ?_
  obtain ⟨x6_2, hxx6_2, h⟩ := Option.bind_eq_some_iff.mp h
  refine gg_gI aMi271 rfl rfl rfl hxx6_2 ?_
  cases h
  exact go_ret aMi271 rfl aRetI ⟨rfl, rfl⟩
-- KernelGymModel.flagsOf ()I
def f272_b65 (kad : Nat → Nat) (N : Nat) (Z : AZ) (s0 : Int32) (s1 : Int32) (I : AI) : Option (Int32 × AI) :=
  some ((s1 + s0), I)
theorem Tf272_b65 {kad : Nat → Nat} {N : Nat} {Z : AZ} {d : Nat} {t : Option Nat × (Nat × Nat)} (hd : 0 ≤ d) : ∀ (s0 : Int32) (s1 : Int32) (I : AI) (r : Int32 × AI), f272_b65 kad N Z s0 s1 I = some r → aGo kad d 272 (65, ([], [.int s0, .int s1])) (aMem Z I, t) (qI Z t r) := by
  intro s0 s1 I r h
  unfold f272_b65 at h
  refine go_ops aMi272 1 _ (f1 := (66, ([], [.int (s1 + s0)]))) rfl ?_
  cases h
  exact go_ret aMi272 rfl aRetI ⟨rfl, rfl⟩
def f272_b51 (kad : Nat → Nat) (N : Nat) (Z : AZ) (a0 : Nat) (s0 : Int32) (s1 : Int32) (I : AI) : Option (Int32 × AI) :=
  (gI Z I 11 33 a0).bind fun x53_1 =>
  if x53_1 = 0 then
    f272_b65 kad N Z (0 : Int32) (s1 + s0) I
  else
    f272_b65 kad N Z (16 : Int32) (s1 + s0) I
theorem Tf272_b51 {kad : Nat → Nat} {N : Nat} {Z : AZ} {d : Nat} {t : Option Nat × (Nat × Nat)} (hd : 0 ≤ d) : ∀ (a0 : Nat) (s0 : Int32) (s1 : Int32) (I : AI) (r : Int32 × AI), f272_b51 kad N Z a0 s0 s1 I = some r → aGo kad d 272 (51, ([(0, .ref a0)], [.int s0, .int s1])) (aMem Z I, t) (qI Z t r) := by
  intro a0 s0 s1 I r h
  unfold f272_b51 at h
  refine go_ops aMi272 2 _ (f1 := (53, ([(0, .ref a0)], [.ref a0, .int (s1 + s0)]))) rfl ?_
  obtain ⟨x53_1, hxx53_1, h⟩ := Option.bind_eq_some_iff.mp h
  refine gg_gI aMi272 rfl rfl rfl hxx53_1 ?_
  refine gg_br (b := decide (x53_1 = 0)) (tg := 64) (off := 8) aMi272 rfl rfl rfl rfl (fun hb => ?_) (fun hb => ?_)
  · rw [if_pos (of_decide_eq_true hb)] at h
    refine go_ops aMi272 1 _ (f1 := (65, ([(0, .ref a0)], [.int (0 : Int32), .int (s1 + s0)]))) rfl ?_
    refine go_le (lv1 := []) (aLe_of (show (List.map (fun q => q.1) ([] : ALv)).Nodup from (by show ([] : List Nat).Nodup; decide)) aSubL_nil) ?_
    exact Tf272_b65 hd (0 : Int32) (s1 + s0) I _ h
  · rw [if_neg (of_decide_eq_false hb)] at h
    refine go_ops aMi272 2 _ (f1 := (65, ([(0, .ref a0)], [.int (16 : Int32), .int (s1 + s0)]))) rfl ?_
    refine go_le (lv1 := []) (aLe_of (show (List.map (fun q => q.1) ([] : ALv)).Nodup from (by show ([] : List Nat).Nodup; decide)) aSubL_nil) ?_
    exact Tf272_b65 hd (16 : Int32) (s1 + s0) I _ h
def f272_b37 (kad : Nat → Nat) (N : Nat) (Z : AZ) (a0 : Nat) (s0 : Int32) (s1 : Int32) (I : AI) : Option (Int32 × AI) :=
  (gI Z I 11 32 a0).bind fun x39_1 =>
  if x39_1 = 0 then
    f272_b51 kad N Z a0 (0 : Int32) (s1 + s0) I
  else
    f272_b51 kad N Z a0 (8 : Int32) (s1 + s0) I
theorem Tf272_b37 {kad : Nat → Nat} {N : Nat} {Z : AZ} {d : Nat} {t : Option Nat × (Nat × Nat)} (hd : 0 ≤ d) : ∀ (a0 : Nat) (s0 : Int32) (s1 : Int32) (I : AI) (r : Int32 × AI), f272_b37 kad N Z a0 s0 s1 I = some r → aGo kad d 272 (37, ([(0, .ref a0)], [.int s0, .int s1])) (aMem Z I, t) (qI Z t r) := by
  intro a0 s0 s1 I r h
  unfold f272_b37 at h
  refine go_ops aMi272 2 _ (f1 := (39, ([(0, .ref a0)], [.ref a0, .int (s1 + s0)]))) rfl ?_
  obtain ⟨x39_1, hxx39_1, h⟩ := Option.bind_eq_some_iff.mp h
  refine gg_gI aMi272 rfl rfl rfl hxx39_1 ?_
  refine gg_br (b := decide (x39_1 = 0)) (tg := 50) (off := 8) aMi272 rfl rfl rfl rfl (fun hb => ?_) (fun hb => ?_)
  · rw [if_pos (of_decide_eq_true hb)] at h
    refine go_ops aMi272 1 _ (f1 := (51, ([(0, .ref a0)], [.int (0 : Int32), .int (s1 + s0)]))) rfl ?_
    exact Tf272_b51 hd a0 (0 : Int32) (s1 + s0) I _ h
  · rw [if_neg (of_decide_eq_false hb)] at h
    refine go_ops aMi272 2 _ (f1 := (51, ([(0, .ref a0)], [.int (8 : Int32), .int (s1 + s0)]))) rfl ?_
    exact Tf272_b51 hd a0 (8 : Int32) (s1 + s0) I _ h
def f272_b24 (kad : Nat → Nat) (N : Nat) (Z : AZ) (a0 : Nat) (s0 : Int32) (s1 : Int32) (I : AI) : Option (Int32 × AI) :=
  (gI Z I 11 31 a0).bind fun x26_1 =>
  if x26_1 = 0 then
    f272_b37 kad N Z a0 (0 : Int32) (s1 + s0) I
  else
    f272_b37 kad N Z a0 (4 : Int32) (s1 + s0) I
theorem Tf272_b24 {kad : Nat → Nat} {N : Nat} {Z : AZ} {d : Nat} {t : Option Nat × (Nat × Nat)} (hd : 0 ≤ d) : ∀ (a0 : Nat) (s0 : Int32) (s1 : Int32) (I : AI) (r : Int32 × AI), f272_b24 kad N Z a0 s0 s1 I = some r → aGo kad d 272 (24, ([(0, .ref a0)], [.int s0, .int s1])) (aMem Z I, t) (qI Z t r) := by
  intro a0 s0 s1 I r h
  unfold f272_b24 at h
  refine go_ops aMi272 2 _ (f1 := (26, ([(0, .ref a0)], [.ref a0, .int (s1 + s0)]))) rfl ?_
  obtain ⟨x26_1, hxx26_1, h⟩ := Option.bind_eq_some_iff.mp h
  refine gg_gI aMi272 rfl rfl rfl hxx26_1 ?_
  refine gg_br (b := decide (x26_1 = 0)) (tg := 36) (off := 7) aMi272 rfl rfl rfl rfl (fun hb => ?_) (fun hb => ?_)
  · rw [if_pos (of_decide_eq_true hb)] at h
    refine go_ops aMi272 1 _ (f1 := (37, ([(0, .ref a0)], [.int (0 : Int32), .int (s1 + s0)]))) rfl ?_
    exact Tf272_b37 hd a0 (0 : Int32) (s1 + s0) I _ h
  · rw [if_neg (of_decide_eq_false hb)] at h
    refine go_ops aMi272 2 _ (f1 := (37, ([(0, .ref a0)], [.int (4 : Int32), .int (s1 + s0)]))) rfl ?_
    exact Tf272_b37 hd a0 (4 : Int32) (s1 + s0) I _ h
def f272_b12 (kad : Nat → Nat) (N : Nat) (Z : AZ) (a0 : Nat) (s0 : Int32) (I : AI) : Option (Int32 × AI) :=
  (gI Z I 11 30 a0).bind fun x13_1 =>
  if x13_1 = 0 then
    f272_b24 kad N Z a0 (0 : Int32) s0 I
  else
    f272_b24 kad N Z a0 (2 : Int32) s0 I
theorem Tf272_b12 {kad : Nat → Nat} {N : Nat} {Z : AZ} {d : Nat} {t : Option Nat × (Nat × Nat)} (hd : 0 ≤ d) : ∀ (a0 : Nat) (s0 : Int32) (I : AI) (r : Int32 × AI), f272_b12 kad N Z a0 s0 I = some r → aGo kad d 272 (12, ([(0, .ref a0)], [.int s0])) (aMem Z I, t) (qI Z t r) := by
  intro a0 s0 I r h
  unfold f272_b12 at h
  refine go_ops aMi272 1 _ (f1 := (13, ([(0, .ref a0)], [.ref a0, .int s0]))) rfl ?_
  obtain ⟨x13_1, hxx13_1, h⟩ := Option.bind_eq_some_iff.mp h
  refine gg_gI aMi272 rfl rfl rfl hxx13_1 ?_
  refine gg_br (b := decide (x13_1 = 0)) (tg := 23) (off := 7) aMi272 rfl rfl rfl rfl (fun hb => ?_) (fun hb => ?_)
  · rw [if_pos (of_decide_eq_true hb)] at h
    refine go_ops aMi272 1 _ (f1 := (24, ([(0, .ref a0)], [.int (0 : Int32), .int s0]))) rfl ?_
    exact Tf272_b24 hd a0 (0 : Int32) s0 I _ h
  · rw [if_neg (of_decide_eq_false hb)] at h
    refine go_ops aMi272 2 _ (f1 := (24, ([(0, .ref a0)], [.int (2 : Int32), .int s0]))) rfl ?_
    exact Tf272_b24 hd a0 (2 : Int32) s0 I _ h
def f272 (kad : Nat → Nat) (N : Nat) (Z : AZ) (a0 : Nat) (I : AI) : Option (Int32 × AI) :=
  (gI Z I 11 29 a0).bind fun x1_1 =>
  if x1_1 = 0 then
    f272_b12 kad N Z a0 (0 : Int32) I
  else
    f272_b12 kad N Z a0 (1 : Int32) I
theorem Tf272 {kad : Nat → Nat} {N : Nat} {Z : AZ} {d : Nat} {t : Option Nat × (Nat × Nat)} (hd : 0 ≤ d) : ∀ (a0 : Nat) (I : AI) (r : Int32 × AI), f272 kad N Z a0 I = some r → aGo kad d 272 (0, ([(0, .ref a0)], [])) (aMem Z I, t) (qI Z t r) := by
  intro a0 I r h
  unfold f272 at h
  refine go_ops aMi272 1 _ (f1 := (1, ([(0, .ref a0)], [.ref a0]))) rfl ?_
  obtain ⟨x1_1, hxx1_1, h⟩ := Option.bind_eq_some_iff.mp h
  refine gg_gI aMi272 rfl rfl rfl hxx1_1 ?_
  refine gg_br (b := decide (x1_1 = 0)) (tg := 11) (off := 7) aMi272 rfl rfl rfl rfl (fun hb => ?_) (fun hb => ?_)
  · rw [if_pos (of_decide_eq_true hb)] at h
    refine go_ops aMi272 1 _ (f1 := (12, ([(0, .ref a0)], [.int (0 : Int32)]))) rfl ?_
    exact Tf272_b12 hd a0 (0 : Int32) I _ h
  · rw [if_neg (of_decide_eq_false hb)] at h
    refine go_ops aMi272 2 _ (f1 := (12, ([(0, .ref a0)], [.int (1 : Int32)]))) rfl ?_
    exact Tf272_b12 hd a0 (1 : Int32) I _ h
-- KernelGymModel.flags ()I
def f273 (kad : Nat → Nat) (N : Nat) (Z : AZ) (a0 : Nat) (I : AI) : Option (Int32 × AI) :=
  (pI Z I 11 0 a0 (0 : Int32)).bind fun I2_1 =>
  (isK Z a0 11).bind fun u6_2 =>
  (f272 kad N Z a0 I2_1).bind fun r6_3 =>
  some (r6_3.1, r6_3.2)
theorem Tf273 {kad : Nat → Nat} {N : Nat} {Z : AZ} {d : Nat} {t : Option Nat × (Nat × Nat)} (hd : 1 ≤ d) : ∀ (a0 : Nat) (I : AI) (r : Int32 × AI), f273 kad N Z a0 I = some r → aGo kad d 273 (0, ([(0, .ref a0)], [])) (aMem Z I, t) (qI Z t r) := by
  intro a0 I r h
  unfold f273 at h
  refine go_ops aMi273 2 _ (f1 := (2, ([(0, .ref a0)], [.int (0 : Int32), .ref a0]))) rfl ?_
  obtain ⟨I2_1, hxI2_1, h⟩ := Option.bind_eq_some_iff.mp h
  refine gg_pI aMi273 rfl rfl rfl rfl (by decide) hxI2_1 ?_
  refine go_ops aMi273 1 _ (f1 := (6, ([(0, .ref a0)], [.ref a0]))) rfl ?_
  obtain ⟨u6_2, hxu6_2, h⟩ := Option.bind_eq_some_iff.mp h
  obtain ⟨r6_3, hxr6_3, h⟩ := Option.bind_eq_some_iff.mp h
  refine gg_cv (as := []) (r := []) aMi273 rfl rfl rfl aMi272 (Nat.le_of_ble_eq_true rfl) rfl (Nat.le_of_ble_eq_true rfl) (Nat.le_of_ble_eq_true rfl) (by omega) hxu6_2 (Tf272 (by omega) a0 I2_1 _ hxr6_3) ?_
  show aGo kad d 273 (9, ([(0, .ref a0)], [.int r6_3.1])) (aMem Z r6_3.2, t) _
  cases h
  exact go_ret aMi273 rfl aRetI ⟨rfl, rfl⟩
-- KernelGymModel.writesLeft ()I
def f274 (kad : Nat → Nat) (N : Nat) (Z : AZ) (a0 : Nat) (I : AI) : Option (Int32 × AI) :=
  (pI Z I 11 0 a0 (0 : Int32)).bind fun I2_1 =>
  (gI Z I2_1 11 46 a0).bind fun x6_2 =>
  some (x6_2, I2_1)
theorem Tf274 {kad : Nat → Nat} {N : Nat} {Z : AZ} {d : Nat} {t : Option Nat × (Nat × Nat)} (hd : 0 ≤ d) : ∀ (a0 : Nat) (I : AI) (r : Int32 × AI), f274 kad N Z a0 I = some r → aGo kad d 274 (0, ([(0, .ref a0)], [])) (aMem Z I, t) (qI Z t r) := by
  intro a0 I r h
  unfold f274 at h
  refine go_ops aMi274 2 _ (f1 := (2, ([(0, .ref a0)], [.int (0 : Int32), .ref a0]))) rfl ?_
  obtain ⟨I2_1, hxI2_1, h⟩ := Option.bind_eq_some_iff.mp h
  refine gg_pI aMi274 rfl rfl rfl rfl (by decide) hxI2_1 ?_
  refine go_ops aMi274 1 _ (f1 := (6, ([(0, .ref a0)], [.ref a0]))) rfl ?_
  obtain ⟨x6_2, hxx6_2, h⟩ := Option.bind_eq_some_iff.mp h
  refine gg_gI aMi274 rfl rfl rfl hxx6_2 ?_
  cases h
  exact go_ret aMi274 rfl aRetI ⟨rfl, rfl⟩
-- KernelGymModel.register (I)I
def f275_b31 (kad : Nat → Nat) (N : Nat) (Z : AZ) (s0 : Int32) (I : AI) : Option (Int32 × AI) :=
  some (s0, I)
theorem Tf275_b31 {kad : Nat → Nat} {N : Nat} {Z : AZ} {d : Nat} {t : Option Nat × (Nat × Nat)} (hd : 1 ≤ d) : ∀ (s0 : Int32) (I : AI) (r : Int32 × AI), f275_b31 kad N Z s0 I = some r → aGo kad d 275 (31, ([], [.int s0])) (aMem Z I, t) (qI Z t r) := by
  intro s0 I r h
  unfold f275_b31 at h
  cases h
  exact go_ret aMi275 rfl aRetI ⟨rfl, rfl⟩
def f275_b15 (kad : Nat → Nat) (N : Nat) (Z : AZ) (a0 : Nat) (i1 : Int32) (s0 : Int32) (s1 : Nat) (I : AI) : Option (Int32 × AI) :=
  (isK Z s1 11).bind fun u15_1 =>
  (f185 kad N Z s1 s0 I).bind fun r15_2 =>
  if r15_2.1 = 0 then
    f275_b31 kad N Z (0 : Int32) r15_2.2
  else
    (gR Z r15_2.2 11 26 a0).bind fun b22_3 =>
    (lI Z r15_2.2 100 b22_3 i1).bind fun x26_4 =>
    f275_b31 kad N Z x26_4 r15_2.2
theorem Tf275_b15 {kad : Nat → Nat} {N : Nat} {Z : AZ} {d : Nat} {t : Option Nat × (Nat × Nat)} (hd : 1 ≤ d) : ∀ (a0 : Nat) (i1 : Int32) (s0 : Int32) (s1 : Nat) (I : AI) (r : Int32 × AI), f275_b15 kad N Z a0 i1 s0 s1 I = some r → aGo kad d 275 (15, ([(0, .ref a0), (1, .int i1)], [.int s0, .ref s1])) (aMem Z I, t) (qI Z t r) := by
  intro a0 i1 s0 s1 I r h
  unfold f275_b15 at h
  obtain ⟨u15_1, hxu15_1, h⟩ := Option.bind_eq_some_iff.mp h
  obtain ⟨r15_2, hxr15_2, h⟩ := Option.bind_eq_some_iff.mp h
  refine gg_cv (as := [.int s0]) (r := []) aMi275 rfl rfl rfl aMi185 (Nat.le_of_ble_eq_true rfl) rfl (Nat.le_of_ble_eq_true rfl) (Nat.le_of_ble_eq_true rfl) (by omega) hxu15_1 (Tf185 (by omega) s1 s0 I _ hxr15_2) ?_
  show aGo kad d 275 (18, ([(0, .ref a0), (1, .int i1)], [.int r15_2.1])) (aMem Z r15_2.2, t) _
  refine gg_br (b := decide (r15_2.1 = 0)) (tg := 30) (off := 12) aMi275 rfl rfl rfl rfl (fun hb => ?_) (fun hb => ?_)
  · rw [if_pos (of_decide_eq_true hb)] at h
    refine go_ops aMi275 1 _ (f1 := (31, ([(0, .ref a0), (1, .int i1)], [.int (0 : Int32)]))) rfl ?_
    refine go_le (lv1 := []) (aLe_of (show (List.map (fun q => q.1) ([] : ALv)).Nodup from (by show ([] : List Nat).Nodup; decide)) aSubL_nil) ?_
    exact Tf275_b31 hd (0 : Int32) r15_2.2 _ h
  · rw [if_neg (of_decide_eq_false hb)] at h
    refine go_ops aMi275 1 _ (f1 := (22, ([(0, .ref a0), (1, .int i1)], [.ref a0]))) rfl ?_
    obtain ⟨b22_3, hxb22_3, h⟩ := Option.bind_eq_some_iff.mp h
    refine gg_gR aMi275 rfl rfl rfl hxb22_3 ?_
    refine go_ops aMi275 1 _ (f1 := (26, ([(0, .ref a0), (1, .int i1)], [.int i1, .ref b22_3]))) rfl ?_
    obtain ⟨x26_4, hxx26_4, h⟩ := Option.bind_eq_some_iff.mp h
    refine gg_lI (Or.inl ⟨rfl, rfl⟩) aMi275 rfl hxx26_4 ?_
    refine go_ops aMi275 1 _ (f1 := (31, ([(0, .ref a0), (1, .int i1)], [.int x26_4]))) rfl ?_
    refine go_le (lv1 := []) (aLe_of (show (List.map (fun q => q.1) ([] : ALv)).Nodup from (by show ([] : List Nat).Nodup; decide)) aSubL_nil) ?_
    exact Tf275_b31 hd x26_4 r15_2.2 _ h
def f275 (kad : Nat → Nat) (N : Nat) (Z : AZ) (a0 : Nat) (i1 : Int32) (I : AI) : Option (Int32 × AI) :=
  (f186 kad N Z i1 (0 : Int32) (3 : Int32) I).bind fun r4_1 =>
  if r4_1.1 = 0 then
    f275_b15 kad N Z a0 i1 (1 : Int32) a0 r4_1.2
  else
    f275_b15 kad N Z a0 i1 (0 : Int32) a0 r4_1.2
theorem Tf275 {kad : Nat → Nat} {N : Nat} {Z : AZ} {d : Nat} {t : Option Nat × (Nat × Nat)} (hd : 1 ≤ d) : ∀ (a0 : Nat) (i1 : Int32) (I : AI) (r : Int32 × AI), f275 kad N Z a0 i1 I = some r → aGo kad d 275 (0, ([(0, .ref a0), (1, .int i1)], [])) (aMem Z I, t) (qI Z t r) := by
  intro a0 i1 I r h
  unfold f275 at h
  refine go_ops aMi275 4 _ (f1 := (4, ([(0, .ref a0), (1, .int i1)], [.int (3 : Int32), .int (0 : Int32), .int i1, .ref a0]))) rfl ?_
  obtain ⟨r4_1, hxr4_1, h⟩ := Option.bind_eq_some_iff.mp h
  refine gg_cs (as := [.int i1, .int (0 : Int32), .int (3 : Int32)]) (r := [.ref a0]) aMi275 rfl rfl rfl aMi186 rfl (Nat.le_of_ble_eq_true rfl) (Nat.le_of_ble_eq_true rfl) (by omega) (Tf186 (by omega) i1 (0 : Int32) (3 : Int32) I _ hxr4_1) ?_
  show aGo kad d 275 (7, ([(0, .ref a0), (1, .int i1)], [.int r4_1.1, .ref a0])) (aMem Z r4_1.2, t) _
  refine gg_br (b := decide (r4_1.1 = 0)) (tg := 14) (off := 7) aMi275 rfl rfl rfl rfl (fun hb => ?_) (fun hb => ?_)
  · rw [if_pos (of_decide_eq_true hb)] at h
    refine go_ops aMi275 1 _ (f1 := (15, ([(0, .ref a0), (1, .int i1)], [.int (1 : Int32), .ref a0]))) rfl ?_
    exact Tf275_b15 hd a0 i1 (1 : Int32) a0 r4_1.2 _ h
  · rw [if_neg (of_decide_eq_false hb)] at h
    refine go_ops aMi275 2 _ (f1 := (15, ([(0, .ref a0), (1, .int i1)], [.int (0 : Int32), .ref a0]))) rfl ?_
    exact Tf275_b15 hd a0 i1 (0 : Int32) a0 r4_1.2 _ h
-- KernelGymModel.isAddress (I)Z
def f276 (kad : Nat → Nat) (N : Nat) (Z : AZ) (i0 : Int32) (I : AI) : Option (Int32 × AI) :=
  (f186 kad N Z i0 (0 : Int32) (255 : Int32) I).bind fun r5_1 =>
  if r5_1.1 = 0 ∨ r5_1.1 = 1 then some (r5_1.1, r5_1.2) else none
theorem Tf276 {kad : Nat → Nat} {N : Nat} {Z : AZ} {d : Nat} {t : Option Nat × (Nat × Nat)} (hd : 1 ≤ d) : ∀ (i0 : Int32) (I : AI) (r : Int32 × AI), f276 kad N Z i0 I = some r → aGo kad d 276 (0, ([(0, .int i0)], [])) (aMem Z I, t) (qI Z t r) := by
  intro i0 I r h
  unfold f276 at h
  refine go_ops aMi276 3 _ (f1 := (5, ([(0, .int i0)], [.int (255 : Int32), .int (0 : Int32), .int i0]))) rfl ?_
  obtain ⟨r5_1, hxr5_1, h⟩ := Option.bind_eq_some_iff.mp h
  refine gg_cs (as := [.int i0, .int (0 : Int32), .int (255 : Int32)]) (r := []) aMi276 rfl rfl rfl aMi186 rfl (Nat.le_of_ble_eq_true rfl) (Nat.le_of_ble_eq_true rfl) (by omega) (Tf186 (by omega) i0 (0 : Int32) (255 : Int32) I _ hxr5_1) ?_
  show aGo kad d 276 (8, ([(0, .int i0)], [.int r5_1.1])) (aMem Z r5_1.2, t) _
  split at h
  · rename_i hz
    cases h
    exact go_ret aMi276 rfl (aRetZ hz) ⟨rfl, rfl⟩
  · cases h
-- KernelGymModel.memory (I)I
def f277_b29 (kad : Nat → Nat) (N : Nat) (Z : AZ) (s0 : Int32) (I : AI) : Option (Int32 × AI) :=
  some (s0, I)
theorem Tf277_b29 {kad : Nat → Nat} {N : Nat} {Z : AZ} {d : Nat} {t : Option Nat × (Nat × Nat)} (hd : 2 ≤ d) : ∀ (s0 : Int32) (I : AI) (r : Int32 × AI), f277_b29 kad N Z s0 I = some r → aGo kad d 277 (29, ([], [.int s0])) (aMem Z I, t) (qI Z t r) := by
  intro s0 I r h
  unfold f277_b29 at h
  cases h
  exact go_ret aMi277 rfl aRetI ⟨rfl, rfl⟩
def f277_b13 (kad : Nat → Nat) (N : Nat) (Z : AZ) (a0 : Nat) (i1 : Int32) (s0 : Int32) (s1 : Nat) (I : AI) : Option (Int32 × AI) :=
  (isK Z s1 11).bind fun u13_1 =>
  (f185 kad N Z s1 s0 I).bind fun r13_2 =>
  if r13_2.1 = 0 then
    f277_b29 kad N Z (0 : Int32) r13_2.2
  else
    (gR Z r13_2.2 11 25 a0).bind fun b20_3 =>
    (lI Z r13_2.2 100 b20_3 i1).bind fun x24_4 =>
    f277_b29 kad N Z x24_4 r13_2.2
theorem Tf277_b13 {kad : Nat → Nat} {N : Nat} {Z : AZ} {d : Nat} {t : Option Nat × (Nat × Nat)} (hd : 2 ≤ d) : ∀ (a0 : Nat) (i1 : Int32) (s0 : Int32) (s1 : Nat) (I : AI) (r : Int32 × AI), f277_b13 kad N Z a0 i1 s0 s1 I = some r → aGo kad d 277 (13, ([(0, .ref a0), (1, .int i1)], [.int s0, .ref s1])) (aMem Z I, t) (qI Z t r) := by
  intro a0 i1 s0 s1 I r h
  unfold f277_b13 at h
  obtain ⟨u13_1, hxu13_1, h⟩ := Option.bind_eq_some_iff.mp h
  obtain ⟨r13_2, hxr13_2, h⟩ := Option.bind_eq_some_iff.mp h
  refine gg_cv (as := [.int s0]) (r := []) aMi277 rfl rfl rfl aMi185 (Nat.le_of_ble_eq_true rfl) rfl (Nat.le_of_ble_eq_true rfl) (Nat.le_of_ble_eq_true rfl) (by omega) hxu13_1 (Tf185 (by omega) s1 s0 I _ hxr13_2) ?_
  show aGo kad d 277 (16, ([(0, .ref a0), (1, .int i1)], [.int r13_2.1])) (aMem Z r13_2.2, t) _
  refine gg_br (b := decide (r13_2.1 = 0)) (tg := 28) (off := 12) aMi277 rfl rfl rfl rfl (fun hb => ?_) (fun hb => ?_)
  · rw [if_pos (of_decide_eq_true hb)] at h
    refine go_ops aMi277 1 _ (f1 := (29, ([(0, .ref a0), (1, .int i1)], [.int (0 : Int32)]))) rfl ?_
    refine go_le (lv1 := []) (aLe_of (show (List.map (fun q => q.1) ([] : ALv)).Nodup from (by show ([] : List Nat).Nodup; decide)) aSubL_nil) ?_
    exact Tf277_b29 hd (0 : Int32) r13_2.2 _ h
  · rw [if_neg (of_decide_eq_false hb)] at h
    refine go_ops aMi277 1 _ (f1 := (20, ([(0, .ref a0), (1, .int i1)], [.ref a0]))) rfl ?_
    obtain ⟨b20_3, hxb20_3, h⟩ := Option.bind_eq_some_iff.mp h
    refine gg_gR aMi277 rfl rfl rfl hxb20_3 ?_
    refine go_ops aMi277 1 _ (f1 := (24, ([(0, .ref a0), (1, .int i1)], [.int i1, .ref b20_3]))) rfl ?_
    obtain ⟨x24_4, hxx24_4, h⟩ := Option.bind_eq_some_iff.mp h
    refine gg_lI (Or.inl ⟨rfl, rfl⟩) aMi277 rfl hxx24_4 ?_
    refine go_ops aMi277 1 _ (f1 := (29, ([(0, .ref a0), (1, .int i1)], [.int x24_4]))) rfl ?_
    refine go_le (lv1 := []) (aLe_of (show (List.map (fun q => q.1) ([] : ALv)).Nodup from (by show ([] : List Nat).Nodup; decide)) aSubL_nil) ?_
    exact Tf277_b29 hd x24_4 r13_2.2 _ h
def f277 (kad : Nat → Nat) (N : Nat) (Z : AZ) (a0 : Nat) (i1 : Int32) (I : AI) : Option (Int32 × AI) :=
  (f276 kad N Z i1 I).bind fun r2_1 =>
  if r2_1.1 = 0 then
    f277_b13 kad N Z a0 i1 (1 : Int32) a0 r2_1.2
  else
    f277_b13 kad N Z a0 i1 (0 : Int32) a0 r2_1.2
theorem Tf277 {kad : Nat → Nat} {N : Nat} {Z : AZ} {d : Nat} {t : Option Nat × (Nat × Nat)} (hd : 2 ≤ d) : ∀ (a0 : Nat) (i1 : Int32) (I : AI) (r : Int32 × AI), f277 kad N Z a0 i1 I = some r → aGo kad d 277 (0, ([(0, .ref a0), (1, .int i1)], [])) (aMem Z I, t) (qI Z t r) := by
  intro a0 i1 I r h
  unfold f277 at h
  refine go_ops aMi277 2 _ (f1 := (2, ([(0, .ref a0), (1, .int i1)], [.int i1, .ref a0]))) rfl ?_
  obtain ⟨r2_1, hxr2_1, h⟩ := Option.bind_eq_some_iff.mp h
  refine gg_cs (as := [.int i1]) (r := [.ref a0]) aMi277 rfl rfl rfl aMi276 rfl (Nat.le_of_ble_eq_true rfl) (Nat.le_of_ble_eq_true rfl) (by omega) (Tf276 (by omega) i1 I _ hxr2_1) ?_
  show aGo kad d 277 (5, ([(0, .ref a0), (1, .int i1)], [.int r2_1.1, .ref a0])) (aMem Z r2_1.2, t) _
  refine gg_br (b := decide (r2_1.1 = 0)) (tg := 12) (off := 7) aMi277 rfl rfl rfl rfl (fun hb => ?_) (fun hb => ?_)
  · rw [if_pos (of_decide_eq_true hb)] at h
    refine go_ops aMi277 1 _ (f1 := (13, ([(0, .ref a0), (1, .int i1)], [.int (1 : Int32), .ref a0]))) rfl ?_
    exact Tf277_b13 hd a0 i1 (1 : Int32) a0 r2_1.2 _ h
  · rw [if_neg (of_decide_eq_false hb)] at h
    refine go_ops aMi277 2 _ (f1 := (13, ([(0, .ref a0), (1, .int i1)], [.int (0 : Int32), .ref a0]))) rfl ?_
    exact Tf277_b13 hd a0 i1 (0 : Int32) a0 r2_1.2 _ h
-- KernelGymModel.changedAt (I)I
def f278_b61 (kad : Nat → Nat) (N : Nat) (Z : AZ) (i2 : Int32) (I : AI) : Option (Int32 × AI) :=
  some (i2, I)
theorem Tf278_b61 {kad : Nat → Nat} {N : Nat} {Z : AZ} {d : Nat} {t : Option Nat × (Nat × Nat)} (hd : 2 ≤ d) : ∀ (i2 : Int32) (I : AI) (r : Int32 × AI), f278_b61 kad N Z i2 I = some r → aGo kad d 278 (61, ([(2, .int i2)], [])) (aMem Z I, t) (qI Z t r) := by
  intro i2 I r h
  unfold f278_b61 at h
  refine go_ops aMi278 1 _ (f1 := (62, ([(2, .int i2)], [.int i2]))) rfl ?_
  cases h
  exact go_ret aMi278 rfl aRetI ⟨rfl, rfl⟩
def f278_b28 (kad : Nat → Nat) (N : Nat) (Z : AZ) : Nat → Nat → Int32 → Int32 → AI → Option (Int32 × AI)
  | 0, _, _, _, _ => none
  | F + 1, a0, i1, i2, I =>
    (gI Z I 11 38 a0).bind fun x30_1 =>
    (gI Z I 11 40 a0).bind fun x34_2 =>
    if i2 < (x30_1 - x34_2) then
      some ((Int32.ofInt (-1)), I)
    else
      (gR Z I 11 44 a0).bind fun b42_3 =>
      (lI Z I 100 b42_3 i2).bind fun x46_4 =>
      if x46_4 = i1 then
        f278_b61 kad N Z i2 I
      else
        (gR Z I 11 45 a0).bind fun b52_5 =>
        (lI Z I 100 b52_5 i2).bind fun x56_6 =>
        if ¬ x56_6 = i1 then
          f278_b28 kad N Z F a0 i1 (i2 + (Int32.ofInt (-1))) I
        else
          f278_b61 kad N Z i2 I
theorem Tf278_b28 {kad : Nat → Nat} {N : Nat} {Z : AZ} {d : Nat} {t : Option Nat × (Nat × Nat)} (hd : 2 ≤ d) : ∀ (F : Nat) (a0 : Nat) (i1 : Int32) (i2 : Int32) (I : AI) (r : Int32 × AI), f278_b28 kad N Z F a0 i1 i2 I = some r → aGo kad d 278 (28, ([(0, .ref a0), (1, .int i1), (2, .int i2)], [])) (aMem Z I, t) (qI Z t r) := by
  intro F
  induction F with
  | zero => intro a0 i1 i2 I r h; cases h
  | succ F ih =>
    intro a0 i1 i2 I r h
    unfold f278_b28 at h
    refine go_ops aMi278 2 _ (f1 := (30, ([(0, .ref a0), (1, .int i1), (2, .int i2)], [.ref a0, .int i2]))) rfl ?_
    obtain ⟨x30_1, hxx30_1, h⟩ := Option.bind_eq_some_iff.mp h
    refine gg_gI aMi278 rfl rfl rfl hxx30_1 ?_
    refine go_ops aMi278 1 _ (f1 := (34, ([(0, .ref a0), (1, .int i1), (2, .int i2)], [.ref a0, .int x30_1, .int i2]))) rfl ?_
    obtain ⟨x34_2, hxx34_2, h⟩ := Option.bind_eq_some_iff.mp h
    refine gg_gI aMi278 rfl rfl rfl hxx34_2 ?_
    refine go_ops aMi278 1 _ (f1 := (38, ([(0, .ref a0), (1, .int i1), (2, .int i2)], [.int (x30_1 - x34_2), .int i2]))) rfl ?_
    refine gg_br (b := decide (i2 < (x30_1 - x34_2))) (tg := 69) (off := 31) aMi278 rfl rfl rfl rfl (fun hb => ?_) (fun hb => ?_)
    · rw [if_pos (of_decide_eq_true hb)] at h
      refine go_ops aMi278 1 _ (f1 := (70, ([(0, .ref a0), (1, .int i1), (2, .int i2)], [.int (Int32.ofInt (-1))]))) rfl ?_
      cases h
      exact go_ret aMi278 rfl aRetI ⟨rfl, rfl⟩
    · rw [if_neg (of_decide_eq_false hb)] at h
      refine go_ops aMi278 1 _ (f1 := (42, ([(0, .ref a0), (1, .int i1), (2, .int i2)], [.ref a0]))) rfl ?_
      obtain ⟨b42_3, hxb42_3, h⟩ := Option.bind_eq_some_iff.mp h
      refine gg_gR aMi278 rfl rfl rfl hxb42_3 ?_
      refine go_ops aMi278 1 _ (f1 := (46, ([(0, .ref a0), (1, .int i1), (2, .int i2)], [.int i2, .ref b42_3]))) rfl ?_
      obtain ⟨x46_4, hxx46_4, h⟩ := Option.bind_eq_some_iff.mp h
      refine gg_lI (Or.inl ⟨rfl, rfl⟩) aMi278 rfl hxx46_4 ?_
      refine go_ops aMi278 1 _ (f1 := (48, ([(0, .ref a0), (1, .int i1), (2, .int i2)], [.int i1, .int x46_4]))) rfl ?_
      refine gg_br (b := decide (x46_4 = i1)) (tg := 61) (off := 13) aMi278 rfl rfl rfl rfl (fun hb => ?_) (fun hb => ?_)
      · rw [if_pos (of_decide_eq_true hb)] at h
        refine go_le (lv1 := [(2, .int i2)]) (aLe_of (show (List.map (fun q => q.1) ([(2, .int i2)] : ALv)).Nodup from (by show ([2] : List Nat).Nodup; decide)) (aSubL_cons rfl aSubL_nil)) ?_
        exact Tf278_b61 hd i2 I _ h
      · rw [if_neg (of_decide_eq_false hb)] at h
        refine go_ops aMi278 1 _ (f1 := (52, ([(0, .ref a0), (1, .int i1), (2, .int i2)], [.ref a0]))) rfl ?_
        obtain ⟨b52_5, hxb52_5, h⟩ := Option.bind_eq_some_iff.mp h
        refine gg_gR aMi278 rfl rfl rfl hxb52_5 ?_
        refine go_ops aMi278 1 _ (f1 := (56, ([(0, .ref a0), (1, .int i1), (2, .int i2)], [.int i2, .ref b52_5]))) rfl ?_
        obtain ⟨x56_6, hxx56_6, h⟩ := Option.bind_eq_some_iff.mp h
        refine gg_lI (Or.inl ⟨rfl, rfl⟩) aMi278 rfl hxx56_6 ?_
        refine go_ops aMi278 1 _ (f1 := (58, ([(0, .ref a0), (1, .int i1), (2, .int i2)], [.int i1, .int x56_6]))) rfl ?_
        refine gg_br (b := decide (¬ x56_6 = i1)) (tg := 63) (off := 5) aMi278 rfl rfl rfl rfl (fun hb => ?_) (fun hb => ?_)
        · rw [if_pos (of_decide_eq_true hb)] at h
          refine go_ops aMi278 2 _ (f1 := (28, ([(2, .int (i2 + (Int32.ofInt (-1)))), (0, .ref a0), (1, .int i1)], []))) rfl ?_
          refine go_le (lv1 := [(0, .ref a0), (1, .int i1), (2, .int (i2 + (Int32.ofInt (-1))))]) (aLe_of (show (List.map (fun q => q.1) ([(0, .ref a0), (1, .int i1), (2, .int (i2 + (Int32.ofInt (-1))))] : ALv)).Nodup from (by show ([0, 1, 2] : List Nat).Nodup; decide)) (aSubL_cons rfl (aSubL_cons rfl (aSubL_cons rfl aSubL_nil)))) ?_
          exact ih a0 i1 (i2 + (Int32.ofInt (-1))) I _ h
        · rw [if_neg (of_decide_eq_false hb)] at h
          refine go_le (lv1 := [(2, .int i2)]) (aLe_of (show (List.map (fun q => q.1) ([(2, .int i2)] : ALv)).Nodup from (by show ([2] : List Nat).Nodup; decide)) (aSubL_cons rfl aSubL_nil)) ?_
          exact Tf278_b61 hd i2 I _ h
def f278_b13 (kad : Nat → Nat) (N : Nat) (Z : AZ) (a0 : Nat) (i1 : Int32) (s0 : Int32) (s1 : Nat) (I : AI) : Option (Int32 × AI) :=
  (isK Z s1 11).bind fun u13_1 =>
  (f185 kad N Z s1 s0 I).bind fun r13_2 =>
  if ¬ r13_2.1 = 0 then
    (gI Z r13_2.2 11 38 a0).bind fun x22_3 =>
    f278_b28 kad N Z N a0 i1 (x22_3 - (1 : Int32)) r13_2.2
  else
    some ((0 : Int32), r13_2.2)
theorem Tf278_b13 {kad : Nat → Nat} {N : Nat} {Z : AZ} {d : Nat} {t : Option Nat × (Nat × Nat)} (hd : 2 ≤ d) : ∀ (a0 : Nat) (i1 : Int32) (s0 : Int32) (s1 : Nat) (I : AI) (r : Int32 × AI), f278_b13 kad N Z a0 i1 s0 s1 I = some r → aGo kad d 278 (13, ([(0, .ref a0), (1, .int i1)], [.int s0, .ref s1])) (aMem Z I, t) (qI Z t r) := by
  intro a0 i1 s0 s1 I r h
  unfold f278_b13 at h
  obtain ⟨u13_1, hxu13_1, h⟩ := Option.bind_eq_some_iff.mp h
  obtain ⟨r13_2, hxr13_2, h⟩ := Option.bind_eq_some_iff.mp h
  refine gg_cv (as := [.int s0]) (r := []) aMi278 rfl rfl rfl aMi185 (Nat.le_of_ble_eq_true rfl) rfl (Nat.le_of_ble_eq_true rfl) (Nat.le_of_ble_eq_true rfl) (by omega) hxu13_1 (Tf185 (by omega) s1 s0 I _ hxr13_2) ?_
  show aGo kad d 278 (16, ([(0, .ref a0), (1, .int i1)], [.int r13_2.1])) (aMem Z r13_2.2, t) _
  refine gg_br (b := decide (¬ r13_2.1 = 0)) (tg := 21) (off := 5) aMi278 rfl rfl rfl rfl (fun hb => ?_) (fun hb => ?_)
  · rw [if_pos (of_decide_eq_true hb)] at h
    refine go_ops aMi278 1 _ (f1 := (22, ([(0, .ref a0), (1, .int i1)], [.ref a0]))) rfl ?_
    obtain ⟨x22_3, hxx22_3, h⟩ := Option.bind_eq_some_iff.mp h
    refine gg_gI aMi278 rfl rfl rfl hxx22_3 ?_
    refine go_ops aMi278 3 _ (f1 := (28, ([(2, .int (x22_3 - (1 : Int32))), (0, .ref a0), (1, .int i1)], []))) rfl ?_
    refine go_le (lv1 := [(0, .ref a0), (1, .int i1), (2, .int (x22_3 - (1 : Int32)))]) (aLe_of (show (List.map (fun q => q.1) ([(0, .ref a0), (1, .int i1), (2, .int (x22_3 - (1 : Int32)))] : ALv)).Nodup from (by show ([0, 1, 2] : List Nat).Nodup; decide)) (aSubL_cons rfl (aSubL_cons rfl (aSubL_cons rfl aSubL_nil)))) ?_
    exact Tf278_b28 hd N a0 i1 (x22_3 - (1 : Int32)) r13_2.2 _ h
  · rw [if_neg (of_decide_eq_false hb)] at h
    refine go_ops aMi278 1 _ (f1 := (20, ([(0, .ref a0), (1, .int i1)], [.int (0 : Int32)]))) rfl ?_
    cases h
    exact go_ret aMi278 rfl aRetI ⟨rfl, rfl⟩
def f278 (kad : Nat → Nat) (N : Nat) (Z : AZ) (a0 : Nat) (i1 : Int32) (I : AI) : Option (Int32 × AI) :=
  (f276 kad N Z i1 I).bind fun r2_1 =>
  if r2_1.1 = 0 then
    f278_b13 kad N Z a0 i1 (1 : Int32) a0 r2_1.2
  else
    f278_b13 kad N Z a0 i1 (0 : Int32) a0 r2_1.2
theorem Tf278 {kad : Nat → Nat} {N : Nat} {Z : AZ} {d : Nat} {t : Option Nat × (Nat × Nat)} (hd : 2 ≤ d) : ∀ (a0 : Nat) (i1 : Int32) (I : AI) (r : Int32 × AI), f278 kad N Z a0 i1 I = some r → aGo kad d 278 (0, ([(0, .ref a0), (1, .int i1)], [])) (aMem Z I, t) (qI Z t r) := by
  intro a0 i1 I r h
  unfold f278 at h
  refine go_ops aMi278 2 _ (f1 := (2, ([(0, .ref a0), (1, .int i1)], [.int i1, .ref a0]))) rfl ?_
  obtain ⟨r2_1, hxr2_1, h⟩ := Option.bind_eq_some_iff.mp h
  refine gg_cs (as := [.int i1]) (r := [.ref a0]) aMi278 rfl rfl rfl aMi276 rfl (Nat.le_of_ble_eq_true rfl) (Nat.le_of_ble_eq_true rfl) (by omega) (Tf276 (by omega) i1 I _ hxr2_1) ?_
  show aGo kad d 278 (5, ([(0, .ref a0), (1, .int i1)], [.int r2_1.1, .ref a0])) (aMem Z r2_1.2, t) _
  refine gg_br (b := decide (r2_1.1 = 0)) (tg := 12) (off := 7) aMi278 rfl rfl rfl rfl (fun hb => ?_) (fun hb => ?_)
  · rw [if_pos (of_decide_eq_true hb)] at h
    refine go_ops aMi278 1 _ (f1 := (13, ([(0, .ref a0), (1, .int i1)], [.int (1 : Int32), .ref a0]))) rfl ?_
    exact Tf278_b13 hd a0 i1 (1 : Int32) a0 r2_1.2 _ h
  · rw [if_neg (of_decide_eq_false hb)] at h
    refine go_ops aMi278 2 _ (f1 := (13, ([(0, .ref a0), (1, .int i1)], [.int (0 : Int32), .ref a0]))) rfl ?_
    exact Tf278_b13 hd a0 i1 (0 : Int32) a0 r2_1.2 _ h
-- KernelGymModel.tape ()I
def f279 (kad : Nat → Nat) (N : Nat) (Z : AZ) (a0 : Nat) (I : AI) : Option (Int32 × AI) :=
  (pI Z I 11 0 a0 (0 : Int32)).bind fun I2_1 =>
  (gI Z I2_1 11 37 a0).bind fun x6_2 =>
  some (x6_2, I2_1)
theorem Tf279 {kad : Nat → Nat} {N : Nat} {Z : AZ} {d : Nat} {t : Option Nat × (Nat × Nat)} (hd : 0 ≤ d) : ∀ (a0 : Nat) (I : AI) (r : Int32 × AI), f279 kad N Z a0 I = some r → aGo kad d 279 (0, ([(0, .ref a0)], [])) (aMem Z I, t) (qI Z t r) := by
  intro a0 I r h
  unfold f279 at h
  refine go_ops aMi279 2 _ (f1 := (2, ([(0, .ref a0)], [.int (0 : Int32), .ref a0]))) rfl ?_
  obtain ⟨I2_1, hxI2_1, h⟩ := Option.bind_eq_some_iff.mp h
  refine gg_pI aMi279 rfl rfl rfl rfl (by decide) hxI2_1 ?_
  refine go_ops aMi279 1 _ (f1 := (6, ([(0, .ref a0)], [.ref a0]))) rfl ?_
  obtain ⟨x6_2, hxx6_2, h⟩ := Option.bind_eq_some_iff.mp h
  refine gg_gI aMi279 rfl rfl rfl hxx6_2 ?_
  cases h
  exact go_ret aMi279 rfl aRetI ⟨rfl, rfl⟩
-- KernelGymModel.tapeAt (I)I
def f280_b36 (kad : Nat → Nat) (N : Nat) (Z : AZ) (s0 : Int32) (I : AI) : Option (Int32 × AI) :=
  some (s0, I)
theorem Tf280_b36 {kad : Nat → Nat} {N : Nat} {Z : AZ} {d : Nat} {t : Option Nat × (Nat × Nat)} (hd : 1 ≤ d) : ∀ (s0 : Int32) (I : AI) (r : Int32 × AI), f280_b36 kad N Z s0 I = some r → aGo kad d 280 (36, ([], [.int s0])) (aMem Z I, t) (qI Z t r) := by
  intro s0 I r h
  unfold f280_b36 at h
  cases h
  exact go_ret aMi280 rfl aRetI ⟨rfl, rfl⟩
def f280_b20 (kad : Nat → Nat) (N : Nat) (Z : AZ) (a0 : Nat) (i1 : Int32) (s0 : Int32) (s1 : Nat) (I : AI) : Option (Int32 × AI) :=
  (isK Z s1 11).bind fun u20_1 =>
  (f185 kad N Z s1 s0 I).bind fun r20_2 =>
  if r20_2.1 = 0 then
    f280_b36 kad N Z (0 : Int32) r20_2.2
  else
    (gR Z r20_2.2 11 36 a0).bind fun b27_3 =>
    (lI Z r20_2.2 100 b27_3 i1).bind fun x31_4 =>
    f280_b36 kad N Z x31_4 r20_2.2
theorem Tf280_b20 {kad : Nat → Nat} {N : Nat} {Z : AZ} {d : Nat} {t : Option Nat × (Nat × Nat)} (hd : 1 ≤ d) : ∀ (a0 : Nat) (i1 : Int32) (s0 : Int32) (s1 : Nat) (I : AI) (r : Int32 × AI), f280_b20 kad N Z a0 i1 s0 s1 I = some r → aGo kad d 280 (20, ([(0, .ref a0), (1, .int i1)], [.int s0, .ref s1])) (aMem Z I, t) (qI Z t r) := by
  intro a0 i1 s0 s1 I r h
  unfold f280_b20 at h
  obtain ⟨u20_1, hxu20_1, h⟩ := Option.bind_eq_some_iff.mp h
  obtain ⟨r20_2, hxr20_2, h⟩ := Option.bind_eq_some_iff.mp h
  refine gg_cv (as := [.int s0]) (r := []) aMi280 rfl rfl rfl aMi185 (Nat.le_of_ble_eq_true rfl) rfl (Nat.le_of_ble_eq_true rfl) (Nat.le_of_ble_eq_true rfl) (by omega) hxu20_1 (Tf185 (by omega) s1 s0 I _ hxr20_2) ?_
  show aGo kad d 280 (23, ([(0, .ref a0), (1, .int i1)], [.int r20_2.1])) (aMem Z r20_2.2, t) _
  refine gg_br (b := decide (r20_2.1 = 0)) (tg := 35) (off := 12) aMi280 rfl rfl rfl rfl (fun hb => ?_) (fun hb => ?_)
  · rw [if_pos (of_decide_eq_true hb)] at h
    refine go_ops aMi280 1 _ (f1 := (36, ([(0, .ref a0), (1, .int i1)], [.int (0 : Int32)]))) rfl ?_
    refine go_le (lv1 := []) (aLe_of (show (List.map (fun q => q.1) ([] : ALv)).Nodup from (by show ([] : List Nat).Nodup; decide)) aSubL_nil) ?_
    exact Tf280_b36 hd (0 : Int32) r20_2.2 _ h
  · rw [if_neg (of_decide_eq_false hb)] at h
    refine go_ops aMi280 1 _ (f1 := (27, ([(0, .ref a0), (1, .int i1)], [.ref a0]))) rfl ?_
    obtain ⟨b27_3, hxb27_3, h⟩ := Option.bind_eq_some_iff.mp h
    refine gg_gR aMi280 rfl rfl rfl hxb27_3 ?_
    refine go_ops aMi280 1 _ (f1 := (31, ([(0, .ref a0), (1, .int i1)], [.int i1, .ref b27_3]))) rfl ?_
    obtain ⟨x31_4, hxx31_4, h⟩ := Option.bind_eq_some_iff.mp h
    refine gg_lI (Or.inl ⟨rfl, rfl⟩) aMi280 rfl hxx31_4 ?_
    refine go_ops aMi280 1 _ (f1 := (36, ([(0, .ref a0), (1, .int i1)], [.int x31_4]))) rfl ?_
    refine go_le (lv1 := []) (aLe_of (show (List.map (fun q => q.1) ([] : ALv)).Nodup from (by show ([] : List Nat).Nodup; decide)) aSubL_nil) ?_
    exact Tf280_b36 hd x31_4 r20_2.2 _ h
def f280 (kad : Nat → Nat) (N : Nat) (Z : AZ) (a0 : Nat) (i1 : Int32) (I : AI) : Option (Int32 × AI) :=
  (gI Z I 11 37 a0).bind fun x4_1 =>
  (f186 kad N Z i1 (0 : Int32) (x4_1 - (1 : Int32)) I).bind fun r9_2 =>
  if r9_2.1 = 0 then
    f280_b20 kad N Z a0 i1 (1 : Int32) a0 r9_2.2
  else
    f280_b20 kad N Z a0 i1 (0 : Int32) a0 r9_2.2
theorem Tf280 {kad : Nat → Nat} {N : Nat} {Z : AZ} {d : Nat} {t : Option Nat × (Nat × Nat)} (hd : 1 ≤ d) : ∀ (a0 : Nat) (i1 : Int32) (I : AI) (r : Int32 × AI), f280 kad N Z a0 i1 I = some r → aGo kad d 280 (0, ([(0, .ref a0), (1, .int i1)], [])) (aMem Z I, t) (qI Z t r) := by
  intro a0 i1 I r h
  unfold f280 at h
  refine go_ops aMi280 4 _ (f1 := (4, ([(0, .ref a0), (1, .int i1)], [.ref a0, .int (0 : Int32), .int i1, .ref a0]))) rfl ?_
  obtain ⟨x4_1, hxx4_1, h⟩ := Option.bind_eq_some_iff.mp h
  refine gg_gI aMi280 rfl rfl rfl hxx4_1 ?_
  refine go_ops aMi280 2 _ (f1 := (9, ([(0, .ref a0), (1, .int i1)], [.int (x4_1 - (1 : Int32)), .int (0 : Int32), .int i1, .ref a0]))) rfl ?_
  obtain ⟨r9_2, hxr9_2, h⟩ := Option.bind_eq_some_iff.mp h
  refine gg_cs (as := [.int i1, .int (0 : Int32), .int (x4_1 - (1 : Int32))]) (r := [.ref a0]) aMi280 rfl rfl rfl aMi186 rfl (Nat.le_of_ble_eq_true rfl) (Nat.le_of_ble_eq_true rfl) (by omega) (Tf186 (by omega) i1 (0 : Int32) (x4_1 - (1 : Int32)) I _ hxr9_2) ?_
  show aGo kad d 280 (12, ([(0, .ref a0), (1, .int i1)], [.int r9_2.1, .ref a0])) (aMem Z r9_2.2, t) _
  refine gg_br (b := decide (r9_2.1 = 0)) (tg := 19) (off := 7) aMi280 rfl rfl rfl rfl (fun hb => ?_) (fun hb => ?_)
  · rw [if_pos (of_decide_eq_true hb)] at h
    refine go_ops aMi280 1 _ (f1 := (20, ([(0, .ref a0), (1, .int i1)], [.int (1 : Int32), .ref a0]))) rfl ?_
    exact Tf280_b20 hd a0 i1 (1 : Int32) a0 r9_2.2 _ h
  · rw [if_neg (of_decide_eq_false hb)] at h
    refine go_ops aMi280 2 _ (f1 := (20, ([(0, .ref a0), (1, .int i1)], [.int (0 : Int32), .ref a0]))) rfl ?_
    exact Tf280_b20 hd a0 i1 (0 : Int32) a0 r9_2.2 _ h
-- KernelGymModel.added (II)I
def f281 (kad : Nat → Nat) (N : Nat) (Z : AZ) (i0 : Int32) (i1 : Int32) (I : AI) : Option (Int32 × AI) :=
  some ((((((31 : Int64) * (i0.toInt64)) + (i1.toInt64)) - (((31 : Int64) * (i0.toInt64)) + (i1.toInt64)) / (1000003 : Int64) * (1000003 : Int64)).toInt32), I)
theorem Tf281 {kad : Nat → Nat} {N : Nat} {Z : AZ} {d : Nat} {t : Option Nat × (Nat × Nat)} (hd : 0 ≤ d) : ∀ (i0 : Int32) (i1 : Int32) (I : AI) (r : Int32 × AI), f281 kad N Z i0 i1 I = some r → aGo kad d 281 (0, ([(0, .int i0), (1, .int i1)], [])) (aMem Z I, t) (qI Z t r) := by
  intro i0 i1 I r h
  unfold f281 at h
  refine gg_kL aMi281 rfl rfl ?_
  refine go_ops aMi281 6 _ (f1 := (9, ([(0, .int i0), (1, .int i1)], [.long (((31 : Int64) * (i0.toInt64)) + (i1.toInt64))]))) rfl ?_
  refine gg_kL aMi281 rfl rfl ?_
  refine go_ops aMi281 2 _ (f1 := (14, ([(0, .int i0), (1, .int i1)], [.int (((((31 : Int64) * (i0.toInt64)) + (i1.toInt64)) - (((31 : Int64) * (i0.toInt64)) + (i1.toInt64)) / (1000003 : Int64) * (1000003 : Int64)).toInt32)]))) rfl ?_
  cases h
  exact go_ret aMi281 rfl aRetI ⟨rfl, rfl⟩
-- KernelGymModel.sumOf ()I
def f282_b157 (kad : Nat → Nat) (N : Nat) (Z : AZ) : Nat → Nat → Int32 → Int32 → AI → Option (Int32 × AI)
  | 0, _, _, _, _ => none
  | F + 1, a0, i1, i2, I =>
    (gI Z I 11 37 a0).bind fun x159_1 =>
    if x159_1 ≤ i2 then
      some (i1, I)
    else
      (gR Z I 11 36 a0).bind fun b167_2 =>
      (lI Z I 100 b167_2 i2).bind fun x171_3 =>
      (f281 kad N Z i1 x171_3 I).bind fun r172_4 =>
      f282_b157 kad N Z F a0 r172_4.1 (i2 + (1 : Int32)) r172_4.2
theorem Tf282_b157 {kad : Nat → Nat} {N : Nat} {Z : AZ} {d : Nat} {t : Option Nat × (Nat × Nat)} (hd : 1 ≤ d) : ∀ (F : Nat) (a0 : Nat) (i1 : Int32) (i2 : Int32) (I : AI) (r : Int32 × AI), f282_b157 kad N Z F a0 i1 i2 I = some r → aGo kad d 282 (157, ([(0, .ref a0), (1, .int i1), (2, .int i2)], [])) (aMem Z I, t) (qI Z t r) := by
  intro F
  induction F with
  | zero => intro a0 i1 i2 I r h; cases h
  | succ F ih =>
    intro a0 i1 i2 I r h
    unfold f282_b157 at h
    refine go_ops aMi282 2 _ (f1 := (159, ([(0, .ref a0), (1, .int i1), (2, .int i2)], [.ref a0, .int i2]))) rfl ?_
    obtain ⟨x159_1, hxx159_1, h⟩ := Option.bind_eq_some_iff.mp h
    refine gg_gI aMi282 rfl rfl rfl hxx159_1 ?_
    refine gg_br (b := decide (x159_1 ≤ i2)) (tg := 182) (off := 20) aMi282 rfl rfl rfl rfl (fun hb => ?_) (fun hb => ?_)
    · rw [if_pos (of_decide_eq_true hb)] at h
      refine go_ops aMi282 1 _ (f1 := (183, ([(0, .ref a0), (1, .int i1), (2, .int i2)], [.int i1]))) rfl ?_
      cases h
      exact go_ret aMi282 rfl aRetI ⟨rfl, rfl⟩
    · rw [if_neg (of_decide_eq_false hb)] at h
      refine go_ops aMi282 2 _ (f1 := (167, ([(0, .ref a0), (1, .int i1), (2, .int i2)], [.ref a0, .int i1]))) rfl ?_
      obtain ⟨b167_2, hxb167_2, h⟩ := Option.bind_eq_some_iff.mp h
      refine gg_gR aMi282 rfl rfl rfl hxb167_2 ?_
      refine go_ops aMi282 1 _ (f1 := (171, ([(0, .ref a0), (1, .int i1), (2, .int i2)], [.int i2, .ref b167_2, .int i1]))) rfl ?_
      obtain ⟨x171_3, hxx171_3, h⟩ := Option.bind_eq_some_iff.mp h
      refine gg_lI (Or.inl ⟨rfl, rfl⟩) aMi282 rfl hxx171_3 ?_
      obtain ⟨r172_4, hxr172_4, h⟩ := Option.bind_eq_some_iff.mp h
      refine gg_cs (as := [.int i1, .int x171_3]) (r := []) aMi282 rfl rfl rfl aMi281 rfl (Nat.le_of_ble_eq_true rfl) (Nat.le_of_ble_eq_true rfl) (by omega) (Tf281 (by omega) i1 x171_3 I _ hxr172_4) ?_
      show aGo kad d 282 (175, ([(0, .ref a0), (1, .int i1), (2, .int i2)], [.int r172_4.1])) (aMem Z r172_4.2, t) _
      refine go_ops aMi282 3 _ (f1 := (157, ([(2, .int (i2 + (1 : Int32))), (1, .int r172_4.1), (0, .ref a0)], []))) rfl ?_
      refine go_le (lv1 := [(0, .ref a0), (1, .int r172_4.1), (2, .int (i2 + (1 : Int32)))]) (aLe_of (show (List.map (fun q => q.1) ([(0, .ref a0), (1, .int r172_4.1), (2, .int (i2 + (1 : Int32)))] : ALv)).Nodup from (by show ([0, 1, 2] : List Nat).Nodup; decide)) (aSubL_cons rfl (aSubL_cons rfl (aSubL_cons rfl aSubL_nil)))) ?_
      exact ih a0 r172_4.1 (i2 + (1 : Int32)) r172_4.2 _ h
def f282_b122 (kad : Nat → Nat) (N : Nat) (Z : AZ) : Nat → Nat → Int32 → Int32 → AI → Option (Int32 × AI)
  | 0, _, _, _, _ => none
  | F + 1, a0, i1, i2, I =>
    if (256 : Int32) ≤ i2 then
      (gI Z I 11 37 a0).bind fun x148_1 =>
      (f281 kad N Z i1 x148_1 I).bind fun r151_2 =>
      f282_b157 kad N Z N a0 r151_2.1 (0 : Int32) r151_2.2
    else
      (gR Z I 11 50 a0).bind fun b131_3 =>
      (lI Z I 100 b131_3 i2).bind fun x135_4 =>
      (f281 kad N Z i1 x135_4 I).bind fun r136_5 =>
      f282_b122 kad N Z F a0 r136_5.1 (i2 + (1 : Int32)) r136_5.2
theorem Tf282_b122 {kad : Nat → Nat} {N : Nat} {Z : AZ} {d : Nat} {t : Option Nat × (Nat × Nat)} (hd : 1 ≤ d) : ∀ (F : Nat) (a0 : Nat) (i1 : Int32) (i2 : Int32) (I : AI) (r : Int32 × AI), f282_b122 kad N Z F a0 i1 i2 I = some r → aGo kad d 282 (122, ([(0, .ref a0), (1, .int i1), (2, .int i2)], [])) (aMem Z I, t) (qI Z t r) := by
  intro F
  induction F with
  | zero => intro a0 i1 i2 I r h; cases h
  | succ F ih =>
    intro a0 i1 i2 I r h
    unfold f282_b122 at h
    refine go_ops aMi282 2 _ (f1 := (126, ([(0, .ref a0), (1, .int i1), (2, .int i2)], [.int (256 : Int32), .int i2]))) rfl ?_
    refine gg_br (b := decide ((256 : Int32) ≤ i2)) (tg := 146) (off := 20) aMi282 rfl rfl rfl rfl (fun hb => ?_) (fun hb => ?_)
    · rw [if_pos (of_decide_eq_true hb)] at h
      refine go_ops aMi282 2 _ (f1 := (148, ([(0, .ref a0), (1, .int i1), (2, .int i2)], [.ref a0, .int i1]))) rfl ?_
      obtain ⟨x148_1, hxx148_1, h⟩ := Option.bind_eq_some_iff.mp h
      refine gg_gI aMi282 rfl rfl rfl hxx148_1 ?_
      obtain ⟨r151_2, hxr151_2, h⟩ := Option.bind_eq_some_iff.mp h
      refine gg_cs (as := [.int i1, .int x148_1]) (r := []) aMi282 rfl rfl rfl aMi281 rfl (Nat.le_of_ble_eq_true rfl) (Nat.le_of_ble_eq_true rfl) (by omega) (Tf281 (by omega) i1 x148_1 I _ hxr151_2) ?_
      show aGo kad d 282 (154, ([(0, .ref a0), (1, .int i1), (2, .int i2)], [.int r151_2.1])) (aMem Z r151_2.2, t) _
      refine go_ops aMi282 3 _ (f1 := (157, ([(2, .int (0 : Int32)), (1, .int r151_2.1), (0, .ref a0)], []))) rfl ?_
      refine go_le (lv1 := [(0, .ref a0), (1, .int r151_2.1), (2, .int (0 : Int32))]) (aLe_of (show (List.map (fun q => q.1) ([(0, .ref a0), (1, .int r151_2.1), (2, .int (0 : Int32))] : ALv)).Nodup from (by show ([0, 1, 2] : List Nat).Nodup; decide)) (aSubL_cons rfl (aSubL_cons rfl (aSubL_cons rfl aSubL_nil)))) ?_
      exact Tf282_b157 hd N a0 r151_2.1 (0 : Int32) r151_2.2 _ h
    · rw [if_neg (of_decide_eq_false hb)] at h
      refine go_ops aMi282 2 _ (f1 := (131, ([(0, .ref a0), (1, .int i1), (2, .int i2)], [.ref a0, .int i1]))) rfl ?_
      obtain ⟨b131_3, hxb131_3, h⟩ := Option.bind_eq_some_iff.mp h
      refine gg_gR aMi282 rfl rfl rfl hxb131_3 ?_
      refine go_ops aMi282 1 _ (f1 := (135, ([(0, .ref a0), (1, .int i1), (2, .int i2)], [.int i2, .ref b131_3, .int i1]))) rfl ?_
      obtain ⟨x135_4, hxx135_4, h⟩ := Option.bind_eq_some_iff.mp h
      refine gg_lI (Or.inl ⟨rfl, rfl⟩) aMi282 rfl hxx135_4 ?_
      obtain ⟨r136_5, hxr136_5, h⟩ := Option.bind_eq_some_iff.mp h
      refine gg_cs (as := [.int i1, .int x135_4]) (r := []) aMi282 rfl rfl rfl aMi281 rfl (Nat.le_of_ble_eq_true rfl) (Nat.le_of_ble_eq_true rfl) (by omega) (Tf281 (by omega) i1 x135_4 I _ hxr136_5) ?_
      show aGo kad d 282 (139, ([(0, .ref a0), (1, .int i1), (2, .int i2)], [.int r136_5.1])) (aMem Z r136_5.2, t) _
      refine go_ops aMi282 3 _ (f1 := (122, ([(2, .int (i2 + (1 : Int32))), (1, .int r136_5.1), (0, .ref a0)], []))) rfl ?_
      refine go_le (lv1 := [(0, .ref a0), (1, .int r136_5.1), (2, .int (i2 + (1 : Int32)))]) (aLe_of (show (List.map (fun q => q.1) ([(0, .ref a0), (1, .int r136_5.1), (2, .int (i2 + (1 : Int32)))] : ALv)).Nodup from (by show ([0, 1, 2] : List Nat).Nodup; decide)) (aSubL_cons rfl (aSubL_cons rfl (aSubL_cons rfl aSubL_nil)))) ?_
      exact ih a0 r136_5.1 (i2 + (1 : Int32)) r136_5.2 _ h
def f282_b96 (kad : Nat → Nat) (N : Nat) (Z : AZ) : Nat → Nat → Int32 → Int32 → AI → Option (Int32 × AI)
  | 0, _, _, _, _ => none
  | F + 1, a0, i1, i2, I =>
    if (256 : Int32) ≤ i2 then
      f282_b122 kad N Z N a0 i1 (0 : Int32) I
    else
      (gR Z I 11 25 a0).bind fun b105_1 =>
      (lI Z I 100 b105_1 i2).bind fun x109_2 =>
      (f281 kad N Z i1 x109_2 I).bind fun r110_3 =>
      f282_b96 kad N Z F a0 r110_3.1 (i2 + (1 : Int32)) r110_3.2
theorem Tf282_b96 {kad : Nat → Nat} {N : Nat} {Z : AZ} {d : Nat} {t : Option Nat × (Nat × Nat)} (hd : 1 ≤ d) : ∀ (F : Nat) (a0 : Nat) (i1 : Int32) (i2 : Int32) (I : AI) (r : Int32 × AI), f282_b96 kad N Z F a0 i1 i2 I = some r → aGo kad d 282 (96, ([(0, .ref a0), (1, .int i1), (2, .int i2)], [])) (aMem Z I, t) (qI Z t r) := by
  intro F
  induction F with
  | zero => intro a0 i1 i2 I r h; cases h
  | succ F ih =>
    intro a0 i1 i2 I r h
    unfold f282_b96 at h
    refine go_ops aMi282 2 _ (f1 := (100, ([(0, .ref a0), (1, .int i1), (2, .int i2)], [.int (256 : Int32), .int i2]))) rfl ?_
    refine gg_br (b := decide ((256 : Int32) ≤ i2)) (tg := 120) (off := 20) aMi282 rfl rfl rfl rfl (fun hb => ?_) (fun hb => ?_)
    · rw [if_pos (of_decide_eq_true hb)] at h
      refine go_ops aMi282 2 _ (f1 := (122, ([(2, .int (0 : Int32)), (0, .ref a0), (1, .int i1)], []))) rfl ?_
      refine go_le (lv1 := [(0, .ref a0), (1, .int i1), (2, .int (0 : Int32))]) (aLe_of (show (List.map (fun q => q.1) ([(0, .ref a0), (1, .int i1), (2, .int (0 : Int32))] : ALv)).Nodup from (by show ([0, 1, 2] : List Nat).Nodup; decide)) (aSubL_cons rfl (aSubL_cons rfl (aSubL_cons rfl aSubL_nil)))) ?_
      exact Tf282_b122 hd N a0 i1 (0 : Int32) I _ h
    · rw [if_neg (of_decide_eq_false hb)] at h
      refine go_ops aMi282 2 _ (f1 := (105, ([(0, .ref a0), (1, .int i1), (2, .int i2)], [.ref a0, .int i1]))) rfl ?_
      obtain ⟨b105_1, hxb105_1, h⟩ := Option.bind_eq_some_iff.mp h
      refine gg_gR aMi282 rfl rfl rfl hxb105_1 ?_
      refine go_ops aMi282 1 _ (f1 := (109, ([(0, .ref a0), (1, .int i1), (2, .int i2)], [.int i2, .ref b105_1, .int i1]))) rfl ?_
      obtain ⟨x109_2, hxx109_2, h⟩ := Option.bind_eq_some_iff.mp h
      refine gg_lI (Or.inl ⟨rfl, rfl⟩) aMi282 rfl hxx109_2 ?_
      obtain ⟨r110_3, hxr110_3, h⟩ := Option.bind_eq_some_iff.mp h
      refine gg_cs (as := [.int i1, .int x109_2]) (r := []) aMi282 rfl rfl rfl aMi281 rfl (Nat.le_of_ble_eq_true rfl) (Nat.le_of_ble_eq_true rfl) (by omega) (Tf281 (by omega) i1 x109_2 I _ hxr110_3) ?_
      show aGo kad d 282 (113, ([(0, .ref a0), (1, .int i1), (2, .int i2)], [.int r110_3.1])) (aMem Z r110_3.2, t) _
      refine go_ops aMi282 3 _ (f1 := (96, ([(2, .int (i2 + (1 : Int32))), (1, .int r110_3.1), (0, .ref a0)], []))) rfl ?_
      refine go_le (lv1 := [(0, .ref a0), (1, .int r110_3.1), (2, .int (i2 + (1 : Int32)))]) (aLe_of (show (List.map (fun q => q.1) ([(0, .ref a0), (1, .int r110_3.1), (2, .int (i2 + (1 : Int32)))] : ALv)).Nodup from (by show ([0, 1, 2] : List Nat).Nodup; decide)) (aSubL_cons rfl (aSubL_cons rfl (aSubL_cons rfl aSubL_nil)))) ?_
      exact ih a0 r110_3.1 (i2 + (1 : Int32)) r110_3.2 _ h
def f282_b63 (kad : Nat → Nat) (N : Nat) (Z : AZ) : Nat → Nat → Int32 → Int32 → AI → Option (Int32 × AI)
  | 0, _, _, _, _ => none
  | F + 1, a0, i1, i2, I =>
    if (4 : Int32) ≤ i2 then
      (gI Z I 11 46 a0).bind fun x87_1 =>
      (f281 kad N Z i1 x87_1 I).bind fun r90_2 =>
      f282_b96 kad N Z N a0 r90_2.1 (0 : Int32) r90_2.2
    else
      (gR Z I 11 26 a0).bind fun b70_3 =>
      (lI Z I 100 b70_3 i2).bind fun x74_4 =>
      (f281 kad N Z i1 x74_4 I).bind fun r75_5 =>
      f282_b63 kad N Z F a0 r75_5.1 (i2 + (1 : Int32)) r75_5.2
theorem Tf282_b63 {kad : Nat → Nat} {N : Nat} {Z : AZ} {d : Nat} {t : Option Nat × (Nat × Nat)} (hd : 1 ≤ d) : ∀ (F : Nat) (a0 : Nat) (i1 : Int32) (i2 : Int32) (I : AI) (r : Int32 × AI), f282_b63 kad N Z F a0 i1 i2 I = some r → aGo kad d 282 (63, ([(0, .ref a0), (1, .int i1), (2, .int i2)], [])) (aMem Z I, t) (qI Z t r) := by
  intro F
  induction F with
  | zero => intro a0 i1 i2 I r h; cases h
  | succ F ih =>
    intro a0 i1 i2 I r h
    unfold f282_b63 at h
    refine go_ops aMi282 2 _ (f1 := (65, ([(0, .ref a0), (1, .int i1), (2, .int i2)], [.int (4 : Int32), .int i2]))) rfl ?_
    refine gg_br (b := decide ((4 : Int32) ≤ i2)) (tg := 85) (off := 20) aMi282 rfl rfl rfl rfl (fun hb => ?_) (fun hb => ?_)
    · rw [if_pos (of_decide_eq_true hb)] at h
      refine go_ops aMi282 2 _ (f1 := (87, ([(0, .ref a0), (1, .int i1), (2, .int i2)], [.ref a0, .int i1]))) rfl ?_
      obtain ⟨x87_1, hxx87_1, h⟩ := Option.bind_eq_some_iff.mp h
      refine gg_gI aMi282 rfl rfl rfl hxx87_1 ?_
      obtain ⟨r90_2, hxr90_2, h⟩ := Option.bind_eq_some_iff.mp h
      refine gg_cs (as := [.int i1, .int x87_1]) (r := []) aMi282 rfl rfl rfl aMi281 rfl (Nat.le_of_ble_eq_true rfl) (Nat.le_of_ble_eq_true rfl) (by omega) (Tf281 (by omega) i1 x87_1 I _ hxr90_2) ?_
      show aGo kad d 282 (93, ([(0, .ref a0), (1, .int i1), (2, .int i2)], [.int r90_2.1])) (aMem Z r90_2.2, t) _
      refine go_ops aMi282 3 _ (f1 := (96, ([(2, .int (0 : Int32)), (1, .int r90_2.1), (0, .ref a0)], []))) rfl ?_
      refine go_le (lv1 := [(0, .ref a0), (1, .int r90_2.1), (2, .int (0 : Int32))]) (aLe_of (show (List.map (fun q => q.1) ([(0, .ref a0), (1, .int r90_2.1), (2, .int (0 : Int32))] : ALv)).Nodup from (by show ([0, 1, 2] : List Nat).Nodup; decide)) (aSubL_cons rfl (aSubL_cons rfl (aSubL_cons rfl aSubL_nil)))) ?_
      exact Tf282_b96 hd N a0 r90_2.1 (0 : Int32) r90_2.2 _ h
    · rw [if_neg (of_decide_eq_false hb)] at h
      refine go_ops aMi282 2 _ (f1 := (70, ([(0, .ref a0), (1, .int i1), (2, .int i2)], [.ref a0, .int i1]))) rfl ?_
      obtain ⟨b70_3, hxb70_3, h⟩ := Option.bind_eq_some_iff.mp h
      refine gg_gR aMi282 rfl rfl rfl hxb70_3 ?_
      refine go_ops aMi282 1 _ (f1 := (74, ([(0, .ref a0), (1, .int i1), (2, .int i2)], [.int i2, .ref b70_3, .int i1]))) rfl ?_
      obtain ⟨x74_4, hxx74_4, h⟩ := Option.bind_eq_some_iff.mp h
      refine gg_lI (Or.inl ⟨rfl, rfl⟩) aMi282 rfl hxx74_4 ?_
      obtain ⟨r75_5, hxr75_5, h⟩ := Option.bind_eq_some_iff.mp h
      refine gg_cs (as := [.int i1, .int x74_4]) (r := []) aMi282 rfl rfl rfl aMi281 rfl (Nat.le_of_ble_eq_true rfl) (Nat.le_of_ble_eq_true rfl) (by omega) (Tf281 (by omega) i1 x74_4 I _ hxr75_5) ?_
      show aGo kad d 282 (78, ([(0, .ref a0), (1, .int i1), (2, .int i2)], [.int r75_5.1])) (aMem Z r75_5.2, t) _
      refine go_ops aMi282 3 _ (f1 := (63, ([(2, .int (i2 + (1 : Int32))), (1, .int r75_5.1), (0, .ref a0)], []))) rfl ?_
      refine go_le (lv1 := [(0, .ref a0), (1, .int r75_5.1), (2, .int (i2 + (1 : Int32)))]) (aLe_of (show (List.map (fun q => q.1) ([(0, .ref a0), (1, .int r75_5.1), (2, .int (i2 + (1 : Int32)))] : ALv)).Nodup from (by show ([0, 1, 2] : List Nat).Nodup; decide)) (aSubL_cons rfl (aSubL_cons rfl (aSubL_cons rfl aSubL_nil)))) ?_
      exact ih a0 r75_5.1 (i2 + (1 : Int32)) r75_5.2 _ h
def f282 (kad : Nat → Nat) (N : Nat) (Z : AZ) (a0 : Nat) (I : AI) : Option (Int32 × AI) :=
  (gI Z I 11 23 a0).bind fun x3_1 =>
  (f281 kad N Z (7 : Int32) x3_1 I).bind fun r6_2 =>
  (gI Z r6_2.2 11 24 a0).bind fun x10_3 =>
  (f281 kad N Z r6_2.1 x10_3 r6_2.2).bind fun r13_4 =>
  (gI Z r13_4.2 11 38 a0).bind fun x17_5 =>
  (f281 kad N Z r13_4.1 x17_5 r13_4.2).bind fun r20_6 =>
  (gI Z r20_6.2 11 27 a0).bind fun x24_7 =>
  (f281 kad N Z r20_6.1 x24_7 r20_6.2).bind fun r27_8 =>
  (gI Z r27_8.2 11 28 a0).bind fun x33_9 =>
  (f281 kad N Z r27_8.1 x33_9 r27_8.2).bind fun r36_10 =>
  (isK Z a0 11).bind fun u40_11 =>
  (f272 kad N Z a0 r36_10.2).bind fun r40_12 =>
  (f281 kad N Z r36_10.1 r40_12.1 r40_12.2).bind fun r43_13 =>
  (gI Z r43_13.2 11 34 a0).bind fun x47_14 =>
  (f281 kad N Z r43_13.1 x47_14 r43_13.2).bind fun r50_15 =>
  (gI Z r50_15.2 11 35 a0).bind fun x54_16 =>
  (f281 kad N Z r50_15.1 x54_16 r50_15.2).bind fun r57_17 =>
  f282_b63 kad N Z N a0 r57_17.1 (0 : Int32) r57_17.2
theorem Tf282 {kad : Nat → Nat} {N : Nat} {Z : AZ} {d : Nat} {t : Option Nat × (Nat × Nat)} (hd : 1 ≤ d) : ∀ (a0 : Nat) (I : AI) (r : Int32 × AI), f282 kad N Z a0 I = some r → aGo kad d 282 (0, ([(0, .ref a0)], [])) (aMem Z I, t) (qI Z t r) := by
  intro a0 I r h
  unfold f282 at h
  refine go_ops aMi282 2 _ (f1 := (3, ([(0, .ref a0)], [.ref a0, .int (7 : Int32)]))) rfl ?_
  obtain ⟨x3_1, hxx3_1, h⟩ := Option.bind_eq_some_iff.mp h
  refine gg_gI aMi282 rfl rfl rfl hxx3_1 ?_
  obtain ⟨r6_2, hxr6_2, h⟩ := Option.bind_eq_some_iff.mp h
  refine gg_cs (as := [.int (7 : Int32), .int x3_1]) (r := []) aMi282 rfl rfl rfl aMi281 rfl (Nat.le_of_ble_eq_true rfl) (Nat.le_of_ble_eq_true rfl) (by omega) (Tf281 (by omega) (7 : Int32) x3_1 I _ hxr6_2) ?_
  show aGo kad d 282 (9, ([(0, .ref a0)], [.int r6_2.1])) (aMem Z r6_2.2, t) _
  refine go_ops aMi282 1 _ (f1 := (10, ([(0, .ref a0)], [.ref a0, .int r6_2.1]))) rfl ?_
  obtain ⟨x10_3, hxx10_3, h⟩ := Option.bind_eq_some_iff.mp h
  refine gg_gI aMi282 rfl rfl rfl hxx10_3 ?_
  obtain ⟨r13_4, hxr13_4, h⟩ := Option.bind_eq_some_iff.mp h
  refine gg_cs (as := [.int r6_2.1, .int x10_3]) (r := []) aMi282 rfl rfl rfl aMi281 rfl (Nat.le_of_ble_eq_true rfl) (Nat.le_of_ble_eq_true rfl) (by omega) (Tf281 (by omega) r6_2.1 x10_3 r6_2.2 _ hxr13_4) ?_
  show aGo kad d 282 (16, ([(0, .ref a0)], [.int r13_4.1])) (aMem Z r13_4.2, t) _
  refine go_ops aMi282 1 _ (f1 := (17, ([(0, .ref a0)], [.ref a0, .int r13_4.1]))) rfl ?_
  obtain ⟨x17_5, hxx17_5, h⟩ := Option.bind_eq_some_iff.mp h
  refine gg_gI aMi282 rfl rfl rfl hxx17_5 ?_
  obtain ⟨r20_6, hxr20_6, h⟩ := Option.bind_eq_some_iff.mp h
  refine gg_cs (as := [.int r13_4.1, .int x17_5]) (r := []) aMi282 rfl rfl rfl aMi281 rfl (Nat.le_of_ble_eq_true rfl) (Nat.le_of_ble_eq_true rfl) (by omega) (Tf281 (by omega) r13_4.1 x17_5 r13_4.2 _ hxr20_6) ?_
  show aGo kad d 282 (23, ([(0, .ref a0)], [.int r20_6.1])) (aMem Z r20_6.2, t) _
  refine go_ops aMi282 1 _ (f1 := (24, ([(0, .ref a0)], [.ref a0, .int r20_6.1]))) rfl ?_
  obtain ⟨x24_7, hxx24_7, h⟩ := Option.bind_eq_some_iff.mp h
  refine gg_gI aMi282 rfl rfl rfl hxx24_7 ?_
  obtain ⟨r27_8, hxr27_8, h⟩ := Option.bind_eq_some_iff.mp h
  refine gg_cs (as := [.int r20_6.1, .int x24_7]) (r := []) aMi282 rfl rfl rfl aMi281 rfl (Nat.le_of_ble_eq_true rfl) (Nat.le_of_ble_eq_true rfl) (by omega) (Tf281 (by omega) r20_6.1 x24_7 r20_6.2 _ hxr27_8) ?_
  show aGo kad d 282 (30, ([(0, .ref a0)], [.int r27_8.1])) (aMem Z r27_8.2, t) _
  refine go_ops aMi282 3 _ (f1 := (33, ([(1, .int r27_8.1), (0, .ref a0)], [.ref a0, .int r27_8.1]))) rfl ?_
  obtain ⟨x33_9, hxx33_9, h⟩ := Option.bind_eq_some_iff.mp h
  refine gg_gI aMi282 rfl rfl rfl hxx33_9 ?_
  obtain ⟨r36_10, hxr36_10, h⟩ := Option.bind_eq_some_iff.mp h
  refine gg_cs (as := [.int r27_8.1, .int x33_9]) (r := []) aMi282 rfl rfl rfl aMi281 rfl (Nat.le_of_ble_eq_true rfl) (Nat.le_of_ble_eq_true rfl) (by omega) (Tf281 (by omega) r27_8.1 x33_9 r27_8.2 _ hxr36_10) ?_
  show aGo kad d 282 (39, ([(1, .int r27_8.1), (0, .ref a0)], [.int r36_10.1])) (aMem Z r36_10.2, t) _
  refine go_ops aMi282 1 _ (f1 := (40, ([(1, .int r27_8.1), (0, .ref a0)], [.ref a0, .int r36_10.1]))) rfl ?_
  obtain ⟨u40_11, hxu40_11, h⟩ := Option.bind_eq_some_iff.mp h
  obtain ⟨r40_12, hxr40_12, h⟩ := Option.bind_eq_some_iff.mp h
  refine gg_cv (as := []) (r := [.int r36_10.1]) aMi282 rfl rfl rfl aMi272 (Nat.le_of_ble_eq_true rfl) rfl (Nat.le_of_ble_eq_true rfl) (Nat.le_of_ble_eq_true rfl) (by omega) hxu40_11 (Tf272 (by omega) a0 r36_10.2 _ hxr40_12) ?_
  show aGo kad d 282 (43, ([(1, .int r27_8.1), (0, .ref a0)], [.int r40_12.1, .int r36_10.1])) (aMem Z r40_12.2, t) _
  obtain ⟨r43_13, hxr43_13, h⟩ := Option.bind_eq_some_iff.mp h
  refine gg_cs (as := [.int r36_10.1, .int r40_12.1]) (r := []) aMi282 rfl rfl rfl aMi281 rfl (Nat.le_of_ble_eq_true rfl) (Nat.le_of_ble_eq_true rfl) (by omega) (Tf281 (by omega) r36_10.1 r40_12.1 r40_12.2 _ hxr43_13) ?_
  show aGo kad d 282 (46, ([(1, .int r27_8.1), (0, .ref a0)], [.int r43_13.1])) (aMem Z r43_13.2, t) _
  refine go_ops aMi282 1 _ (f1 := (47, ([(1, .int r27_8.1), (0, .ref a0)], [.ref a0, .int r43_13.1]))) rfl ?_
  obtain ⟨x47_14, hxx47_14, h⟩ := Option.bind_eq_some_iff.mp h
  refine gg_gI aMi282 rfl rfl rfl hxx47_14 ?_
  obtain ⟨r50_15, hxr50_15, h⟩ := Option.bind_eq_some_iff.mp h
  refine gg_cs (as := [.int r43_13.1, .int x47_14]) (r := []) aMi282 rfl rfl rfl aMi281 rfl (Nat.le_of_ble_eq_true rfl) (Nat.le_of_ble_eq_true rfl) (by omega) (Tf281 (by omega) r43_13.1 x47_14 r43_13.2 _ hxr50_15) ?_
  show aGo kad d 282 (53, ([(1, .int r27_8.1), (0, .ref a0)], [.int r50_15.1])) (aMem Z r50_15.2, t) _
  refine go_ops aMi282 1 _ (f1 := (54, ([(1, .int r27_8.1), (0, .ref a0)], [.ref a0, .int r50_15.1]))) rfl ?_
  obtain ⟨x54_16, hxx54_16, h⟩ := Option.bind_eq_some_iff.mp h
  refine gg_gI aMi282 rfl rfl rfl hxx54_16 ?_
  obtain ⟨r57_17, hxr57_17, h⟩ := Option.bind_eq_some_iff.mp h
  refine gg_cs (as := [.int r50_15.1, .int x54_16]) (r := []) aMi282 rfl rfl rfl aMi281 rfl (Nat.le_of_ble_eq_true rfl) (Nat.le_of_ble_eq_true rfl) (by omega) (Tf281 (by omega) r50_15.1 x54_16 r50_15.2 _ hxr57_17) ?_
  show aGo kad d 282 (60, ([(1, .int r27_8.1), (0, .ref a0)], [.int r57_17.1])) (aMem Z r57_17.2, t) _
  refine go_ops aMi282 3 _ (f1 := (63, ([(2, .int (0 : Int32)), (1, .int r57_17.1), (0, .ref a0)], []))) rfl ?_
  refine go_le (lv1 := [(0, .ref a0), (1, .int r57_17.1), (2, .int (0 : Int32))]) (aLe_of (show (List.map (fun q => q.1) ([(0, .ref a0), (1, .int r57_17.1), (2, .int (0 : Int32))] : ALv)).Nodup from (by show ([0, 1, 2] : List Nat).Nodup; decide)) (aSubL_cons rfl (aSubL_cons rfl (aSubL_cons rfl aSubL_nil)))) ?_
  exact Tf282_b63 hd N a0 r57_17.1 (0 : Int32) r57_17.2 _ h
-- KernelGymModel.sum ()I
def f283 (kad : Nat → Nat) (N : Nat) (Z : AZ) (a0 : Nat) (I : AI) : Option (Int32 × AI) :=
  (pI Z I 11 0 a0 (0 : Int32)).bind fun I2_1 =>
  (isK Z a0 11).bind fun u6_2 =>
  (f282 kad N Z a0 I2_1).bind fun r6_3 =>
  some (r6_3.1, r6_3.2)
theorem Tf283 {kad : Nat → Nat} {N : Nat} {Z : AZ} {d : Nat} {t : Option Nat × (Nat × Nat)} (hd : 2 ≤ d) : ∀ (a0 : Nat) (I : AI) (r : Int32 × AI), f283 kad N Z a0 I = some r → aGo kad d 283 (0, ([(0, .ref a0)], [])) (aMem Z I, t) (qI Z t r) := by
  intro a0 I r h
  unfold f283 at h
  refine go_ops aMi283 2 _ (f1 := (2, ([(0, .ref a0)], [.int (0 : Int32), .ref a0]))) rfl ?_
  obtain ⟨I2_1, hxI2_1, h⟩ := Option.bind_eq_some_iff.mp h
  refine gg_pI aMi283 rfl rfl rfl rfl (by decide) hxI2_1 ?_
  refine go_ops aMi283 1 _ (f1 := (6, ([(0, .ref a0)], [.ref a0]))) rfl ?_
  obtain ⟨u6_2, hxu6_2, h⟩ := Option.bind_eq_some_iff.mp h
  obtain ⟨r6_3, hxr6_3, h⟩ := Option.bind_eq_some_iff.mp h
  refine gg_cv (as := []) (r := []) aMi283 rfl rfl rfl aMi282 (Nat.le_of_ble_eq_true rfl) rfl (Nat.le_of_ble_eq_true rfl) (Nat.le_of_ble_eq_true rfl) (by omega) hxu6_2 (Tf282 (by omega) a0 I2_1 _ hxr6_3) ?_
  show aGo kad d 283 (9, ([(0, .ref a0)], [.int r6_3.1])) (aMem Z r6_3.2, t) _
  cases h
  exact go_ret aMi283 rfl aRetI ⟨rfl, rfl⟩
-- KernelGymModel.sumAnew (I)I
def f284_b29 (kad : Nat → Nat) (N : Nat) (Z : AZ) (a0 : Nat) (i1 : Int32) (s0 : Int32) (s1 : Nat) (I : AI) : Option (Int32 × AI) :=
  (isK Z s1 11).bind fun u29_1 =>
  (f185 kad N Z s1 s0 I).bind fun r29_2 =>
  if ¬ r29_2.1 = 0 then
    (gI Z r29_2.2 11 38 a0).bind fun x38_3 =>
    (isK Z a0 11).bind fun u44_4 =>
    (f256 kad N Z a0 i1 r29_2.2).bind fun r44_5 =>
    (isK Z a0 11).bind fun u48_6 =>
    (f282 kad N Z a0 r44_5.2).bind fun r48_7 =>
    (isK Z a0 11).bind fun u54_8 =>
    (f256 kad N Z a0 x38_3 r48_7.2).bind fun r54_9 =>
    some (r48_7.1, r54_9.2)
  else
    some ((0 : Int32), r29_2.2)
theorem Tf284_b29 {kad : Nat → Nat} {N : Nat} {Z : AZ} {d : Nat} {t : Option Nat × (Nat × Nat)} (hd : 8 ≤ d) : ∀ (a0 : Nat) (i1 : Int32) (s0 : Int32) (s1 : Nat) (I : AI) (r : Int32 × AI), f284_b29 kad N Z a0 i1 s0 s1 I = some r → aGo kad d 284 (29, ([(0, .ref a0), (1, .int i1)], [.int s0, .ref s1])) (aMem Z I, t) (qI Z t r) := by
  intro a0 i1 s0 s1 I r h
  unfold f284_b29 at h
  obtain ⟨u29_1, hxu29_1, h⟩ := Option.bind_eq_some_iff.mp h
  obtain ⟨r29_2, hxr29_2, h⟩ := Option.bind_eq_some_iff.mp h
  refine gg_cv (as := [.int s0]) (r := []) aMi284 rfl rfl rfl aMi185 (Nat.le_of_ble_eq_true rfl) rfl (Nat.le_of_ble_eq_true rfl) (Nat.le_of_ble_eq_true rfl) (by omega) hxu29_1 (Tf185 (by omega) s1 s0 I _ hxr29_2) ?_
  show aGo kad d 284 (32, ([(0, .ref a0), (1, .int i1)], [.int r29_2.1])) (aMem Z r29_2.2, t) _
  refine gg_br (b := decide (¬ r29_2.1 = 0)) (tg := 37) (off := 5) aMi284 rfl rfl rfl rfl (fun hb => ?_) (fun hb => ?_)
  · rw [if_pos (of_decide_eq_true hb)] at h
    refine go_ops aMi284 1 _ (f1 := (38, ([(0, .ref a0), (1, .int i1)], [.ref a0]))) rfl ?_
    obtain ⟨x38_3, hxx38_3, h⟩ := Option.bind_eq_some_iff.mp h
    refine gg_gI aMi284 rfl rfl rfl hxx38_3 ?_
    refine go_ops aMi284 3 _ (f1 := (44, ([(2, .int x38_3), (0, .ref a0), (1, .int i1)], [.int i1, .ref a0]))) rfl ?_
    obtain ⟨u44_4, hxu44_4, h⟩ := Option.bind_eq_some_iff.mp h
    obtain ⟨r44_5, hxr44_5, h⟩ := Option.bind_eq_some_iff.mp h
    refine gg_cv (as := [.int i1]) (r := []) aMi284 rfl rfl rfl aMi256 (Nat.le_of_ble_eq_true rfl) rfl (Nat.le_of_ble_eq_true rfl) (Nat.le_of_ble_eq_true rfl) (by omega) hxu44_4 (Tf256 (by omega) a0 i1 r29_2.2 _ hxr44_5) ?_
    show aGo kad d 284 (47, ([(2, .int x38_3), (0, .ref a0), (1, .int i1)], [])) (aMem Z r44_5.2, t) _
    refine go_ops aMi284 1 _ (f1 := (48, ([(2, .int x38_3), (0, .ref a0), (1, .int i1)], [.ref a0]))) rfl ?_
    obtain ⟨u48_6, hxu48_6, h⟩ := Option.bind_eq_some_iff.mp h
    obtain ⟨r48_7, hxr48_7, h⟩ := Option.bind_eq_some_iff.mp h
    refine gg_cv (as := []) (r := []) aMi284 rfl rfl rfl aMi282 (Nat.le_of_ble_eq_true rfl) rfl (Nat.le_of_ble_eq_true rfl) (Nat.le_of_ble_eq_true rfl) (by omega) hxu48_6 (Tf282 (by omega) a0 r44_5.2 _ hxr48_7) ?_
    show aGo kad d 284 (51, ([(2, .int x38_3), (0, .ref a0), (1, .int i1)], [.int r48_7.1])) (aMem Z r48_7.2, t) _
    refine go_ops aMi284 3 _ (f1 := (54, ([(3, .int r48_7.1), (2, .int x38_3), (0, .ref a0), (1, .int i1)], [.int x38_3, .ref a0]))) rfl ?_
    obtain ⟨u54_8, hxu54_8, h⟩ := Option.bind_eq_some_iff.mp h
    obtain ⟨r54_9, hxr54_9, h⟩ := Option.bind_eq_some_iff.mp h
    refine gg_cv (as := [.int x38_3]) (r := []) aMi284 rfl rfl rfl aMi256 (Nat.le_of_ble_eq_true rfl) rfl (Nat.le_of_ble_eq_true rfl) (Nat.le_of_ble_eq_true rfl) (by omega) hxu54_8 (Tf256 (by omega) a0 x38_3 r48_7.2 _ hxr54_9) ?_
    show aGo kad d 284 (57, ([(3, .int r48_7.1), (2, .int x38_3), (0, .ref a0), (1, .int i1)], [])) (aMem Z r54_9.2, t) _
    refine go_ops aMi284 1 _ (f1 := (58, ([(3, .int r48_7.1), (2, .int x38_3), (0, .ref a0), (1, .int i1)], [.int r48_7.1]))) rfl ?_
    cases h
    exact go_ret aMi284 rfl aRetI ⟨rfl, rfl⟩
  · rw [if_neg (of_decide_eq_false hb)] at h
    refine go_ops aMi284 1 _ (f1 := (36, ([(0, .ref a0), (1, .int i1)], [.int (0 : Int32)]))) rfl ?_
    cases h
    exact go_ret aMi284 rfl aRetI ⟨rfl, rfl⟩
def f284 (kad : Nat → Nat) (N : Nat) (Z : AZ) (a0 : Nat) (i1 : Int32) (I : AI) : Option (Int32 × AI) :=
  (isK Z a0 11).bind fun u2_1 =>
  (f216 kad N Z a0 I).bind fun r2_2 =>
  if ¬ r2_2.1 = 0 then
    (gI Z r2_2.2 11 38 a0).bind fun x15_3 =>
    (f186 kad N Z i1 (0 : Int32) x15_3 r2_2.2).bind fun r18_4 =>
    if r18_4.1 = 0 then
      f284_b29 kad N Z a0 i1 (2 : Int32) a0 r18_4.2
    else
      f284_b29 kad N Z a0 i1 (0 : Int32) a0 r18_4.2
  else
    f284_b29 kad N Z a0 i1 (1 : Int32) a0 r2_2.2
theorem Tf284 {kad : Nat → Nat} {N : Nat} {Z : AZ} {d : Nat} {t : Option Nat × (Nat × Nat)} (hd : 8 ≤ d) : ∀ (a0 : Nat) (i1 : Int32) (I : AI) (r : Int32 × AI), f284 kad N Z a0 i1 I = some r → aGo kad d 284 (0, ([(0, .ref a0), (1, .int i1)], [])) (aMem Z I, t) (qI Z t r) := by
  intro a0 i1 I r h
  unfold f284 at h
  refine go_ops aMi284 2 _ (f1 := (2, ([(0, .ref a0), (1, .int i1)], [.ref a0, .ref a0]))) rfl ?_
  obtain ⟨u2_1, hxu2_1, h⟩ := Option.bind_eq_some_iff.mp h
  obtain ⟨r2_2, hxr2_2, h⟩ := Option.bind_eq_some_iff.mp h
  refine gg_cv (as := []) (r := [.ref a0]) aMi284 rfl rfl rfl aMi216 (Nat.le_of_ble_eq_true rfl) rfl (Nat.le_of_ble_eq_true rfl) (Nat.le_of_ble_eq_true rfl) (by omega) hxu2_1 (Tf216 (by omega) a0 I _ hxr2_2) ?_
  show aGo kad d 284 (5, ([(0, .ref a0), (1, .int i1)], [.int r2_2.1, .ref a0])) (aMem Z r2_2.2, t) _
  refine gg_br (b := decide (¬ r2_2.1 = 0)) (tg := 12) (off := 7) aMi284 rfl rfl rfl rfl (fun hb => ?_) (fun hb => ?_)
  · rw [if_pos (of_decide_eq_true hb)] at h
    refine go_ops aMi284 3 _ (f1 := (15, ([(0, .ref a0), (1, .int i1)], [.ref a0, .int (0 : Int32), .int i1, .ref a0]))) rfl ?_
    obtain ⟨x15_3, hxx15_3, h⟩ := Option.bind_eq_some_iff.mp h
    refine gg_gI aMi284 rfl rfl rfl hxx15_3 ?_
    obtain ⟨r18_4, hxr18_4, h⟩ := Option.bind_eq_some_iff.mp h
    refine gg_cs (as := [.int i1, .int (0 : Int32), .int x15_3]) (r := [.ref a0]) aMi284 rfl rfl rfl aMi186 rfl (Nat.le_of_ble_eq_true rfl) (Nat.le_of_ble_eq_true rfl) (by omega) (Tf186 (by omega) i1 (0 : Int32) x15_3 r2_2.2 _ hxr18_4) ?_
    show aGo kad d 284 (21, ([(0, .ref a0), (1, .int i1)], [.int r18_4.1, .ref a0])) (aMem Z r18_4.2, t) _
    refine gg_br (b := decide (r18_4.1 = 0)) (tg := 28) (off := 7) aMi284 rfl rfl rfl rfl (fun hb => ?_) (fun hb => ?_)
    · rw [if_pos (of_decide_eq_true hb)] at h
      refine go_ops aMi284 1 _ (f1 := (29, ([(0, .ref a0), (1, .int i1)], [.int (2 : Int32), .ref a0]))) rfl ?_
      exact Tf284_b29 hd a0 i1 (2 : Int32) a0 r18_4.2 _ h
    · rw [if_neg (of_decide_eq_false hb)] at h
      refine go_ops aMi284 2 _ (f1 := (29, ([(0, .ref a0), (1, .int i1)], [.int (0 : Int32), .ref a0]))) rfl ?_
      exact Tf284_b29 hd a0 i1 (0 : Int32) a0 r18_4.2 _ h
  · rw [if_neg (of_decide_eq_false hb)] at h
    refine go_ops aMi284 2 _ (f1 := (29, ([(0, .ref a0), (1, .int i1)], [.int (1 : Int32), .ref a0]))) rfl ?_
    exact Tf284_b29 hd a0 i1 (1 : Int32) a0 r2_2.2 _ h
-- KernelGymModel.written ()I
def f286 (kad : Nat → Nat) (N : Nat) (Z : AZ) (a0 : Nat) (I : AI) : Option (Int32 × AI) :=
  (pI Z I 11 0 a0 (0 : Int32)).bind fun I2_1 =>
  (gI Z I2_1 11 52 a0).bind fun x6_2 =>
  some (x6_2, I2_1)
theorem Tf286 {kad : Nat → Nat} {N : Nat} {Z : AZ} {d : Nat} {t : Option Nat × (Nat × Nat)} (hd : 0 ≤ d) : ∀ (a0 : Nat) (I : AI) (r : Int32 × AI), f286 kad N Z a0 I = some r → aGo kad d 286 (0, ([(0, .ref a0)], [])) (aMem Z I, t) (qI Z t r) := by
  intro a0 I r h
  unfold f286 at h
  refine go_ops aMi286 2 _ (f1 := (2, ([(0, .ref a0)], [.int (0 : Int32), .ref a0]))) rfl ?_
  obtain ⟨I2_1, hxI2_1, h⟩ := Option.bind_eq_some_iff.mp h
  refine gg_pI aMi286 rfl rfl rfl rfl (by decide) hxI2_1 ?_
  refine go_ops aMi286 1 _ (f1 := (6, ([(0, .ref a0)], [.ref a0]))) rfl ?_
  obtain ⟨x6_2, hxx6_2, h⟩ := Option.bind_eq_some_iff.mp h
  refine gg_gI aMi286 rfl rfl rfl hxx6_2 ?_
  cases h
  exact go_ret aMi286 rfl aRetI ⟨rfl, rfl⟩
-- KernelGymModel.disk (II)I
def f287_b47 (kad : Nat → Nat) (N : Nat) (Z : AZ) (s0 : Int32) (I : AI) : Option (Int32 × AI) :=
  some (s0, I)
theorem Tf287_b47 {kad : Nat → Nat} {N : Nat} {Z : AZ} {d : Nat} {t : Option Nat × (Nat × Nat)} (hd : 1 ≤ d) : ∀ (s0 : Int32) (I : AI) (r : Int32 × AI), f287_b47 kad N Z s0 I = some r → aGo kad d 287 (47, ([], [.int s0])) (aMem Z I, t) (qI Z t r) := by
  intro s0 I r h
  unfold f287_b47 at h
  cases h
  exact go_ret aMi287 rfl aRetI ⟨rfl, rfl⟩
def f287_b26 (kad : Nat → Nat) (N : Nat) (Z : AZ) (a0 : Nat) (i1 : Int32) (i2 : Int32) (s0 : Int32) (s1 : Nat) (I : AI) : Option (Int32 × AI) :=
  (isK Z s1 11).bind fun u26_1 =>
  (f185 kad N Z s1 s0 I).bind fun r26_2 =>
  if r26_2.1 = 0 then
    f287_b47 kad N Z (0 : Int32) r26_2.2
  else
    (gR Z r26_2.2 11 50 a0).bind fun b33_3 =>
    (lI Z r26_2.2 100 b33_3 (((8 : Int32) * i1) + i2)).bind fun x42_4 =>
    f287_b47 kad N Z x42_4 r26_2.2
theorem Tf287_b26 {kad : Nat → Nat} {N : Nat} {Z : AZ} {d : Nat} {t : Option Nat × (Nat × Nat)} (hd : 1 ≤ d) : ∀ (a0 : Nat) (i1 : Int32) (i2 : Int32) (s0 : Int32) (s1 : Nat) (I : AI) (r : Int32 × AI), f287_b26 kad N Z a0 i1 i2 s0 s1 I = some r → aGo kad d 287 (26, ([(0, .ref a0), (1, .int i1), (2, .int i2)], [.int s0, .ref s1])) (aMem Z I, t) (qI Z t r) := by
  intro a0 i1 i2 s0 s1 I r h
  unfold f287_b26 at h
  obtain ⟨u26_1, hxu26_1, h⟩ := Option.bind_eq_some_iff.mp h
  obtain ⟨r26_2, hxr26_2, h⟩ := Option.bind_eq_some_iff.mp h
  refine gg_cv (as := [.int s0]) (r := []) aMi287 rfl rfl rfl aMi185 (Nat.le_of_ble_eq_true rfl) rfl (Nat.le_of_ble_eq_true rfl) (Nat.le_of_ble_eq_true rfl) (by omega) hxu26_1 (Tf185 (by omega) s1 s0 I _ hxr26_2) ?_
  show aGo kad d 287 (29, ([(0, .ref a0), (1, .int i1), (2, .int i2)], [.int r26_2.1])) (aMem Z r26_2.2, t) _
  refine gg_br (b := decide (r26_2.1 = 0)) (tg := 46) (off := 17) aMi287 rfl rfl rfl rfl (fun hb => ?_) (fun hb => ?_)
  · rw [if_pos (of_decide_eq_true hb)] at h
    refine go_ops aMi287 1 _ (f1 := (47, ([(0, .ref a0), (1, .int i1), (2, .int i2)], [.int (0 : Int32)]))) rfl ?_
    refine go_le (lv1 := []) (aLe_of (show (List.map (fun q => q.1) ([] : ALv)).Nodup from (by show ([] : List Nat).Nodup; decide)) aSubL_nil) ?_
    exact Tf287_b47 hd (0 : Int32) r26_2.2 _ h
  · rw [if_neg (of_decide_eq_false hb)] at h
    refine go_ops aMi287 1 _ (f1 := (33, ([(0, .ref a0), (1, .int i1), (2, .int i2)], [.ref a0]))) rfl ?_
    obtain ⟨b33_3, hxb33_3, h⟩ := Option.bind_eq_some_iff.mp h
    refine gg_gR aMi287 rfl rfl rfl hxb33_3 ?_
    refine go_ops aMi287 5 _ (f1 := (42, ([(0, .ref a0), (1, .int i1), (2, .int i2)], [.int (((8 : Int32) * i1) + i2), .ref b33_3]))) rfl ?_
    obtain ⟨x42_4, hxx42_4, h⟩ := Option.bind_eq_some_iff.mp h
    refine gg_lI (Or.inl ⟨rfl, rfl⟩) aMi287 rfl hxx42_4 ?_
    refine go_ops aMi287 1 _ (f1 := (47, ([(0, .ref a0), (1, .int i1), (2, .int i2)], [.int x42_4]))) rfl ?_
    refine go_le (lv1 := []) (aLe_of (show (List.map (fun q => q.1) ([] : ALv)).Nodup from (by show ([] : List Nat).Nodup; decide)) aSubL_nil) ?_
    exact Tf287_b47 hd x42_4 r26_2.2 _ h
def f287_b25 (kad : Nat → Nat) (N : Nat) (Z : AZ) (a0 : Nat) (i1 : Int32) (i2 : Int32) (s0 : Nat) (I : AI) : Option (Int32 × AI) :=
  f287_b26 kad N Z a0 i1 i2 (1 : Int32) s0 I
theorem Tf287_b25 {kad : Nat → Nat} {N : Nat} {Z : AZ} {d : Nat} {t : Option Nat × (Nat × Nat)} (hd : 1 ≤ d) : ∀ (a0 : Nat) (i1 : Int32) (i2 : Int32) (s0 : Nat) (I : AI) (r : Int32 × AI), f287_b25 kad N Z a0 i1 i2 s0 I = some r → aGo kad d 287 (25, ([(0, .ref a0), (1, .int i1), (2, .int i2)], [.ref s0])) (aMem Z I, t) (qI Z t r) := by
  intro a0 i1 i2 s0 I r h
  unfold f287_b25 at h
  refine go_ops aMi287 1 _ (f1 := (26, ([(0, .ref a0), (1, .int i1), (2, .int i2)], [.int (1 : Int32), .ref s0]))) rfl ?_
  exact Tf287_b26 hd a0 i1 i2 (1 : Int32) s0 I _ h
def f287 (kad : Nat → Nat) (N : Nat) (Z : AZ) (a0 : Nat) (i1 : Int32) (i2 : Int32) (I : AI) : Option (Int32 × AI) :=
  (f186 kad N Z i1 (0 : Int32) (31 : Int32) I).bind fun r5_1 =>
  if r5_1.1 = 0 then
    f287_b25 kad N Z a0 i1 i2 a0 r5_1.2
  else
    (f186 kad N Z i2 (0 : Int32) (7 : Int32) r5_1.2).bind fun r15_2 =>
    if r15_2.1 = 0 then
      f287_b25 kad N Z a0 i1 i2 a0 r15_2.2
    else
      f287_b26 kad N Z a0 i1 i2 (0 : Int32) a0 r15_2.2
theorem Tf287 {kad : Nat → Nat} {N : Nat} {Z : AZ} {d : Nat} {t : Option Nat × (Nat × Nat)} (hd : 1 ≤ d) : ∀ (a0 : Nat) (i1 : Int32) (i2 : Int32) (I : AI) (r : Int32 × AI), f287 kad N Z a0 i1 i2 I = some r → aGo kad d 287 (0, ([(0, .ref a0), (1, .int i1), (2, .int i2)], [])) (aMem Z I, t) (qI Z t r) := by
  intro a0 i1 i2 I r h
  unfold f287 at h
  refine go_ops aMi287 4 _ (f1 := (5, ([(0, .ref a0), (1, .int i1), (2, .int i2)], [.int (31 : Int32), .int (0 : Int32), .int i1, .ref a0]))) rfl ?_
  obtain ⟨r5_1, hxr5_1, h⟩ := Option.bind_eq_some_iff.mp h
  refine gg_cs (as := [.int i1, .int (0 : Int32), .int (31 : Int32)]) (r := [.ref a0]) aMi287 rfl rfl rfl aMi186 rfl (Nat.le_of_ble_eq_true rfl) (Nat.le_of_ble_eq_true rfl) (by omega) (Tf186 (by omega) i1 (0 : Int32) (31 : Int32) I _ hxr5_1) ?_
  show aGo kad d 287 (8, ([(0, .ref a0), (1, .int i1), (2, .int i2)], [.int r5_1.1, .ref a0])) (aMem Z r5_1.2, t) _
  refine gg_br (b := decide (r5_1.1 = 0)) (tg := 25) (off := 17) aMi287 rfl rfl rfl rfl (fun hb => ?_) (fun hb => ?_)
  · rw [if_pos (of_decide_eq_true hb)] at h
    exact Tf287_b25 hd a0 i1 i2 a0 r5_1.2 _ h
  · rw [if_neg (of_decide_eq_false hb)] at h
    refine go_ops aMi287 3 _ (f1 := (15, ([(0, .ref a0), (1, .int i1), (2, .int i2)], [.int (7 : Int32), .int (0 : Int32), .int i2, .ref a0]))) rfl ?_
    obtain ⟨r15_2, hxr15_2, h⟩ := Option.bind_eq_some_iff.mp h
    refine gg_cs (as := [.int i2, .int (0 : Int32), .int (7 : Int32)]) (r := [.ref a0]) aMi287 rfl rfl rfl aMi186 rfl (Nat.le_of_ble_eq_true rfl) (Nat.le_of_ble_eq_true rfl) (by omega) (Tf186 (by omega) i2 (0 : Int32) (7 : Int32) r5_1.2 _ hxr15_2) ?_
    show aGo kad d 287 (18, ([(0, .ref a0), (1, .int i1), (2, .int i2)], [.int r15_2.1, .ref a0])) (aMem Z r15_2.2, t) _
    refine gg_br (b := decide (r15_2.1 = 0)) (tg := 25) (off := 7) aMi287 rfl rfl rfl rfl (fun hb => ?_) (fun hb => ?_)
    · rw [if_pos (of_decide_eq_true hb)] at h
      exact Tf287_b25 hd a0 i1 i2 a0 r15_2.2 _ h
    · rw [if_neg (of_decide_eq_false hb)] at h
      refine go_ops aMi287 2 _ (f1 := (26, ([(0, .ref a0), (1, .int i1), (2, .int i2)], [.int (0 : Int32), .ref a0]))) rfl ?_
      exact Tf287_b26 hd a0 i1 i2 (0 : Int32) a0 r15_2.2 _ h
-- KernelGymModel.files ()I
def f288 (kad : Nat → Nat) (N : Nat) (Z : AZ) (a0 : Nat) (I : AI) : Option (Int32 × AI) :=
  (pI Z I 11 0 a0 (0 : Int32)).bind fun I2_1 =>
  (isK Z a0 11).bind fun u6_2 =>
  (f285 kad N Z a0 I2_1).bind fun r6_3 =>
  some (r6_3.1, r6_3.2)
theorem Tf288 {kad : Nat → Nat} {N : Nat} {Z : AZ} {d : Nat} {t : Option Nat × (Nat × Nat)} (hd : 2 ≤ d) : ∀ (a0 : Nat) (I : AI) (r : Int32 × AI), f288 kad N Z a0 I = some r → aGo kad d 288 (0, ([(0, .ref a0)], [])) (aMem Z I, t) (qI Z t r) := by
  intro a0 I r h
  unfold f288 at h
  refine go_ops aMi288 2 _ (f1 := (2, ([(0, .ref a0)], [.int (0 : Int32), .ref a0]))) rfl ?_
  obtain ⟨I2_1, hxI2_1, h⟩ := Option.bind_eq_some_iff.mp h
  refine gg_pI aMi288 rfl rfl rfl rfl (by decide) hxI2_1 ?_
  refine go_ops aMi288 1 _ (f1 := (6, ([(0, .ref a0)], [.ref a0]))) rfl ?_
  obtain ⟨u6_2, hxu6_2, h⟩ := Option.bind_eq_some_iff.mp h
  obtain ⟨r6_3, hxr6_3, h⟩ := Option.bind_eq_some_iff.mp h
  refine gg_cv (as := []) (r := []) aMi288 rfl rfl rfl aMi285 (Nat.le_of_ble_eq_true rfl) rfl (Nat.le_of_ble_eq_true rfl) (Nat.le_of_ble_eq_true rfl) (by omega) hxu6_2 (Tf285 (by omega) a0 I2_1 _ hxr6_3) ?_
  show aGo kad d 288 (9, ([(0, .ref a0)], [.int r6_3.1])) (aMem Z r6_3.2, t) _
  cases h
  exact go_ret aMi288 rfl aRetI ⟨rfl, rfl⟩
-- KernelGymModel.errorOfName (I)I
def f289_b31 (kad : Nat → Nat) (N : Nat) (Z : AZ) (s0 : Int32) (I : AI) : Option (Int32 × AI) :=
  some (s0, I)
theorem Tf289_b31 {kad : Nat → Nat} {N : Nat} {Z : AZ} {d : Nat} {t : Option Nat × (Nat × Nat)} (hd : 2 ≤ d) : ∀ (s0 : Int32) (I : AI) (r : Int32 × AI), f289_b31 kad N Z s0 I = some r → aGo kad d 289 (31, ([], [.int s0])) (aMem Z I, t) (qI Z t r) := by
  intro s0 I r h
  unfold f289_b31 at h
  cases h
  exact go_ret aMi289 rfl aRetI ⟨rfl, rfl⟩
def f289 (kad : Nat → Nat) (N : Nat) (Z : AZ) (a0 : Nat) (i1 : Int32) (I : AI) : Option (Int32 × AI) :=
  (f186 kad N Z i1 (1 : Int32) (65535 : Int32) I).bind fun r4_1 =>
  if ¬ r4_1.1 = 0 then
    (gR Z r4_1.2 11 50 a0).bind fun b15_2 =>
    (f236 kad N Z b15_2 i1 r4_1.2).bind fun r19_3 =>
    if ¬ r19_3.1 = (Int32.ofInt (-1)) then
      f289_b31 kad N Z (0 : Int32) r19_3.2
    else
      f289_b31 kad N Z (2 : Int32) r19_3.2
  else
    f289_b31 kad N Z (1 : Int32) r4_1.2
theorem Tf289 {kad : Nat → Nat} {N : Nat} {Z : AZ} {d : Nat} {t : Option Nat × (Nat × Nat)} (hd : 2 ≤ d) : ∀ (a0 : Nat) (i1 : Int32) (I : AI) (r : Int32 × AI), f289 kad N Z a0 i1 I = some r → aGo kad d 289 (0, ([(0, .ref a0), (1, .int i1)], [])) (aMem Z I, t) (qI Z t r) := by
  intro a0 i1 I r h
  unfold f289 at h
  refine go_ops aMi289 2 _ (f1 := (2, ([(0, .ref a0), (1, .int i1)], [.int (1 : Int32), .int i1]))) rfl ?_
  refine gg_kI (Or.inl ⟨rfl, rfl⟩) aMi289 rfl rfl ?_
  obtain ⟨r4_1, hxr4_1, h⟩ := Option.bind_eq_some_iff.mp h
  refine gg_cs (as := [.int i1, .int (1 : Int32), .int (65535 : Int32)]) (r := []) aMi289 rfl rfl rfl aMi186 rfl (Nat.le_of_ble_eq_true rfl) (Nat.le_of_ble_eq_true rfl) (by omega) (Tf186 (by omega) i1 (1 : Int32) (65535 : Int32) I _ hxr4_1) ?_
  show aGo kad d 289 (7, ([(0, .ref a0), (1, .int i1)], [.int r4_1.1])) (aMem Z r4_1.2, t) _
  refine gg_br (b := decide (¬ r4_1.1 = 0)) (tg := 14) (off := 7) aMi289 rfl rfl rfl rfl (fun hb => ?_) (fun hb => ?_)
  · rw [if_pos (of_decide_eq_true hb)] at h
    refine go_ops aMi289 1 _ (f1 := (15, ([(0, .ref a0), (1, .int i1)], [.ref a0]))) rfl ?_
    obtain ⟨b15_2, hxb15_2, h⟩ := Option.bind_eq_some_iff.mp h
    refine gg_gR aMi289 rfl rfl rfl hxb15_2 ?_
    refine go_ops aMi289 1 _ (f1 := (19, ([(0, .ref a0), (1, .int i1)], [.int i1, .ref b15_2]))) rfl ?_
    obtain ⟨r19_3, hxr19_3, h⟩ := Option.bind_eq_some_iff.mp h
    refine gg_cs (as := [.ref b15_2, .int i1]) (r := []) aMi289 rfl rfl rfl aMi236 rfl (Nat.le_of_ble_eq_true rfl) (Nat.le_of_ble_eq_true rfl) (by omega) (Tf236 (by omega) b15_2 i1 r4_1.2 _ hxr19_3) ?_
    show aGo kad d 289 (22, ([(0, .ref a0), (1, .int i1)], [.int r19_3.1])) (aMem Z r19_3.2, t) _
    refine go_ops aMi289 1 _ (f1 := (23, ([(0, .ref a0), (1, .int i1)], [.int (Int32.ofInt (-1)), .int r19_3.1]))) rfl ?_
    refine gg_br (b := decide (¬ r19_3.1 = (Int32.ofInt (-1)))) (tg := 30) (off := 7) aMi289 rfl rfl rfl rfl (fun hb => ?_) (fun hb => ?_)
    · rw [if_pos (of_decide_eq_true hb)] at h
      refine go_ops aMi289 1 _ (f1 := (31, ([(0, .ref a0), (1, .int i1)], [.int (0 : Int32)]))) rfl ?_
      refine go_le (lv1 := []) (aLe_of (show (List.map (fun q => q.1) ([] : ALv)).Nodup from (by show ([] : List Nat).Nodup; decide)) aSubL_nil) ?_
      exact Tf289_b31 hd (0 : Int32) r19_3.2 _ h
    · rw [if_neg (of_decide_eq_false hb)] at h
      refine go_ops aMi289 2 _ (f1 := (31, ([(0, .ref a0), (1, .int i1)], [.int (2 : Int32)]))) rfl ?_
      refine go_le (lv1 := []) (aLe_of (show (List.map (fun q => q.1) ([] : ALv)).Nodup from (by show ([] : List Nat).Nodup; decide)) aSubL_nil) ?_
      exact Tf289_b31 hd (2 : Int32) r19_3.2 _ h
  · rw [if_neg (of_decide_eq_false hb)] at h
    refine go_ops aMi289 2 _ (f1 := (31, ([(0, .ref a0), (1, .int i1)], [.int (1 : Int32)]))) rfl ?_
    refine go_le (lv1 := []) (aLe_of (show (List.map (fun q => q.1) ([] : ALv)).Nodup from (by show ([] : List Nat).Nodup; decide)) aSubL_nil) ?_
    exact Tf289_b31 hd (1 : Int32) r4_1.2 _ h
-- KernelGymModel.size (I)I
def f290_b34 (kad : Nat → Nat) (N : Nat) (Z : AZ) (s0 : Int32) (I : AI) : Option (Int32 × AI) :=
  some (s0, I)
theorem Tf290_b34 {kad : Nat → Nat} {N : Nat} {Z : AZ} {d : Nat} {t : Option Nat × (Nat × Nat)} (hd : 3 ≤ d) : ∀ (s0 : Int32) (I : AI) (r : Int32 × AI), f290_b34 kad N Z s0 I = some r → aGo kad d 290 (34, ([], [.int s0])) (aMem Z I, t) (qI Z t r) := by
  intro s0 I r h
  unfold f290_b34 at h
  cases h
  exact go_ret aMi290 rfl aRetI ⟨rfl, rfl⟩
def f290 (kad : Nat → Nat) (N : Nat) (Z : AZ) (a0 : Nat) (i1 : Int32) (I : AI) : Option (Int32 × AI) :=
  (isK Z a0 11).bind fun u3_1 =>
  (f289 kad N Z a0 i1 I).bind fun r3_2 =>
  (isK Z a0 11).bind fun u6_3 =>
  (f185 kad N Z a0 r3_2.1 r3_2.2).bind fun r6_4 =>
  if r6_4.1 = 0 then
    f290_b34 kad N Z (0 : Int32) r6_4.2
  else
    (gR Z r6_4.2 11 50 a0).bind fun b13_5 =>
    (gR Z r6_4.2 11 50 a0).bind fun b17_6 =>
    (f236 kad N Z b17_6 i1 r6_4.2).bind fun r21_7 =>
    (f235 kad N Z r21_7.1 r21_7.2).bind fun r24_8 =>
    (lI Z r24_8.2 100 b13_5 (r24_8.1 + (1 : Int32))).bind fun x29_9 =>
    f290_b34 kad N Z x29_9 r24_8.2
theorem Tf290 {kad : Nat → Nat} {N : Nat} {Z : AZ} {d : Nat} {t : Option Nat × (Nat × Nat)} (hd : 3 ≤ d) : ∀ (a0 : Nat) (i1 : Int32) (I : AI) (r : Int32 × AI), f290 kad N Z a0 i1 I = some r → aGo kad d 290 (0, ([(0, .ref a0), (1, .int i1)], [])) (aMem Z I, t) (qI Z t r) := by
  intro a0 i1 I r h
  unfold f290 at h
  refine go_ops aMi290 3 _ (f1 := (3, ([(0, .ref a0), (1, .int i1)], [.int i1, .ref a0, .ref a0]))) rfl ?_
  obtain ⟨u3_1, hxu3_1, h⟩ := Option.bind_eq_some_iff.mp h
  obtain ⟨r3_2, hxr3_2, h⟩ := Option.bind_eq_some_iff.mp h
  refine gg_cv (as := [.int i1]) (r := [.ref a0]) aMi290 rfl rfl rfl aMi289 (Nat.le_of_ble_eq_true rfl) rfl (Nat.le_of_ble_eq_true rfl) (Nat.le_of_ble_eq_true rfl) (by omega) hxu3_1 (Tf289 (by omega) a0 i1 I _ hxr3_2) ?_
  show aGo kad d 290 (6, ([(0, .ref a0), (1, .int i1)], [.int r3_2.1, .ref a0])) (aMem Z r3_2.2, t) _
  obtain ⟨u6_3, hxu6_3, h⟩ := Option.bind_eq_some_iff.mp h
  obtain ⟨r6_4, hxr6_4, h⟩ := Option.bind_eq_some_iff.mp h
  refine gg_cv (as := [.int r3_2.1]) (r := []) aMi290 rfl rfl rfl aMi185 (Nat.le_of_ble_eq_true rfl) rfl (Nat.le_of_ble_eq_true rfl) (Nat.le_of_ble_eq_true rfl) (by omega) hxu6_3 (Tf185 (by omega) a0 r3_2.1 r3_2.2 _ hxr6_4) ?_
  show aGo kad d 290 (9, ([(0, .ref a0), (1, .int i1)], [.int r6_4.1])) (aMem Z r6_4.2, t) _
  refine gg_br (b := decide (r6_4.1 = 0)) (tg := 33) (off := 24) aMi290 rfl rfl rfl rfl (fun hb => ?_) (fun hb => ?_)
  · rw [if_pos (of_decide_eq_true hb)] at h
    refine go_ops aMi290 1 _ (f1 := (34, ([(0, .ref a0), (1, .int i1)], [.int (0 : Int32)]))) rfl ?_
    refine go_le (lv1 := []) (aLe_of (show (List.map (fun q => q.1) ([] : ALv)).Nodup from (by show ([] : List Nat).Nodup; decide)) aSubL_nil) ?_
    exact Tf290_b34 hd (0 : Int32) r6_4.2 _ h
  · rw [if_neg (of_decide_eq_false hb)] at h
    refine go_ops aMi290 1 _ (f1 := (13, ([(0, .ref a0), (1, .int i1)], [.ref a0]))) rfl ?_
    obtain ⟨b13_5, hxb13_5, h⟩ := Option.bind_eq_some_iff.mp h
    refine gg_gR aMi290 rfl rfl rfl hxb13_5 ?_
    refine go_ops aMi290 1 _ (f1 := (17, ([(0, .ref a0), (1, .int i1)], [.ref a0, .ref b13_5]))) rfl ?_
    obtain ⟨b17_6, hxb17_6, h⟩ := Option.bind_eq_some_iff.mp h
    refine gg_gR aMi290 rfl rfl rfl hxb17_6 ?_
    refine go_ops aMi290 1 _ (f1 := (21, ([(0, .ref a0), (1, .int i1)], [.int i1, .ref b17_6, .ref b13_5]))) rfl ?_
    obtain ⟨r21_7, hxr21_7, h⟩ := Option.bind_eq_some_iff.mp h
    refine gg_cs (as := [.ref b17_6, .int i1]) (r := [.ref b13_5]) aMi290 rfl rfl rfl aMi236 rfl (Nat.le_of_ble_eq_true rfl) (Nat.le_of_ble_eq_true rfl) (by omega) (Tf236 (by omega) b17_6 i1 r6_4.2 _ hxr21_7) ?_
    show aGo kad d 290 (24, ([(0, .ref a0), (1, .int i1)], [.int r21_7.1, .ref b13_5])) (aMem Z r21_7.2, t) _
    obtain ⟨r24_8, hxr24_8, h⟩ := Option.bind_eq_some_iff.mp h
    refine gg_cs (as := [.int r21_7.1]) (r := [.ref b13_5]) aMi290 rfl rfl rfl aMi235 rfl (Nat.le_of_ble_eq_true rfl) (Nat.le_of_ble_eq_true rfl) (by omega) (Tf235 (by omega) r21_7.1 r21_7.2 _ hxr24_8) ?_
    show aGo kad d 290 (27, ([(0, .ref a0), (1, .int i1)], [.int r24_8.1, .ref b13_5])) (aMem Z r24_8.2, t) _
    refine go_ops aMi290 2 _ (f1 := (29, ([(0, .ref a0), (1, .int i1)], [.int (r24_8.1 + (1 : Int32)), .ref b13_5]))) rfl ?_
    obtain ⟨x29_9, hxx29_9, h⟩ := Option.bind_eq_some_iff.mp h
    refine gg_lI (Or.inl ⟨rfl, rfl⟩) aMi290 rfl hxx29_9 ?_
    refine go_ops aMi290 1 _ (f1 := (34, ([(0, .ref a0), (1, .int i1)], [.int x29_9]))) rfl ?_
    refine go_le (lv1 := []) (aLe_of (show (List.map (fun q => q.1) ([] : ALv)).Nodup from (by show ([] : List Nat).Nodup; decide)) aSubL_nil) ?_
    exact Tf290_b34 hd x29_9 r24_8.2 _ h
-- KernelGymModel.wordOf (II)I
def f291_b52 (kad : Nat → Nat) (N : Nat) (Z : AZ) (a0 : Nat) (i2 : Int32) (i4 : Int32) (s0 : Int32) (s1 : Nat) (I : AI) : Option (Int32 × AI) :=
  (isK Z s1 11).bind fun u52_1 =>
  (f185 kad N Z s1 s0 I).bind fun r52_2 =>
  if ¬ r52_2.1 = 0 then
    (gR Z r52_2.2 11 50 a0).bind fun b61_3 =>
    (gR Z r52_2.2 11 50 a0).bind fun b68_4 =>
    (isK Z a0 11).bind fun u74_5 =>
    (f241 kad N Z a0 b68_4 i4 i2 r52_2.2).bind fun r74_6 =>
    (lI Z r74_6.2 100 b61_3 (((8 : Int32) * r74_6.1) + (i2 - i2 / (8 : Int32) * (8 : Int32)))).bind fun x83_7 =>
    some (x83_7, r74_6.2)
  else
    some ((0 : Int32), r52_2.2)
theorem Tf291_b52 {kad : Nat → Nat} {N : Nat} {Z : AZ} {d : Nat} {t : Option Nat × (Nat × Nat)} (hd : 3 ≤ d) : ∀ (a0 : Nat) (i2 : Int32) (i4 : Int32) (s0 : Int32) (s1 : Nat) (I : AI) (r : Int32 × AI), f291_b52 kad N Z a0 i2 i4 s0 s1 I = some r → aGo kad d 291 (52, ([(0, .ref a0), (2, .int i2), (4, .int i4)], [.int s0, .ref s1])) (aMem Z I, t) (qI Z t r) := by
  intro a0 i2 i4 s0 s1 I r h
  unfold f291_b52 at h
  obtain ⟨u52_1, hxu52_1, h⟩ := Option.bind_eq_some_iff.mp h
  obtain ⟨r52_2, hxr52_2, h⟩ := Option.bind_eq_some_iff.mp h
  refine gg_cv (as := [.int s0]) (r := []) aMi291 rfl rfl rfl aMi185 (Nat.le_of_ble_eq_true rfl) rfl (Nat.le_of_ble_eq_true rfl) (Nat.le_of_ble_eq_true rfl) (by omega) hxu52_1 (Tf185 (by omega) s1 s0 I _ hxr52_2) ?_
  show aGo kad d 291 (55, ([(0, .ref a0), (2, .int i2), (4, .int i4)], [.int r52_2.1])) (aMem Z r52_2.2, t) _
  refine gg_br (b := decide (¬ r52_2.1 = 0)) (tg := 60) (off := 5) aMi291 rfl rfl rfl rfl (fun hb => ?_) (fun hb => ?_)
  · rw [if_pos (of_decide_eq_true hb)] at h
    refine go_ops aMi291 1 _ (f1 := (61, ([(0, .ref a0), (2, .int i2), (4, .int i4)], [.ref a0]))) rfl ?_
    obtain ⟨b61_3, hxb61_3, h⟩ := Option.bind_eq_some_iff.mp h
    refine gg_gR aMi291 rfl rfl rfl hxb61_3 ?_
    refine go_ops aMi291 3 _ (f1 := (68, ([(0, .ref a0), (2, .int i2), (4, .int i4)], [.ref a0, .ref a0, .int (8 : Int32), .ref b61_3]))) rfl ?_
    obtain ⟨b68_4, hxb68_4, h⟩ := Option.bind_eq_some_iff.mp h
    refine gg_gR aMi291 rfl rfl rfl hxb68_4 ?_
    refine go_ops aMi291 2 _ (f1 := (74, ([(0, .ref a0), (2, .int i2), (4, .int i4)], [.int i2, .int i4, .ref b68_4, .ref a0, .int (8 : Int32), .ref b61_3]))) rfl ?_
    obtain ⟨u74_5, hxu74_5, h⟩ := Option.bind_eq_some_iff.mp h
    obtain ⟨r74_6, hxr74_6, h⟩ := Option.bind_eq_some_iff.mp h
    refine gg_cv (as := [.ref b68_4, .int i4, .int i2]) (r := [.int (8 : Int32), .ref b61_3]) aMi291 rfl rfl rfl aMi241 (Nat.le_of_ble_eq_true rfl) rfl (Nat.le_of_ble_eq_true rfl) (Nat.le_of_ble_eq_true rfl) (by omega) hxu74_5 (Tf241 (by omega) a0 b68_4 i4 i2 r52_2.2 _ hxr74_6) ?_
    show aGo kad d 291 (77, ([(0, .ref a0), (2, .int i2), (4, .int i4)], [.int r74_6.1, .int (8 : Int32), .ref b61_3])) (aMem Z r74_6.2, t) _
    refine go_ops aMi291 5 _ (f1 := (83, ([(0, .ref a0), (2, .int i2), (4, .int i4)], [.int (((8 : Int32) * r74_6.1) + (i2 - i2 / (8 : Int32) * (8 : Int32))), .ref b61_3]))) rfl ?_
    obtain ⟨x83_7, hxx83_7, h⟩ := Option.bind_eq_some_iff.mp h
    refine gg_lI (Or.inl ⟨rfl, rfl⟩) aMi291 rfl hxx83_7 ?_
    cases h
    exact go_ret aMi291 rfl aRetI ⟨rfl, rfl⟩
  · rw [if_neg (of_decide_eq_false hb)] at h
    refine go_ops aMi291 1 _ (f1 := (59, ([(0, .ref a0), (2, .int i2), (4, .int i4)], [.int (0 : Int32)]))) rfl ?_
    cases h
    exact go_ret aMi291 rfl aRetI ⟨rfl, rfl⟩
def f291 (kad : Nat → Nat) (N : Nat) (Z : AZ) (a0 : Nat) (i1 : Int32) (i2 : Int32) (I : AI) : Option (Int32 × AI) :=
  (isK Z a0 11).bind fun u2_1 =>
  (f289 kad N Z a0 i1 I).bind fun r2_2 =>
  (gR Z r2_2.2 11 50 a0).bind fun b7_3 =>
  (f236 kad N Z b7_3 i1 r2_2.2).bind fun r11_4 =>
  if r2_2.1 = 0 then
    (gR Z r11_4.2 11 50 a0).bind fun b28_5 =>
    (f235 kad N Z r11_4.1 r11_4.2).bind fun r33_6 =>
    (lI Z r33_6.2 100 b28_5 (r33_6.1 + (1 : Int32))).bind fun x38_7 =>
    (f186 kad N Z i2 (0 : Int32) (x38_7 - (1 : Int32)) r33_6.2).bind fun r41_8 =>
    if r41_8.1 = 0 then
      f291_b52 kad N Z a0 i2 r11_4.1 (3 : Int32) a0 r41_8.2
    else
      f291_b52 kad N Z a0 i2 r11_4.1 (0 : Int32) a0 r41_8.2
  else
    f291_b52 kad N Z a0 i2 r11_4.1 r2_2.1 a0 r11_4.2
theorem Tf291 {kad : Nat → Nat} {N : Nat} {Z : AZ} {d : Nat} {t : Option Nat × (Nat × Nat)} (hd : 3 ≤ d) : ∀ (a0 : Nat) (i1 : Int32) (i2 : Int32) (I : AI) (r : Int32 × AI), f291 kad N Z a0 i1 i2 I = some r → aGo kad d 291 (0, ([(0, .ref a0), (1, .int i1), (2, .int i2)], [])) (aMem Z I, t) (qI Z t r) := by
  intro a0 i1 i2 I r h
  unfold f291 at h
  refine go_ops aMi291 2 _ (f1 := (2, ([(0, .ref a0), (1, .int i1), (2, .int i2)], [.int i1, .ref a0]))) rfl ?_
  obtain ⟨u2_1, hxu2_1, h⟩ := Option.bind_eq_some_iff.mp h
  obtain ⟨r2_2, hxr2_2, h⟩ := Option.bind_eq_some_iff.mp h
  refine gg_cv (as := [.int i1]) (r := []) aMi291 rfl rfl rfl aMi289 (Nat.le_of_ble_eq_true rfl) rfl (Nat.le_of_ble_eq_true rfl) (Nat.le_of_ble_eq_true rfl) (by omega) hxu2_1 (Tf289 (by omega) a0 i1 I _ hxr2_2) ?_
  show aGo kad d 291 (5, ([(0, .ref a0), (1, .int i1), (2, .int i2)], [.int r2_2.1])) (aMem Z r2_2.2, t) _
  refine go_ops aMi291 2 _ (f1 := (7, ([(3, .int r2_2.1), (0, .ref a0), (1, .int i1), (2, .int i2)], [.ref a0]))) rfl ?_
  obtain ⟨b7_3, hxb7_3, h⟩ := Option.bind_eq_some_iff.mp h
  refine gg_gR aMi291 rfl rfl rfl hxb7_3 ?_
  refine go_ops aMi291 1 _ (f1 := (11, ([(3, .int r2_2.1), (0, .ref a0), (1, .int i1), (2, .int i2)], [.int i1, .ref b7_3]))) rfl ?_
  obtain ⟨r11_4, hxr11_4, h⟩ := Option.bind_eq_some_iff.mp h
  refine gg_cs (as := [.ref b7_3, .int i1]) (r := []) aMi291 rfl rfl rfl aMi236 rfl (Nat.le_of_ble_eq_true rfl) (Nat.le_of_ble_eq_true rfl) (by omega) (Tf236 (by omega) b7_3 i1 r2_2.2 _ hxr11_4) ?_
  show aGo kad d 291 (14, ([(3, .int r2_2.1), (0, .ref a0), (1, .int i1), (2, .int i2)], [.int r11_4.1])) (aMem Z r11_4.2, t) _
  refine go_ops aMi291 3 _ (f1 := (18, ([(4, .int r11_4.1), (3, .int r2_2.1), (0, .ref a0), (1, .int i1), (2, .int i2)], [.int r2_2.1, .ref a0]))) rfl ?_
  refine gg_br (b := decide (r2_2.1 = 0)) (tg := 25) (off := 7) aMi291 rfl rfl rfl rfl (fun hb => ?_) (fun hb => ?_)
  · rw [if_pos (of_decide_eq_true hb)] at h
    refine go_ops aMi291 3 _ (f1 := (28, ([(4, .int r11_4.1), (3, .int r2_2.1), (0, .ref a0), (1, .int i1), (2, .int i2)], [.ref a0, .int (0 : Int32), .int i2, .ref a0]))) rfl ?_
    obtain ⟨b28_5, hxb28_5, h⟩ := Option.bind_eq_some_iff.mp h
    refine gg_gR aMi291 rfl rfl rfl hxb28_5 ?_
    refine go_ops aMi291 1 _ (f1 := (33, ([(4, .int r11_4.1), (3, .int r2_2.1), (0, .ref a0), (1, .int i1), (2, .int i2)], [.int r11_4.1, .ref b28_5, .int (0 : Int32), .int i2, .ref a0]))) rfl ?_
    obtain ⟨r33_6, hxr33_6, h⟩ := Option.bind_eq_some_iff.mp h
    refine gg_cs (as := [.int r11_4.1]) (r := [.ref b28_5, .int (0 : Int32), .int i2, .ref a0]) aMi291 rfl rfl rfl aMi235 rfl (Nat.le_of_ble_eq_true rfl) (Nat.le_of_ble_eq_true rfl) (by omega) (Tf235 (by omega) r11_4.1 r11_4.2 _ hxr33_6) ?_
    show aGo kad d 291 (36, ([(4, .int r11_4.1), (3, .int r2_2.1), (0, .ref a0), (1, .int i1), (2, .int i2)], [.int r33_6.1, .ref b28_5, .int (0 : Int32), .int i2, .ref a0])) (aMem Z r33_6.2, t) _
    refine go_ops aMi291 2 _ (f1 := (38, ([(4, .int r11_4.1), (3, .int r2_2.1), (0, .ref a0), (1, .int i1), (2, .int i2)], [.int (r33_6.1 + (1 : Int32)), .ref b28_5, .int (0 : Int32), .int i2, .ref a0]))) rfl ?_
    obtain ⟨x38_7, hxx38_7, h⟩ := Option.bind_eq_some_iff.mp h
    refine gg_lI (Or.inl ⟨rfl, rfl⟩) aMi291 rfl hxx38_7 ?_
    refine go_ops aMi291 2 _ (f1 := (41, ([(4, .int r11_4.1), (3, .int r2_2.1), (0, .ref a0), (1, .int i1), (2, .int i2)], [.int (x38_7 - (1 : Int32)), .int (0 : Int32), .int i2, .ref a0]))) rfl ?_
    obtain ⟨r41_8, hxr41_8, h⟩ := Option.bind_eq_some_iff.mp h
    refine gg_cs (as := [.int i2, .int (0 : Int32), .int (x38_7 - (1 : Int32))]) (r := [.ref a0]) aMi291 rfl rfl rfl aMi186 rfl (Nat.le_of_ble_eq_true rfl) (Nat.le_of_ble_eq_true rfl) (by omega) (Tf186 (by omega) i2 (0 : Int32) (x38_7 - (1 : Int32)) r33_6.2 _ hxr41_8) ?_
    show aGo kad d 291 (44, ([(4, .int r11_4.1), (3, .int r2_2.1), (0, .ref a0), (1, .int i1), (2, .int i2)], [.int r41_8.1, .ref a0])) (aMem Z r41_8.2, t) _
    refine gg_br (b := decide (r41_8.1 = 0)) (tg := 51) (off := 7) aMi291 rfl rfl rfl rfl (fun hb => ?_) (fun hb => ?_)
    · rw [if_pos (of_decide_eq_true hb)] at h
      refine go_ops aMi291 1 _ (f1 := (52, ([(4, .int r11_4.1), (3, .int r2_2.1), (0, .ref a0), (1, .int i1), (2, .int i2)], [.int (3 : Int32), .ref a0]))) rfl ?_
      refine go_le (lv1 := [(0, .ref a0), (2, .int i2), (4, .int r11_4.1)]) (aLe_of (show (List.map (fun q => q.1) ([(0, .ref a0), (2, .int i2), (4, .int r11_4.1)] : ALv)).Nodup from (by show ([0, 2, 4] : List Nat).Nodup; decide)) (aSubL_cons rfl (aSubL_cons rfl (aSubL_cons rfl aSubL_nil)))) ?_
      exact Tf291_b52 hd a0 i2 r11_4.1 (3 : Int32) a0 r41_8.2 _ h
    · rw [if_neg (of_decide_eq_false hb)] at h
      refine go_ops aMi291 2 _ (f1 := (52, ([(4, .int r11_4.1), (3, .int r2_2.1), (0, .ref a0), (1, .int i1), (2, .int i2)], [.int (0 : Int32), .ref a0]))) rfl ?_
      refine go_le (lv1 := [(0, .ref a0), (2, .int i2), (4, .int r11_4.1)]) (aLe_of (show (List.map (fun q => q.1) ([(0, .ref a0), (2, .int i2), (4, .int r11_4.1)] : ALv)).Nodup from (by show ([0, 2, 4] : List Nat).Nodup; decide)) (aSubL_cons rfl (aSubL_cons rfl (aSubL_cons rfl aSubL_nil)))) ?_
      exact Tf291_b52 hd a0 i2 r11_4.1 (0 : Int32) a0 r41_8.2 _ h
  · rw [if_neg (of_decide_eq_false hb)] at h
    refine go_ops aMi291 2 _ (f1 := (52, ([(4, .int r11_4.1), (3, .int r2_2.1), (0, .ref a0), (1, .int i1), (2, .int i2)], [.int r2_2.1, .ref a0]))) rfl ?_
    refine go_le (lv1 := [(0, .ref a0), (2, .int i2), (4, .int r11_4.1)]) (aLe_of (show (List.map (fun q => q.1) ([(0, .ref a0), (2, .int i2), (4, .int r11_4.1)] : ALv)).Nodup from (by show ([0, 2, 4] : List Nat).Nodup; decide)) (aSubL_cons rfl (aSubL_cons rfl (aSubL_cons rfl aSubL_nil)))) ?_
    exact Tf291_b52 hd a0 i2 r11_4.1 r2_2.1 a0 r11_4.2 _ h
