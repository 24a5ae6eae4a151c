-- KernelGymModel.back (I)I
def f264_b52 (kad : Nat → Nat) (N : Nat) (Z : AZ) (a0 : Nat) (s0 : Int32) (I : AI) : Option (Int32 × AI) :=
  (wI I a0 40 ((I a0 40) - s0)).bind fun I67_1 =>
  (f256 kad N Z a0 ((I a0 38) - s0) I67_1).bind fun r72_2 =>
  some (s0, r72_2.2)
set_option maxRecDepth 20000 in
theorem Tf264_b52 {kad : Nat → Nat} {N : Nat} {Z : AZ} {d : Nat} {t : Option Nat × (Nat × Nat)} (hd : 8 ≤ d) : ∀ (a0 : Nat) (ha0 : sh11 kad Z a0) (s0 : Int32) (I : AI) (r : Int32 × AI), f264_b52 kad N Z a0 s0 I = some r → aGo kad d 264 (52, ([(0, .ref a0)], [.int s0])) (aMem Z I, t) (qI Z t r) := by
  intro a0 ha0 s0 I r h
  unfold f264_b52 at h
  refine go_ops aMi264 2 _ (f1 := (54, ([(2, .int s0), (0, .ref a0)], [.ref a0]))) rfl ?_
  refine gg_gI aMi264 rfl rfl rfl (gI_of (sh11_z ha0)) ?_
  refine go_ops aMi264 5 _ (f1 := (62, ([(3, .int ((I a0 38) - s0)), (2, .int s0), (0, .ref a0)], [.ref a0, .ref a0]))) rfl ?_
  refine gg_gI aMi264 rfl rfl rfl (gI_of (sh11_z ha0)) ?_
  refine go_ops aMi264 2 _ (f1 := (67, ([(3, .int ((I a0 38) - s0)), (2, .int s0), (0, .ref a0)], [.int ((I a0 40) - s0), .ref a0]))) rfl ?_
  obtain ⟨I67_1, hxI67_1, h⟩ := Option.bind_eq_some_iff.mp h
  refine gg_pI aMi264 rfl rfl rfl rfl (by decide) (pI_of (sh11_z ha0) hxI67_1) ?_
  refine go_ops aMi264 2 _ (f1 := (72, ([(3, .int ((I a0 38) - s0)), (2, .int s0), (0, .ref a0)], [.int ((I a0 38) - s0), .ref a0]))) rfl ?_
  obtain ⟨r72_2, hxr72_2, h⟩ := Option.bind_eq_some_iff.mp h
  refine gg_cv (as := [.int ((I a0 38) - s0)]) (r := []) aMi264 rfl rfl rfl aMi256 (Nat.le_of_ble_eq_true rfl) rfl (Nat.le_of_ble_eq_true rfl) (Nat.le_of_ble_eq_true rfl) (by omega) (isK_of (sh11_z ha0)) (Tf256 (by omega) a0 ha0 ((I a0 38) - s0) I67_1 _ hxr72_2) ?_
  show aGo kad d 264 (75, ([(3, .int ((I a0 38) - s0)), (2, .int s0), (0, .ref a0)], [])) (aMem Z r72_2.2, t) _
  refine go_ops aMi264 1 _ (f1 := (76, ([(3, .int ((I a0 38) - s0)), (2, .int s0), (0, .ref a0)], [.int s0]))) rfl ?_
  cases h
  exact go_ret aMi264 rfl aRetI ⟨rfl, rfl⟩
def f264_b28 (kad : Nat → Nat) (N : Nat) (Z : AZ) (a0 : Nat) (i1 : Int32) (s0 : Int32) (I : AI) : Option (Int32 × AI) :=
  (f185 kad N Z a0 s0 I).bind fun r28_1 =>
  if ¬ r28_1.1 = 0 then
    if ((r28_1.2) a0 40) ≤ i1 then
      f264_b52 kad N Z a0 ((r28_1.2) a0 40) r28_1.2
    else
      f264_b52 kad N Z a0 i1 r28_1.2
  else
    some ((0 : Int32), r28_1.2)
set_option maxRecDepth 20000 in
theorem Tf264_b28 {kad : Nat → Nat} {N : Nat} {Z : AZ} {d : Nat} {t : Option Nat × (Nat × Nat)} (hd : 8 ≤ d) : ∀ (a0 : Nat) (ha0 : sh11 kad Z a0) (i1 : Int32) (s0 : Int32) (I : AI) (r : Int32 × AI), f264_b28 kad N Z a0 i1 s0 I = some r → aGo kad d 264 (28, ([(0, .ref a0), (1, .int i1)], [.int s0, .ref a0])) (aMem Z I, t) (qI Z t r) := by
  intro a0 ha0 i1 s0 I r h
  unfold f264_b28 at h
  obtain ⟨r28_1, hxr28_1, h⟩ := Option.bind_eq_some_iff.mp h
  refine gg_cv (as := [.int s0]) (r := []) aMi264 rfl rfl rfl aMi185 (Nat.le_of_ble_eq_true rfl) rfl (Nat.le_of_ble_eq_true rfl) (Nat.le_of_ble_eq_true rfl) (by omega) (isK_of (sh11_z ha0)) (Tf185 (by omega) a0 ha0 s0 I _ hxr28_1) ?_
  show aGo kad d 264 (31, ([(0, .ref a0), (1, .int i1)], [.int r28_1.1])) (aMem Z r28_1.2, t) _
  refine gg_br (b := decide (¬ r28_1.1 = 0)) (tg := 36) (off := 5) aMi264 rfl rfl rfl rfl (fun hb => ?_) (fun hb => ?_)
  · rw [if_pos (of_decide_eq_true hb)] at h
    refine go_ops aMi264 2 _ (f1 := (38, ([(0, .ref a0), (1, .int i1)], [.ref a0, .int i1]))) rfl ?_
    refine gg_gI aMi264 rfl rfl rfl (gI_of (sh11_z ha0)) ?_
    refine gg_br (b := decide (((r28_1.2) a0 40) ≤ i1)) (tg := 48) (off := 7) aMi264 rfl rfl rfl rfl (fun hb => ?_) (fun hb => ?_)
    · rw [if_pos (of_decide_eq_true hb)] at h
      refine go_ops aMi264 1 _ (f1 := (49, ([(0, .ref a0), (1, .int i1)], [.ref a0]))) rfl ?_
      refine gg_gI aMi264 rfl rfl rfl (gI_of (sh11_z ha0)) ?_
      refine go_le (lv1 := [(0, .ref a0)]) (aLe_of (show (List.map (fun q => q.1) ([(0, .ref a0)] : ALv)).Nodup from (by show ([0] : List Nat).Nodup; decide)) (aSubL_cons rfl aSubL_nil)) ?_
      exact Tf264_b52 hd a0 ha0 ((r28_1.2) a0 40) r28_1.2 _ h
    · rw [if_neg (of_decide_eq_false hb)] at h
      refine go_ops aMi264 2 _ (f1 := (52, ([(0, .ref a0), (1, .int i1)], [.int i1]))) rfl ?_
      refine go_le (lv1 := [(0, .ref a0)]) (aLe_of (show (List.map (fun q => q.1) ([(0, .ref a0)] : ALv)).Nodup from (by show ([0] : List Nat).Nodup; decide)) (aSubL_cons rfl aSubL_nil)) ?_
      exact Tf264_b52 hd a0 ha0 i1 r28_1.2 _ h
  · rw [if_neg (of_decide_eq_false hb)] at h
    refine go_ops aMi264 1 _ (f1 := (35, ([(0, .ref a0), (1, .int i1)], [.int (0 : Int32)]))) rfl ?_
    cases h
    exact go_ret aMi264 rfl aRetI ⟨rfl, rfl⟩
def f264 (kad : Nat → Nat) (N : Nat) (Z : AZ) (a0 : Nat) (i1 : Int32) (I : AI) : Option (Int32 × AI) :=
  (f186 kad N Z i1 (1 : Int32) (200 : Int32) I).bind fun r6_1 =>
  if ¬ r6_1.1 = 0 then
    (f216 kad N Z a0 r6_1.2).bind fun r17_2 =>
    if r17_2.1 = 0 then
      f264_b28 kad N Z a0 i1 (2 : Int32) r17_2.2
    else
      f264_b28 kad N Z a0 i1 (0 : Int32) r17_2.2
  else
    f264_b28 kad N Z a0 i1 (1 : Int32) r6_1.2
set_option maxRecDepth 20000 in
theorem Tf264 {kad : Nat → Nat} {N : Nat} {Z : AZ} {d : Nat} {t : Option Nat × (Nat × Nat)} (hd : 8 ≤ d) : ∀ (a0 : Nat) (ha0 : sh11 kad Z a0) (i1 : Int32) (I : AI) (r : Int32 × AI), f264 kad N Z a0 i1 I = some r → aGo kad d 264 (0, ([(0, .ref a0), (1, .int i1)], [])) (aMem Z I, t) (qI Z t r) := by
  intro a0 ha0 i1 I r h
  unfold f264 at h
  refine go_ops aMi264 4 _ (f1 := (6, ([(0, .ref a0), (1, .int i1)], [.int (200 : Int32), .int (1 : Int32), .int i1, .ref a0]))) rfl ?_
  obtain ⟨r6_1, hxr6_1, h⟩ := Option.bind_eq_some_iff.mp h
  refine gg_cs (as := [.int i1, .int (1 : Int32), .int (200 : Int32)]) (r := [.ref a0]) aMi264 rfl rfl rfl aMi186 rfl (Nat.le_of_ble_eq_true rfl) (Nat.le_of_ble_eq_true rfl) (by omega) (Tf186 (by omega) i1 (1 : Int32) (200 : Int32) I _ hxr6_1) ?_
  show aGo kad d 264 (9, ([(0, .ref a0), (1, .int i1)], [.int r6_1.1, .ref a0])) (aMem Z r6_1.2, t) _
  refine gg_br (b := decide (¬ r6_1.1 = 0)) (tg := 16) (off := 7) aMi264 rfl rfl rfl rfl (fun hb => ?_) (fun hb => ?_)
  · rw [if_pos (of_decide_eq_true hb)] at h
    refine go_ops aMi264 1 _ (f1 := (17, ([(0, .ref a0), (1, .int i1)], [.ref a0, .ref a0]))) rfl ?_
    obtain ⟨r17_2, hxr17_2, h⟩ := Option.bind_eq_some_iff.mp h
    refine gg_cv (as := []) (r := [.ref a0]) aMi264 rfl rfl rfl aMi216 (Nat.le_of_ble_eq_true rfl) rfl (Nat.le_of_ble_eq_true rfl) (Nat.le_of_ble_eq_true rfl) (by omega) (isK_of (sh11_z ha0)) (Tf216 (by omega) a0 ha0 r6_1.2 _ hxr17_2) ?_
    show aGo kad d 264 (20, ([(0, .ref a0), (1, .int i1)], [.int r17_2.1, .ref a0])) (aMem Z r17_2.2, t) _
    refine gg_br (b := decide (r17_2.1 = 0)) (tg := 27) (off := 7) aMi264 rfl rfl rfl rfl (fun hb => ?_) (fun hb => ?_)
    · rw [if_pos (of_decide_eq_true hb)] at h
      refine go_ops aMi264 1 _ (f1 := (28, ([(0, .ref a0), (1, .int i1)], [.int (2 : Int32), .ref a0]))) rfl ?_
      exact Tf264_b28 hd a0 ha0 i1 (2 : Int32) r17_2.2 _ h
    · rw [if_neg (of_decide_eq_false hb)] at h
      refine go_ops aMi264 2 _ (f1 := (28, ([(0, .ref a0), (1, .int i1)], [.int (0 : Int32), .ref a0]))) rfl ?_
      exact Tf264_b28 hd a0 ha0 i1 (0 : Int32) r17_2.2 _ h
  · rw [if_neg (of_decide_eq_false hb)] at h
    refine go_ops aMi264 2 _ (f1 := (28, ([(0, .ref a0), (1, .int i1)], [.int (1 : Int32), .ref a0]))) rfl ?_
    exact Tf264_b28 hd a0 ha0 i1 (1 : Int32) r6_1.2 _ h
-- KernelGymModel.press (I)I
def f265_b103 (kad : Nat → Nat) (N : Nat) (Z : AZ) (a0 : Nat) (i1 : Int32) (i2 : Int32) (I : AI) : Option (Int32 × AI) :=
  (ixA 20 i2).bind fun j112_2 =>
  (wI I (a0 + 18) j112_2 (I a0 38)).bind fun I112_1 =>
  (ixA 20 i2).bind fun j119_4 =>
  (wI I112_1 (a0 + 19) j119_4 i1).bind fun I119_3 =>
  (wI I119_3 a0 43 ((I119_3 a0 43) + (1 : Int32))).bind fun I127_5 =>
  (wI I127_5 a0 33 (1 : Int32)).bind fun I132_6 =>
  some ((I132_6 a0 43), I132_6)
set_option maxRecDepth 20000 in
theorem Tf265_b103 {kad : Nat → Nat} {N : Nat} {Z : AZ} {d : Nat} {t : Option Nat × (Nat × Nat)} (hd : 1 ≤ d) : ∀ (a0 : Nat) (ha0 : sh11 kad Z a0) (i1 : Int32) (i2 : Int32) (I : AI) (r : Int32 × AI), f265_b103 kad N Z a0 i1 i2 I = some r → aGo kad d 265 (103, ([(0, .ref a0), (1, .int i1), (2, .int i2)], [])) (aMem Z I, t) (qI Z t r) := by
  intro a0 ha0 i1 i2 I r h
  unfold f265_b103 at h
  refine go_ops aMi265 1 _ (f1 := (104, ([(0, .ref a0), (1, .int i1), (2, .int i2)], [.ref a0]))) rfl ?_
  refine gg_gR (b := (a0 + 18)) aMi265 rfl rfl rfl (gR_of (sh11_z ha0) (sh11_r41 ha0)) ?_
  refine go_ops aMi265 2 _ (f1 := (109, ([(0, .ref a0), (1, .int i1), (2, .int i2)], [.ref a0, .int i2, .ref (a0 + 18)]))) rfl ?_
  refine gg_gI aMi265 rfl rfl rfl (gI_of (sh11_z ha0)) ?_
  obtain ⟨j112_2, hxj112_2, h⟩ := Option.bind_eq_some_iff.mp h
  obtain ⟨I112_1, hxI112_1, h⟩ := Option.bind_eq_some_iff.mp h
  refine gg_sI (Or.inl ⟨rfl, rfl⟩) aMi265 rfl (sI_of (sh11_a41 ha0) hxj112_2 hxI112_1) ?_
  refine go_ops aMi265 1 _ (f1 := (114, ([(0, .ref a0), (1, .int i1), (2, .int i2)], [.ref a0]))) rfl ?_
  refine gg_gR (b := (a0 + 19)) aMi265 rfl rfl rfl (gR_of (sh11_z ha0) (sh11_r42 ha0)) ?_
  refine go_ops aMi265 2 _ (f1 := (119, ([(0, .ref a0), (1, .int i1), (2, .int i2)], [.int i1, .int i2, .ref (a0 + 19)]))) rfl ?_
  obtain ⟨j119_4, hxj119_4, h⟩ := Option.bind_eq_some_iff.mp h
  obtain ⟨I119_3, hxI119_3, h⟩ := Option.bind_eq_some_iff.mp h
  refine gg_sI (Or.inl ⟨rfl, rfl⟩) aMi265 rfl (sI_of (sh11_a42 ha0) hxj119_4 hxI119_3) ?_
  refine go_ops aMi265 2 _ (f1 := (122, ([(0, .ref a0), (1, .int i1), (2, .int i2)], [.ref a0, .ref a0]))) rfl ?_
  refine gg_gI aMi265 rfl rfl rfl (gI_of (sh11_z ha0)) ?_
  refine go_ops aMi265 2 _ (f1 := (127, ([(0, .ref a0), (1, .int i1), (2, .int i2)], [.int ((I119_3 a0 43) + (1 : Int32)), .ref a0]))) rfl ?_
  obtain ⟨I127_5, hxI127_5, h⟩ := Option.bind_eq_some_iff.mp h
  refine gg_pI aMi265 rfl rfl rfl rfl (by decide) (pI_of (sh11_z ha0) hxI127_5) ?_
  refine go_ops aMi265 2 _ (f1 := (132, ([(0, .ref a0), (1, .int i1), (2, .int i2)], [.int (1 : Int32), .ref a0]))) rfl ?_
  obtain ⟨I132_6, hxI132_6, h⟩ := Option.bind_eq_some_iff.mp h
  refine gg_pB aMi265 rfl rfl rfl rfl (by decide) (pB_lit (sh11_z ha0) (Or.inr rfl) hxI132_6) ?_
  refine go_ops aMi265 1 _ (f1 := (136, ([(0, .ref a0), (1, .int i1), (2, .int i2)], [.ref a0]))) rfl ?_
  refine gg_gI aMi265 rfl rfl rfl (gI_of (sh11_z ha0)) ?_
  cases h
  exact go_ret aMi265 rfl aRetI ⟨rfl, rfl⟩
def f265_b50 (kad : Nat → Nat) (N : Nat) (Z : AZ) : Nat → Nat → Int32 → Int32 → AI → Option (Int32 × AI)
  | 0, _, _, _, _ => none
  | F + 1, a0, i1, i2, I =>
    if i2 ≤ 0 then
      f265_b103 kad N Z a0 i1 i2 I
    else
      (ixA 20 (i2 - (1 : Int32))).bind fun j61_1 =>
      if (I (a0 + 18) j61_1) ≤ (I a0 38) then
        f265_b103 kad N Z a0 i1 i2 I
      else
        (ixA 20 (i2 - (1 : Int32))).bind fun j81_2 =>
        (ixA 20 i2).bind fun j82_4 =>
        (wI I (a0 + 18) j82_4 (I (a0 + 18) j81_2)).bind fun I82_3 =>
        (ixA 20 (i2 - (1 : Int32))).bind fun j95_5 =>
        (ixA 20 i2).bind fun j96_7 =>
        (wI I82_3 (a0 + 19) j96_7 (I82_3 (a0 + 19) j95_5)).bind fun I96_6 =>
        f265_b50 kad N Z F a0 i1 (i2 + (Int32.ofInt (-1))) I96_6
set_option maxRecDepth 20000 in
theorem Tf265_b50 {kad : Nat → Nat} {N : Nat} {Z : AZ} {d : Nat} {t : Option Nat × (Nat × Nat)} (hd : 1 ≤ d) : ∀ (F : Nat) (a0 : Nat) (ha0 : sh11 kad Z a0) (i1 : Int32) (i2 : Int32) (I : AI) (r : Int32 × AI), f265_b50 kad N Z F a0 i1 i2 I = some r → aGo kad d 265 (50, ([(0, .ref a0), (1, .int i1), (2, .int i2)], [])) (aMem Z I, t) (qI Z t r) := by
  intro F
  induction F with
  | zero => intro a0 ha0 i1 i2 I r h; cases h
  | succ F ih =>
    intro a0 ha0 i1 i2 I r h
    unfold f265_b50 at h
    refine go_ops aMi265 1 _ (f1 := (51, ([(0, .ref a0), (1, .int i1), (2, .int i2)], [.int i2]))) rfl ?_
    refine gg_br (b := decide (i2 ≤ 0)) (tg := 103) (off := 52) aMi265 rfl rfl rfl rfl (fun hb => ?_) (fun hb => ?_)
    · rw [if_pos (of_decide_eq_true hb)] at h
      exact Tf265_b103 hd a0 ha0 i1 i2 I _ h
    · rw [if_neg (of_decide_eq_false hb)] at h
      refine go_ops aMi265 1 _ (f1 := (55, ([(0, .ref a0), (1, .int i1), (2, .int i2)], [.ref a0]))) rfl ?_
      refine gg_gR (b := (a0 + 18)) aMi265 rfl rfl rfl (gR_of (sh11_z ha0) (sh11_r41 ha0)) ?_
      refine go_ops aMi265 3 _ (f1 := (61, ([(0, .ref a0), (1, .int i1), (2, .int i2)], [.int (i2 - (1 : Int32)), .ref (a0 + 18)]))) rfl ?_
      obtain ⟨j61_1, hxj61_1, h⟩ := Option.bind_eq_some_iff.mp h
      refine gg_lI (Or.inl ⟨rfl, rfl⟩) aMi265 rfl (lI_of (sh11_a41 ha0) hxj61_1) ?_
      refine go_ops aMi265 1 _ (f1 := (63, ([(0, .ref a0), (1, .int i1), (2, .int i2)], [.ref a0, .int (I (a0 + 18) j61_1)]))) rfl ?_
      refine gg_gI aMi265 rfl rfl rfl (gI_of (sh11_z ha0)) ?_
      refine gg_br (b := decide ((I (a0 + 18) j61_1) ≤ (I a0 38))) (tg := 103) (off := 37) aMi265 rfl rfl rfl rfl (fun hb => ?_) (fun hb => ?_)
      · rw [if_pos (of_decide_eq_true hb)] at h
        exact Tf265_b103 hd a0 ha0 i1 i2 I _ h
      · rw [if_neg (of_decide_eq_false hb)] at h
        refine go_ops aMi265 1 _ (f1 := (70, ([(0, .ref a0), (1, .int i1), (2, .int i2)], [.ref a0]))) rfl ?_
        refine gg_gR (b := (a0 + 18)) aMi265 rfl rfl rfl (gR_of (sh11_z ha0) (sh11_r41 ha0)) ?_
        refine go_ops aMi265 2 _ (f1 := (75, ([(0, .ref a0), (1, .int i1), (2, .int i2)], [.ref a0, .int i2, .ref (a0 + 18)]))) rfl ?_
        refine gg_gR (b := (a0 + 18)) aMi265 rfl rfl rfl (gR_of (sh11_z ha0) (sh11_r41 ha0)) ?_
        refine go_ops aMi265 3 _ (f1 := (81, ([(0, .ref a0), (1, .int i1), (2, .int i2)], [.int (i2 - (1 : Int32)), .ref (a0 + 18), .int i2, .ref (a0 + 18)]))) rfl ?_
        obtain ⟨j81_2, hxj81_2, h⟩ := Option.bind_eq_some_iff.mp h
        refine gg_lI (Or.inl ⟨rfl, rfl⟩) aMi265 rfl (lI_of (sh11_a41 ha0) hxj81_2) ?_
        obtain ⟨j82_4, hxj82_4, h⟩ := Option.bind_eq_some_iff.mp h
        obtain ⟨I82_3, hxI82_3, h⟩ := Option.bind_eq_some_iff.mp h
        refine gg_sI (Or.inl ⟨rfl, rfl⟩) aMi265 rfl (sI_of (sh11_a41 ha0) hxj82_4 hxI82_3) ?_
        refine go_ops aMi265 1 _ (f1 := (84, ([(0, .ref a0), (1, .int i1), (2, .int i2)], [.ref a0]))) rfl ?_
        refine gg_gR (b := (a0 + 19)) aMi265 rfl rfl rfl (gR_of (sh11_z ha0) (sh11_r42 ha0)) ?_
        refine go_ops aMi265 2 _ (f1 := (89, ([(0, .ref a0), (1, .int i1), (2, .int i2)], [.ref a0, .int i2, .ref (a0 + 19)]))) rfl ?_
        refine gg_gR (b := (a0 + 19)) aMi265 rfl rfl rfl (gR_of (sh11_z ha0) (sh11_r42 ha0)) ?_
        refine go_ops aMi265 3 _ (f1 := (95, ([(0, .ref a0), (1, .int i1), (2, .int i2)], [.int (i2 - (1 : Int32)), .ref (a0 + 19), .int i2, .ref (a0 + 19)]))) rfl ?_
        obtain ⟨j95_5, hxj95_5, h⟩ := Option.bind_eq_some_iff.mp h
        refine gg_lI (Or.inl ⟨rfl, rfl⟩) aMi265 rfl (lI_of (sh11_a42 ha0) hxj95_5) ?_
        obtain ⟨j96_7, hxj96_7, h⟩ := Option.bind_eq_some_iff.mp h
        obtain ⟨I96_6, hxI96_6, h⟩ := Option.bind_eq_some_iff.mp h
        refine gg_sI (Or.inl ⟨rfl, rfl⟩) aMi265 rfl (sI_of (sh11_a42 ha0) hxj96_7 hxI96_6) ?_
        refine go_ops aMi265 2 _ (f1 := (50, ([(2, .int (i2 + (Int32.ofInt (-1)))), (0, .ref a0), (1, .int i1)], []))) rfl ?_
        refine go_le (lv1 := [(0, .ref a0), (1, .int i1), (2, .int (i2 + (Int32.ofInt (-1))))]) (aLe_of (show (List.map (fun q => q.1) ([(0, .ref a0), (1, .int i1), (2, .int (i2 + (Int32.ofInt (-1))))] : ALv)).Nodup from (by show ([0, 1, 2] : List Nat).Nodup; decide)) (aSubL_cons rfl (aSubL_cons rfl (aSubL_cons rfl aSubL_nil)))) ?_
        exact ih a0 ha0 i1 (i2 + (Int32.ofInt (-1))) I96_6 _ h
def f265_b37 (kad : Nat → Nat) (N : Nat) (Z : AZ) (a0 : Nat) (i1 : Int32) (s0 : Int32) (I : AI) : Option (Int32 × AI) :=
  (f185 kad N Z a0 s0 I).bind fun r37_1 =>
  if ¬ r37_1.1 = 0 then
    f265_b50 kad N Z N a0 i1 ((r37_1.2) a0 43) r37_1.2
  else
    some ((0 : Int32), r37_1.2)
set_option maxRecDepth 20000 in
theorem Tf265_b37 {kad : Nat → Nat} {N : Nat} {Z : AZ} {d : Nat} {t : Option Nat × (Nat × Nat)} (hd : 1 ≤ d) : ∀ (a0 : Nat) (ha0 : sh11 kad Z a0) (i1 : Int32) (s0 : Int32) (I : AI) (r : Int32 × AI), f265_b37 kad N Z a0 i1 s0 I = some r → aGo kad d 265 (37, ([(0, .ref a0), (1, .int i1)], [.int s0, .ref a0])) (aMem Z I, t) (qI Z t r) := by
  intro a0 ha0 i1 s0 I r h
  unfold f265_b37 at h
  obtain ⟨r37_1, hxr37_1, h⟩ := Option.bind_eq_some_iff.mp h
  refine gg_cv (as := [.int s0]) (r := []) aMi265 rfl rfl rfl aMi185 (Nat.le_of_ble_eq_true rfl) rfl (Nat.le_of_ble_eq_true rfl) (Nat.le_of_ble_eq_true rfl) (by omega) (isK_of (sh11_z ha0)) (Tf185 (by omega) a0 ha0 s0 I _ hxr37_1) ?_
  show aGo kad d 265 (40, ([(0, .ref a0), (1, .int i1)], [.int r37_1.1])) (aMem Z r37_1.2, t) _
  refine gg_br (b := decide (¬ r37_1.1 = 0)) (tg := 45) (off := 5) aMi265 rfl rfl rfl rfl (fun hb => ?_) (fun hb => ?_)
  · rw [if_pos (of_decide_eq_true hb)] at h
    refine go_ops aMi265 1 _ (f1 := (46, ([(0, .ref a0), (1, .int i1)], [.ref a0]))) rfl ?_
    refine gg_gI aMi265 rfl rfl rfl (gI_of (sh11_z ha0)) ?_
    refine go_ops aMi265 1 _ (f1 := (50, ([(2, .int ((r37_1.2) a0 43)), (0, .ref a0), (1, .int i1)], []))) rfl ?_
    refine go_le (lv1 := [(0, .ref a0), (1, .int i1), (2, .int ((r37_1.2) a0 43))]) (aLe_of (show (List.map (fun q => q.1) ([(0, .ref a0), (1, .int i1), (2, .int ((r37_1.2) a0 43))] : ALv)).Nodup from (by show ([0, 1, 2] : List Nat).Nodup; decide)) (aSubL_cons rfl (aSubL_cons rfl (aSubL_cons rfl aSubL_nil)))) ?_
    exact Tf265_b50 hd N a0 ha0 i1 ((r37_1.2) a0 43) r37_1.2 _ h
  · rw [if_neg (of_decide_eq_false hb)] at h
    refine go_ops aMi265 1 _ (f1 := (44, ([(0, .ref a0), (1, .int i1)], [.int (0 : Int32)]))) rfl ?_
    cases h
    exact go_ret aMi265 rfl aRetI ⟨rfl, rfl⟩
def f265_b32 (kad : Nat → Nat) (N : Nat) (Z : AZ) (a0 : Nat) (i1 : Int32) (I : AI) : Option (Int32 × AI) :=
  f265_b37 kad N Z a0 i1 (2 : Int32) I
set_option maxRecDepth 20000 in
theorem Tf265_b32 {kad : Nat → Nat} {N : Nat} {Z : AZ} {d : Nat} {t : Option Nat × (Nat × Nat)} (hd : 1 ≤ d) : ∀ (a0 : Nat) (ha0 : sh11 kad Z a0) (i1 : Int32) (I : AI) (r : Int32 × AI), f265_b32 kad N Z a0 i1 I = some r → aGo kad d 265 (32, ([(0, .ref a0), (1, .int i1)], [.ref a0])) (aMem Z I, t) (qI Z t r) := by
  intro a0 ha0 i1 I r h
  unfold f265_b32 at h
  refine go_ops aMi265 2 _ (f1 := (37, ([(0, .ref a0), (1, .int i1)], [.int (2 : Int32), .ref a0]))) rfl ?_
  exact Tf265_b37 hd a0 ha0 i1 (2 : Int32) I _ h
def f265 (kad : Nat → Nat) (N : Nat) (Z : AZ) (a0 : Nat) (i1 : Int32) (I : AI) : Option (Int32 × AI) :=
  (f186 kad N Z i1 (0 : Int32) (65535 : Int32) I).bind fun r5_1 =>
  if ¬ r5_1.1 = 0 then
    if ¬ ((r5_1.2) a0 23) = (1 : Int32) then
      f265_b32 kad N Z a0 i1 r5_1.2
    else
      if ¬ ((r5_1.2) a0 43) = (20 : Int32) then
        f265_b37 kad N Z a0 i1 (0 : Int32) r5_1.2
      else
        f265_b32 kad N Z a0 i1 r5_1.2
  else
    f265_b37 kad N Z a0 i1 (1 : Int32) r5_1.2
set_option maxRecDepth 20000 in
theorem Tf265 {kad : Nat → Nat} {N : Nat} {Z : AZ} {d : Nat} {t : Option Nat × (Nat × Nat)} (hd : 1 ≤ d) : ∀ (a0 : Nat) (ha0 : sh11 kad Z a0) (i1 : Int32) (I : AI) (r : Int32 × AI), f265 kad N Z a0 i1 I = some r → aGo kad d 265 (0, ([(0, .ref a0), (1, .int i1)], [])) (aMem Z I, t) (qI Z t r) := by
  intro a0 ha0 i1 I r h
  unfold f265 at h
  refine go_ops aMi265 3 _ (f1 := (3, ([(0, .ref a0), (1, .int i1)], [.int (0 : Int32), .int i1, .ref a0]))) rfl ?_
  refine gg_kI (Or.inl ⟨rfl, rfl⟩) aMi265 rfl rfl ?_
  obtain ⟨r5_1, hxr5_1, h⟩ := Option.bind_eq_some_iff.mp h
  refine gg_cs (as := [.int i1, .int (0 : Int32), .int (65535 : Int32)]) (r := [.ref a0]) aMi265 rfl rfl rfl aMi186 rfl (Nat.le_of_ble_eq_true rfl) (Nat.le_of_ble_eq_true rfl) (by omega) (Tf186 (by omega) i1 (0 : Int32) (65535 : Int32) I _ hxr5_1) ?_
  show aGo kad d 265 (8, ([(0, .ref a0), (1, .int i1)], [.int r5_1.1, .ref a0])) (aMem Z r5_1.2, t) _
  refine gg_br (b := decide (¬ r5_1.1 = 0)) (tg := 15) (off := 7) aMi265 rfl rfl rfl rfl (fun hb => ?_) (fun hb => ?_)
  · rw [if_pos (of_decide_eq_true hb)] at h
    refine go_ops aMi265 1 _ (f1 := (16, ([(0, .ref a0), (1, .int i1)], [.ref a0, .ref a0]))) rfl ?_
    refine gg_gI aMi265 rfl rfl rfl (gI_of (sh11_z ha0)) ?_
    refine go_ops aMi265 1 _ (f1 := (20, ([(0, .ref a0), (1, .int i1)], [.int (1 : Int32), .int ((r5_1.2) a0 23), .ref a0]))) rfl ?_
    refine gg_br (b := decide (¬ ((r5_1.2) a0 23) = (1 : Int32))) (tg := 32) (off := 12) aMi265 rfl rfl rfl rfl (fun hb => ?_) (fun hb => ?_)
    · rw [if_pos (of_decide_eq_true hb)] at h
      exact Tf265_b32 hd a0 ha0 i1 r5_1.2 _ h
    · rw [if_neg (of_decide_eq_false hb)] at h
      refine go_ops aMi265 1 _ (f1 := (24, ([(0, .ref a0), (1, .int i1)], [.ref a0, .ref a0]))) rfl ?_
      refine gg_gI aMi265 rfl rfl rfl (gI_of (sh11_z ha0)) ?_
      refine go_ops aMi265 1 _ (f1 := (29, ([(0, .ref a0), (1, .int i1)], [.int (20 : Int32), .int ((r5_1.2) a0 43), .ref a0]))) rfl ?_
      refine gg_br (b := decide (¬ ((r5_1.2) a0 43) = (20 : Int32))) (tg := 36) (off := 7) aMi265 rfl rfl rfl rfl (fun hb => ?_) (fun hb => ?_)
      · rw [if_pos (of_decide_eq_true hb)] at h
        refine go_ops aMi265 1 _ (f1 := (37, ([(0, .ref a0), (1, .int i1)], [.int (0 : Int32), .ref a0]))) rfl ?_
        exact Tf265_b37 hd a0 ha0 i1 (0 : Int32) r5_1.2 _ h
      · rw [if_neg (of_decide_eq_false hb)] at h
        exact Tf265_b32 hd a0 ha0 i1 r5_1.2 _ h
  · rw [if_neg (of_decide_eq_false hb)] at h
    refine go_ops aMi265 2 _ (f1 := (37, ([(0, .ref a0), (1, .int i1)], [.int (1 : Int32), .ref a0]))) rfl ?_
    exact Tf265_b37 hd a0 ha0 i1 (1 : Int32) r5_1.2 _ h
-- KernelGymModel.state ()I
def f266 (kad : Nat → Nat) (N : Nat) (Z : AZ) (a0 : Nat) (I : AI) : Option (Int32 × AI) :=
  (wI I a0 0 (0 : Int32)).bind fun I2_1 =>
  some ((I2_1 a0 23), I2_1)
set_option maxRecDepth 20000 in
theorem Tf266 {kad : Nat → Nat} {N : Nat} {Z : AZ} {d : Nat} {t : Option Nat × (Nat × Nat)} (hd : 0 ≤ d) : ∀ (a0 : Nat) (ha0 : sh11 kad Z a0) (I : AI) (r : Int32 × AI), f266 kad N Z a0 I = some r → aGo kad d 266 (0, ([(0, .ref a0)], [])) (aMem Z I, t) (qI Z t r) := by
  intro a0 ha0 I r h
  unfold f266 at h
  refine go_ops aMi266 2 _ (f1 := (2, ([(0, .ref a0)], [.int (0 : Int32), .ref a0]))) rfl ?_
  obtain ⟨I2_1, hxI2_1, h⟩ := Option.bind_eq_some_iff.mp h
  refine gg_pI aMi266 rfl rfl rfl rfl (by decide) (pI_of (sh11_z ha0) hxI2_1) ?_
  refine go_ops aMi266 1 _ (f1 := (6, ([(0, .ref a0)], [.ref a0]))) rfl ?_
  refine gg_gI aMi266 rfl rfl rfl (gI_of (sh11_z ha0)) ?_
  cases h
  exact go_ret aMi266 rfl aRetI ⟨rfl, rfl⟩
-- KernelGymModel.fault ()I
def f267 (kad : Nat → Nat) (N : Nat) (Z : AZ) (a0 : Nat) (I : AI) : Option (Int32 × AI) :=
  (wI I a0 0 (0 : Int32)).bind fun I2_1 =>
  some ((I2_1 a0 24), I2_1)
set_option maxRecDepth 20000 in
theorem Tf267 {kad : Nat → Nat} {N : Nat} {Z : AZ} {d : Nat} {t : Option Nat × (Nat × Nat)} (hd : 0 ≤ d) : ∀ (a0 : Nat) (ha0 : sh11 kad Z a0) (I : AI) (r : Int32 × AI), f267 kad N Z a0 I = some r → aGo kad d 267 (0, ([(0, .ref a0)], [])) (aMem Z I, t) (qI Z t r) := by
  intro a0 ha0 I r h
  unfold f267 at h
  refine go_ops aMi267 2 _ (f1 := (2, ([(0, .ref a0)], [.int (0 : Int32), .ref a0]))) rfl ?_
  obtain ⟨I2_1, hxI2_1, h⟩ := Option.bind_eq_some_iff.mp h
  refine gg_pI aMi267 rfl rfl rfl rfl (by decide) (pI_of (sh11_z ha0) hxI2_1) ?_
  refine go_ops aMi267 1 _ (f1 := (6, ([(0, .ref a0)], [.ref a0]))) rfl ?_
  refine gg_gI aMi267 rfl rfl rfl (gI_of (sh11_z ha0)) ?_
  cases h
  exact go_ret aMi267 rfl aRetI ⟨rfl, rfl⟩
-- KernelGymModel.steps ()I
def f268 (kad : Nat → Nat) (N : Nat) (Z : AZ) (a0 : Nat) (I : AI) : Option (Int32 × AI) :=
  (wI I a0 0 (0 : Int32)).bind fun I2_1 =>
  some ((I2_1 a0 38), I2_1)
set_option maxRecDepth 20000 in
theorem Tf268 {kad : Nat → Nat} {N : Nat} {Z : AZ} {d : Nat} {t : Option Nat × (Nat × Nat)} (hd : 0 ≤ d) : ∀ (a0 : Nat) (ha0 : sh11 kad Z a0) (I : AI) (r : Int32 × AI), f268 kad N Z a0 I = some r → aGo kad d 268 (0, ([(0, .ref a0)], [])) (aMem Z I, t) (qI Z t r) := by
  intro a0 ha0 I r h
  unfold f268 at h
  refine go_ops aMi268 2 _ (f1 := (2, ([(0, .ref a0)], [.int (0 : Int32), .ref a0]))) rfl ?_
  obtain ⟨I2_1, hxI2_1, h⟩ := Option.bind_eq_some_iff.mp h
  refine gg_pI aMi268 rfl rfl rfl rfl (by decide) (pI_of (sh11_z ha0) hxI2_1) ?_
  refine go_ops aMi268 1 _ (f1 := (6, ([(0, .ref a0)], [.ref a0]))) rfl ?_
  refine gg_gI aMi268 rfl rfl rfl (gI_of (sh11_z ha0)) ?_
  cases h
  exact go_ret aMi268 rfl aRetI ⟨rfl, rfl⟩
-- KernelGymModel.kept ()I
def f269 (kad : Nat → Nat) (N : Nat) (Z : AZ) (a0 : Nat) (I : AI) : Option (Int32 × AI) :=
  (wI I a0 0 (0 : Int32)).bind fun I2_1 =>
  some ((I2_1 a0 40), I2_1)
set_option maxRecDepth 20000 in
theorem Tf269 {kad : Nat → Nat} {N : Nat} {Z : AZ} {d : Nat} {t : Option Nat × (Nat × Nat)} (hd : 0 ≤ d) : ∀ (a0 : Nat) (ha0 : sh11 kad Z a0) (I : AI) (r : Int32 × AI), f269 kad N Z a0 I = some r → aGo kad d 269 (0, ([(0, .ref a0)], [])) (aMem Z I, t) (qI Z t r) := by
  intro a0 ha0 I r h
  unfold f269 at h
  refine go_ops aMi269 2 _ (f1 := (2, ([(0, .ref a0)], [.int (0 : Int32), .ref a0]))) rfl ?_
  obtain ⟨I2_1, hxI2_1, h⟩ := Option.bind_eq_some_iff.mp h
  refine gg_pI aMi269 rfl rfl rfl rfl (by decide) (pI_of (sh11_z ha0) hxI2_1) ?_
  refine go_ops aMi269 1 _ (f1 := (6, ([(0, .ref a0)], [.ref a0]))) rfl ?_
  refine gg_gI aMi269 rfl rfl rfl (gI_of (sh11_z ha0)) ?_
  cases h
  exact go_ret aMi269 rfl aRetI ⟨rfl, rfl⟩
-- KernelGymModel.counter ()I
def f270 (kad : Nat → Nat) (N : Nat) (Z : AZ) (a0 : Nat) (I : AI) : Option (Int32 × AI) :=
  (wI I a0 0 (0 : Int32)).bind fun I2_1 =>
  some ((I2_1 a0 27), I2_1)
set_option maxRecDepth 20000 in
theorem Tf270 {kad : Nat → Nat} {N : Nat} {Z : AZ} {d : Nat} {t : Option Nat × (Nat × Nat)} (hd : 0 ≤ d) : ∀ (a0 : Nat) (ha0 : sh11 kad Z a0) (I : AI) (r : Int32 × AI), f270 kad N Z a0 I = some r → aGo kad d 270 (0, ([(0, .ref a0)], [])) (aMem Z I, t) (qI Z t r) := by
  intro a0 ha0 I r h
  unfold f270 at h
  refine go_ops aMi270 2 _ (f1 := (2, ([(0, .ref a0)], [.int (0 : Int32), .ref a0]))) rfl ?_
  obtain ⟨I2_1, hxI2_1, h⟩ := Option.bind_eq_some_iff.mp h
  refine gg_pI aMi270 rfl rfl rfl rfl (by decide) (pI_of (sh11_z ha0) hxI2_1) ?_
  refine go_ops aMi270 1 _ (f1 := (6, ([(0, .ref a0)], [.ref a0]))) rfl ?_
  refine gg_gI aMi270 rfl rfl rfl (gI_of (sh11_z ha0)) ?_
  cases h
  exact go_ret aMi270 rfl aRetI ⟨rfl, rfl⟩
-- KernelGymModel.stack ()I
def f271 (kad : Nat → Nat) (N : Nat) (Z : AZ) (a0 : Nat) (I : AI) : Option (Int32 × AI) :=
  (wI I a0 0 (0 : Int32)).bind fun I2_1 =>
  some ((I2_1 a0 28), I2_1)
set_option maxRecDepth 20000 in
theorem Tf271 {kad : Nat → Nat} {N : Nat} {Z : AZ} {d : Nat} {t : Option Nat × (Nat × Nat)} (hd : 0 ≤ d) : ∀ (a0 : Nat) (ha0 : sh11 kad Z a0) (I : AI) (r : Int32 × AI), f271 kad N Z a0 I = some r → aGo kad d 271 (0, ([(0, .ref a0)], [])) (aMem Z I, t) (qI Z t r) := by
  intro a0 ha0 I r h
  unfold f271 at h
  refine go_ops aMi271 2 _ (f1 := (2, ([(0, .ref a0)], [.int (0 : Int32), .ref a0]))) rfl ?_
  obtain ⟨I2_1, hxI2_1, h⟩ := Option.bind_eq_some_iff.mp h
  refine gg_pI aMi271 rfl rfl rfl rfl (by decide) (pI_of (sh11_z ha0) hxI2_1) ?_
  refine go_ops aMi271 1 _ (f1 := (6, ([(0, .ref a0)], [.ref a0]))) rfl ?_
  refine gg_gI aMi271 rfl rfl rfl (gI_of (sh11_z ha0)) ?_
  cases h
  exact go_ret aMi271 rfl aRetI ⟨rfl, rfl⟩
-- KernelGymModel.flagsOf ()I
def f272_b65 (kad : Nat → Nat) (N : Nat) (Z : AZ) (a0 : Nat) (s0 : Int32) (s1 : Int32) (I : AI) : Option (Int32 × AI) :=
  some ((s1 + s0), I)
set_option maxRecDepth 20000 in
theorem Tf272_b65 {kad : Nat → Nat} {N : Nat} {Z : AZ} {d : Nat} {t : Option Nat × (Nat × Nat)} (hd : 0 ≤ d) : ∀ (a0 : Nat) (ha0 : sh11 kad Z a0) (s0 : Int32) (s1 : Int32) (I : AI) (r : Int32 × AI), f272_b65 kad N Z a0 s0 s1 I = some r → aGo kad d 272 (65, ([], [.int s0, .int s1])) (aMem Z I, t) (qI Z t r) := by
  intro a0 ha0 s0 s1 I r h
  unfold f272_b65 at h
  refine go_ops aMi272 1 _ (f1 := (66, ([], [.int (s1 + s0)]))) rfl ?_
  cases h
  exact go_ret aMi272 rfl aRetI ⟨rfl, rfl⟩
def f272_b51 (kad : Nat → Nat) (N : Nat) (Z : AZ) (a0 : Nat) (s0 : Int32) (s1 : Int32) (I : AI) : Option (Int32 × AI) :=
  if (I a0 33) = 0 then
    f272_b65 kad N Z a0 (0 : Int32) (s1 + s0) I
  else
    f272_b65 kad N Z a0 (16 : Int32) (s1 + s0) I
set_option maxRecDepth 20000 in
theorem Tf272_b51 {kad : Nat → Nat} {N : Nat} {Z : AZ} {d : Nat} {t : Option Nat × (Nat × Nat)} (hd : 0 ≤ d) : ∀ (a0 : Nat) (ha0 : sh11 kad Z a0) (s0 : Int32) (s1 : Int32) (I : AI) (r : Int32 × AI), f272_b51 kad N Z a0 s0 s1 I = some r → aGo kad d 272 (51, ([(0, .ref a0)], [.int s0, .int s1])) (aMem Z I, t) (qI Z t r) := by
  intro a0 ha0 s0 s1 I r h
  unfold f272_b51 at h
  refine go_ops aMi272 2 _ (f1 := (53, ([(0, .ref a0)], [.ref a0, .int (s1 + s0)]))) rfl ?_
  refine gg_gI aMi272 rfl rfl rfl (gI_of (sh11_z ha0)) ?_
  refine gg_br (b := decide ((I a0 33) = 0)) (tg := 64) (off := 8) aMi272 rfl rfl rfl rfl (fun hb => ?_) (fun hb => ?_)
  · rw [if_pos (of_decide_eq_true hb)] at h
    refine go_ops aMi272 1 _ (f1 := (65, ([(0, .ref a0)], [.int (0 : Int32), .int (s1 + s0)]))) rfl ?_
    refine go_le (lv1 := []) (aLe_of (show (List.map (fun q => q.1) ([] : ALv)).Nodup from (by show ([] : List Nat).Nodup; decide)) aSubL_nil) ?_
    exact Tf272_b65 hd a0 ha0 (0 : Int32) (s1 + s0) I _ h
  · rw [if_neg (of_decide_eq_false hb)] at h
    refine go_ops aMi272 2 _ (f1 := (65, ([(0, .ref a0)], [.int (16 : Int32), .int (s1 + s0)]))) rfl ?_
    refine go_le (lv1 := []) (aLe_of (show (List.map (fun q => q.1) ([] : ALv)).Nodup from (by show ([] : List Nat).Nodup; decide)) aSubL_nil) ?_
    exact Tf272_b65 hd a0 ha0 (16 : Int32) (s1 + s0) I _ h
def f272_b37 (kad : Nat → Nat) (N : Nat) (Z : AZ) (a0 : Nat) (s0 : Int32) (s1 : Int32) (I : AI) : Option (Int32 × AI) :=
  if (I a0 32) = 0 then
    f272_b51 kad N Z a0 (0 : Int32) (s1 + s0) I
  else
    f272_b51 kad N Z a0 (8 : Int32) (s1 + s0) I
set_option maxRecDepth 20000 in
theorem Tf272_b37 {kad : Nat → Nat} {N : Nat} {Z : AZ} {d : Nat} {t : Option Nat × (Nat × Nat)} (hd : 0 ≤ d) : ∀ (a0 : Nat) (ha0 : sh11 kad Z a0) (s0 : Int32) (s1 : Int32) (I : AI) (r : Int32 × AI), f272_b37 kad N Z a0 s0 s1 I = some r → aGo kad d 272 (37, ([(0, .ref a0)], [.int s0, .int s1])) (aMem Z I, t) (qI Z t r) := by
  intro a0 ha0 s0 s1 I r h
  unfold f272_b37 at h
  refine go_ops aMi272 2 _ (f1 := (39, ([(0, .ref a0)], [.ref a0, .int (s1 + s0)]))) rfl ?_
  refine gg_gI aMi272 rfl rfl rfl (gI_of (sh11_z ha0)) ?_
  refine gg_br (b := decide ((I a0 32) = 0)) (tg := 50) (off := 8) aMi272 rfl rfl rfl rfl (fun hb => ?_) (fun hb => ?_)
  · rw [if_pos (of_decide_eq_true hb)] at h
    refine go_ops aMi272 1 _ (f1 := (51, ([(0, .ref a0)], [.int (0 : Int32), .int (s1 + s0)]))) rfl ?_
    exact Tf272_b51 hd a0 ha0 (0 : Int32) (s1 + s0) I _ h
  · rw [if_neg (of_decide_eq_false hb)] at h
    refine go_ops aMi272 2 _ (f1 := (51, ([(0, .ref a0)], [.int (8 : Int32), .int (s1 + s0)]))) rfl ?_
    exact Tf272_b51 hd a0 ha0 (8 : Int32) (s1 + s0) I _ h
def f272_b24 (kad : Nat → Nat) (N : Nat) (Z : AZ) (a0 : Nat) (s0 : Int32) (s1 : Int32) (I : AI) : Option (Int32 × AI) :=
  if (I a0 31) = 0 then
    f272_b37 kad N Z a0 (0 : Int32) (s1 + s0) I
  else
    f272_b37 kad N Z a0 (4 : Int32) (s1 + s0) I
set_option maxRecDepth 20000 in
theorem Tf272_b24 {kad : Nat → Nat} {N : Nat} {Z : AZ} {d : Nat} {t : Option Nat × (Nat × Nat)} (hd : 0 ≤ d) : ∀ (a0 : Nat) (ha0 : sh11 kad Z a0) (s0 : Int32) (s1 : Int32) (I : AI) (r : Int32 × AI), f272_b24 kad N Z a0 s0 s1 I = some r → aGo kad d 272 (24, ([(0, .ref a0)], [.int s0, .int s1])) (aMem Z I, t) (qI Z t r) := by
  intro a0 ha0 s0 s1 I r h
  unfold f272_b24 at h
  refine go_ops aMi272 2 _ (f1 := (26, ([(0, .ref a0)], [.ref a0, .int (s1 + s0)]))) rfl ?_
  refine gg_gI aMi272 rfl rfl rfl (gI_of (sh11_z ha0)) ?_
  refine gg_br (b := decide ((I a0 31) = 0)) (tg := 36) (off := 7) aMi272 rfl rfl rfl rfl (fun hb => ?_) (fun hb => ?_)
  · rw [if_pos (of_decide_eq_true hb)] at h
    refine go_ops aMi272 1 _ (f1 := (37, ([(0, .ref a0)], [.int (0 : Int32), .int (s1 + s0)]))) rfl ?_
    exact Tf272_b37 hd a0 ha0 (0 : Int32) (s1 + s0) I _ h
  · rw [if_neg (of_decide_eq_false hb)] at h
    refine go_ops aMi272 2 _ (f1 := (37, ([(0, .ref a0)], [.int (4 : Int32), .int (s1 + s0)]))) rfl ?_
    exact Tf272_b37 hd a0 ha0 (4 : Int32) (s1 + s0) I _ h
def f272_b12 (kad : Nat → Nat) (N : Nat) (Z : AZ) (a0 : Nat) (s0 : Int32) (I : AI) : Option (Int32 × AI) :=
  if (I a0 30) = 0 then
    f272_b24 kad N Z a0 (0 : Int32) s0 I
  else
    f272_b24 kad N Z a0 (2 : Int32) s0 I
set_option maxRecDepth 20000 in
theorem Tf272_b12 {kad : Nat → Nat} {N : Nat} {Z : AZ} {d : Nat} {t : Option Nat × (Nat × Nat)} (hd : 0 ≤ d) : ∀ (a0 : Nat) (ha0 : sh11 kad Z a0) (s0 : Int32) (I : AI) (r : Int32 × AI), f272_b12 kad N Z a0 s0 I = some r → aGo kad d 272 (12, ([(0, .ref a0)], [.int s0])) (aMem Z I, t) (qI Z t r) := by
  intro a0 ha0 s0 I r h
  unfold f272_b12 at h
  refine go_ops aMi272 1 _ (f1 := (13, ([(0, .ref a0)], [.ref a0, .int s0]))) rfl ?_
  refine gg_gI aMi272 rfl rfl rfl (gI_of (sh11_z ha0)) ?_
  refine gg_br (b := decide ((I a0 30) = 0)) (tg := 23) (off := 7) aMi272 rfl rfl rfl rfl (fun hb => ?_) (fun hb => ?_)
  · rw [if_pos (of_decide_eq_true hb)] at h
    refine go_ops aMi272 1 _ (f1 := (24, ([(0, .ref a0)], [.int (0 : Int32), .int s0]))) rfl ?_
    exact Tf272_b24 hd a0 ha0 (0 : Int32) s0 I _ h
  · rw [if_neg (of_decide_eq_false hb)] at h
    refine go_ops aMi272 2 _ (f1 := (24, ([(0, .ref a0)], [.int (2 : Int32), .int s0]))) rfl ?_
    exact Tf272_b24 hd a0 ha0 (2 : Int32) s0 I _ h
def f272 (kad : Nat → Nat) (N : Nat) (Z : AZ) (a0 : Nat) (I : AI) : Option (Int32 × AI) :=
  if (I a0 29) = 0 then
    f272_b12 kad N Z a0 (0 : Int32) I
  else
    f272_b12 kad N Z a0 (1 : Int32) I
set_option maxRecDepth 20000 in
theorem Tf272 {kad : Nat → Nat} {N : Nat} {Z : AZ} {d : Nat} {t : Option Nat × (Nat × Nat)} (hd : 0 ≤ d) : ∀ (a0 : Nat) (ha0 : sh11 kad Z a0) (I : AI) (r : Int32 × AI), f272 kad N Z a0 I = some r → aGo kad d 272 (0, ([(0, .ref a0)], [])) (aMem Z I, t) (qI Z t r) := by
  intro a0 ha0 I r h
  unfold f272 at h
  refine go_ops aMi272 1 _ (f1 := (1, ([(0, .ref a0)], [.ref a0]))) rfl ?_
  refine gg_gI aMi272 rfl rfl rfl (gI_of (sh11_z ha0)) ?_
  refine gg_br (b := decide ((I a0 29) = 0)) (tg := 11) (off := 7) aMi272 rfl rfl rfl rfl (fun hb => ?_) (fun hb => ?_)
  · rw [if_pos (of_decide_eq_true hb)] at h
    refine go_ops aMi272 1 _ (f1 := (12, ([(0, .ref a0)], [.int (0 : Int32)]))) rfl ?_
    exact Tf272_b12 hd a0 ha0 (0 : Int32) I _ h
  · rw [if_neg (of_decide_eq_false hb)] at h
    refine go_ops aMi272 2 _ (f1 := (12, ([(0, .ref a0)], [.int (1 : Int32)]))) rfl ?_
    exact Tf272_b12 hd a0 ha0 (1 : Int32) I _ h
-- KernelGymModel.flags ()I
def f273 (kad : Nat → Nat) (N : Nat) (Z : AZ) (a0 : Nat) (I : AI) : Option (Int32 × AI) :=
  (wI I a0 0 (0 : Int32)).bind fun I2_1 =>
  (f272 kad N Z a0 I2_1).bind fun r6_2 =>
  some (r6_2.1, r6_2.2)
set_option maxRecDepth 20000 in
theorem Tf273 {kad : Nat → Nat} {N : Nat} {Z : AZ} {d : Nat} {t : Option Nat × (Nat × Nat)} (hd : 1 ≤ d) : ∀ (a0 : Nat) (ha0 : sh11 kad Z a0) (I : AI) (r : Int32 × AI), f273 kad N Z a0 I = some r → aGo kad d 273 (0, ([(0, .ref a0)], [])) (aMem Z I, t) (qI Z t r) := by
  intro a0 ha0 I r h
  unfold f273 at h
  refine go_ops aMi273 2 _ (f1 := (2, ([(0, .ref a0)], [.int (0 : Int32), .ref a0]))) rfl ?_
  obtain ⟨I2_1, hxI2_1, h⟩ := Option.bind_eq_some_iff.mp h
  refine gg_pI aMi273 rfl rfl rfl rfl (by decide) (pI_of (sh11_z ha0) hxI2_1) ?_
  refine go_ops aMi273 1 _ (f1 := (6, ([(0, .ref a0)], [.ref a0]))) rfl ?_
  obtain ⟨r6_2, hxr6_2, h⟩ := Option.bind_eq_some_iff.mp h
  refine gg_cv (as := []) (r := []) aMi273 rfl rfl rfl aMi272 (Nat.le_of_ble_eq_true rfl) rfl (Nat.le_of_ble_eq_true rfl) (Nat.le_of_ble_eq_true rfl) (by omega) (isK_of (sh11_z ha0)) (Tf272 (by omega) a0 ha0 I2_1 _ hxr6_2) ?_
  show aGo kad d 273 (9, ([(0, .ref a0)], [.int r6_2.1])) (aMem Z r6_2.2, t) _
  cases h
  exact go_ret aMi273 rfl aRetI ⟨rfl, rfl⟩
-- KernelGymModel.writesLeft ()I
def f274 (kad : Nat → Nat) (N : Nat) (Z : AZ) (a0 : Nat) (I : AI) : Option (Int32 × AI) :=
  (wI I a0 0 (0 : Int32)).bind fun I2_1 =>
  some ((I2_1 a0 46), I2_1)
set_option maxRecDepth 20000 in
theorem Tf274 {kad : Nat → Nat} {N : Nat} {Z : AZ} {d : Nat} {t : Option Nat × (Nat × Nat)} (hd : 0 ≤ d) : ∀ (a0 : Nat) (ha0 : sh11 kad Z a0) (I : AI) (r : Int32 × AI), f274 kad N Z a0 I = some r → aGo kad d 274 (0, ([(0, .ref a0)], [])) (aMem Z I, t) (qI Z t r) := by
  intro a0 ha0 I r h
  unfold f274 at h
  refine go_ops aMi274 2 _ (f1 := (2, ([(0, .ref a0)], [.int (0 : Int32), .ref a0]))) rfl ?_
  obtain ⟨I2_1, hxI2_1, h⟩ := Option.bind_eq_some_iff.mp h
  refine gg_pI aMi274 rfl rfl rfl rfl (by decide) (pI_of (sh11_z ha0) hxI2_1) ?_
  refine go_ops aMi274 1 _ (f1 := (6, ([(0, .ref a0)], [.ref a0]))) rfl ?_
  refine gg_gI aMi274 rfl rfl rfl (gI_of (sh11_z ha0)) ?_
  cases h
  exact go_ret aMi274 rfl aRetI ⟨rfl, rfl⟩
-- KernelGymModel.register (I)I
def f275_b31 (kad : Nat → Nat) (N : Nat) (Z : AZ) (a0 : Nat) (s0 : Int32) (I : AI) : Option (Int32 × AI) :=
  some (s0, I)
set_option maxRecDepth 20000 in
theorem Tf275_b31 {kad : Nat → Nat} {N : Nat} {Z : AZ} {d : Nat} {t : Option Nat × (Nat × Nat)} (hd : 1 ≤ d) : ∀ (a0 : Nat) (ha0 : sh11 kad Z a0) (s0 : Int32) (I : AI) (r : Int32 × AI), f275_b31 kad N Z a0 s0 I = some r → aGo kad d 275 (31, ([], [.int s0])) (aMem Z I, t) (qI Z t r) := by
  intro a0 ha0 s0 I r h
  unfold f275_b31 at h
  cases h
  exact go_ret aMi275 rfl aRetI ⟨rfl, rfl⟩
def f275_b15 (kad : Nat → Nat) (N : Nat) (Z : AZ) (a0 : Nat) (i1 : Int32) (s0 : Int32) (I : AI) : Option (Int32 × AI) :=
  (f185 kad N Z a0 s0 I).bind fun r15_1 =>
  if r15_1.1 = 0 then
    f275_b31 kad N Z a0 (0 : Int32) r15_1.2
  else
    (ixA 4 i1).bind fun j26_2 =>
    f275_b31 kad N Z a0 (r15_1.2 (a0 + 16) j26_2) r15_1.2
set_option maxRecDepth 20000 in
theorem Tf275_b15 {kad : Nat → Nat} {N : Nat} {Z : AZ} {d : Nat} {t : Option Nat × (Nat × Nat)} (hd : 1 ≤ d) : ∀ (a0 : Nat) (ha0 : sh11 kad Z a0) (i1 : Int32) (s0 : Int32) (I : AI) (r : Int32 × AI), f275_b15 kad N Z a0 i1 s0 I = some r → aGo kad d 275 (15, ([(0, .ref a0), (1, .int i1)], [.int s0, .ref a0])) (aMem Z I, t) (qI Z t r) := by
  intro a0 ha0 i1 s0 I r h
  unfold f275_b15 at h
  obtain ⟨r15_1, hxr15_1, h⟩ := Option.bind_eq_some_iff.mp h
  refine gg_cv (as := [.int s0]) (r := []) aMi275 rfl rfl rfl aMi185 (Nat.le_of_ble_eq_true rfl) rfl (Nat.le_of_ble_eq_true rfl) (Nat.le_of_ble_eq_true rfl) (by omega) (isK_of (sh11_z ha0)) (Tf185 (by omega) a0 ha0 s0 I _ hxr15_1) ?_
  show aGo kad d 275 (18, ([(0, .ref a0), (1, .int i1)], [.int r15_1.1])) (aMem Z r15_1.2, t) _
  refine gg_br (b := decide (r15_1.1 = 0)) (tg := 30) (off := 12) aMi275 rfl rfl rfl rfl (fun hb => ?_) (fun hb => ?_)
  · rw [if_pos (of_decide_eq_true hb)] at h
    refine go_ops aMi275 1 _ (f1 := (31, ([(0, .ref a0), (1, .int i1)], [.int (0 : Int32)]))) rfl ?_
    refine go_le (lv1 := []) (aLe_of (show (List.map (fun q => q.1) ([] : ALv)).Nodup from (by show ([] : List Nat).Nodup; decide)) aSubL_nil) ?_
    exact Tf275_b31 hd a0 ha0 (0 : Int32) r15_1.2 _ h
  · rw [if_neg (of_decide_eq_false hb)] at h
    refine go_ops aMi275 1 _ (f1 := (22, ([(0, .ref a0), (1, .int i1)], [.ref a0]))) rfl ?_
    refine gg_gR (b := (a0 + 16)) aMi275 rfl rfl rfl (gR_of (sh11_z ha0) (sh11_r26 ha0)) ?_
    refine go_ops aMi275 1 _ (f1 := (26, ([(0, .ref a0), (1, .int i1)], [.int i1, .ref (a0 + 16)]))) rfl ?_
    obtain ⟨j26_2, hxj26_2, h⟩ := Option.bind_eq_some_iff.mp h
    refine gg_lI (Or.inl ⟨rfl, rfl⟩) aMi275 rfl (lI_of (sh11_a26 ha0) hxj26_2) ?_
    refine go_ops aMi275 1 _ (f1 := (31, ([(0, .ref a0), (1, .int i1)], [.int (r15_1.2 (a0 + 16) j26_2)]))) rfl ?_
    refine go_le (lv1 := []) (aLe_of (show (List.map (fun q => q.1) ([] : ALv)).Nodup from (by show ([] : List Nat).Nodup; decide)) aSubL_nil) ?_
    exact Tf275_b31 hd a0 ha0 (r15_1.2 (a0 + 16) j26_2) r15_1.2 _ h
def f275 (kad : Nat → Nat) (N : Nat) (Z : AZ) (a0 : Nat) (i1 : Int32) (I : AI) : Option (Int32 × AI) :=
  (f186 kad N Z i1 (0 : Int32) (3 : Int32) I).bind fun r4_1 =>
  if r4_1.1 = 0 then
    f275_b15 kad N Z a0 i1 (1 : Int32) r4_1.2
  else
    f275_b15 kad N Z a0 i1 (0 : Int32) r4_1.2
set_option maxRecDepth 20000 in
theorem Tf275 {kad : Nat → Nat} {N : Nat} {Z : AZ} {d : Nat} {t : Option Nat × (Nat × Nat)} (hd : 1 ≤ d) : ∀ (a0 : Nat) (ha0 : sh11 kad Z a0) (i1 : Int32) (I : AI) (r : Int32 × AI), f275 kad N Z a0 i1 I = some r → aGo kad d 275 (0, ([(0, .ref a0), (1, .int i1)], [])) (aMem Z I, t) (qI Z t r) := by
  intro a0 ha0 i1 I r h
  unfold f275 at h
  refine go_ops aMi275 4 _ (f1 := (4, ([(0, .ref a0), (1, .int i1)], [.int (3 : Int32), .int (0 : Int32), .int i1, .ref a0]))) rfl ?_
  obtain ⟨r4_1, hxr4_1, h⟩ := Option.bind_eq_some_iff.mp h
  refine gg_cs (as := [.int i1, .int (0 : Int32), .int (3 : Int32)]) (r := [.ref a0]) aMi275 rfl rfl rfl aMi186 rfl (Nat.le_of_ble_eq_true rfl) (Nat.le_of_ble_eq_true rfl) (by omega) (Tf186 (by omega) i1 (0 : Int32) (3 : Int32) I _ hxr4_1) ?_
  show aGo kad d 275 (7, ([(0, .ref a0), (1, .int i1)], [.int r4_1.1, .ref a0])) (aMem Z r4_1.2, t) _
  refine gg_br (b := decide (r4_1.1 = 0)) (tg := 14) (off := 7) aMi275 rfl rfl rfl rfl (fun hb => ?_) (fun hb => ?_)
  · rw [if_pos (of_decide_eq_true hb)] at h
    refine go_ops aMi275 1 _ (f1 := (15, ([(0, .ref a0), (1, .int i1)], [.int (1 : Int32), .ref a0]))) rfl ?_
    exact Tf275_b15 hd a0 ha0 i1 (1 : Int32) r4_1.2 _ h
  · rw [if_neg (of_decide_eq_false hb)] at h
    refine go_ops aMi275 2 _ (f1 := (15, ([(0, .ref a0), (1, .int i1)], [.int (0 : Int32), .ref a0]))) rfl ?_
    exact Tf275_b15 hd a0 ha0 i1 (0 : Int32) r4_1.2 _ h
-- KernelGymModel.isAddress (I)Z
def f276 (kad : Nat → Nat) (N : Nat) (Z : AZ) (i0 : Int32) (I : AI) : Option (Int32 × AI) :=
  (f186 kad N Z i0 (0 : Int32) (255 : Int32) I).bind fun r5_1 =>
  if r5_1.1 = 0 ∨ r5_1.1 = 1 then some (r5_1.1, r5_1.2) else none
set_option maxRecDepth 20000 in
theorem Tf276 {kad : Nat → Nat} {N : Nat} {Z : AZ} {d : Nat} {t : Option Nat × (Nat × Nat)} (hd : 1 ≤ d) : ∀ (i0 : Int32) (I : AI) (r : Int32 × AI), f276 kad N Z i0 I = some r → aGo kad d 276 (0, ([(0, .int i0)], [])) (aMem Z I, t) (qI Z t r) := by
  intro i0 I r h
  unfold f276 at h
  refine go_ops aMi276 3 _ (f1 := (5, ([(0, .int i0)], [.int (255 : Int32), .int (0 : Int32), .int i0]))) rfl ?_
  obtain ⟨r5_1, hxr5_1, h⟩ := Option.bind_eq_some_iff.mp h
  refine gg_cs (as := [.int i0, .int (0 : Int32), .int (255 : Int32)]) (r := []) aMi276 rfl rfl rfl aMi186 rfl (Nat.le_of_ble_eq_true rfl) (Nat.le_of_ble_eq_true rfl) (by omega) (Tf186 (by omega) i0 (0 : Int32) (255 : Int32) I _ hxr5_1) ?_
  show aGo kad d 276 (8, ([(0, .int i0)], [.int r5_1.1])) (aMem Z r5_1.2, t) _
  split at h
  · rename_i hz
    cases h
    exact go_ret aMi276 rfl (aRetZ hz) ⟨rfl, rfl⟩
  · cases h
-- KernelGymModel.memory (I)I
def f277_b29 (kad : Nat → Nat) (N : Nat) (Z : AZ) (a0 : Nat) (s0 : Int32) (I : AI) : Option (Int32 × AI) :=
  some (s0, I)
set_option maxRecDepth 20000 in
theorem Tf277_b29 {kad : Nat → Nat} {N : Nat} {Z : AZ} {d : Nat} {t : Option Nat × (Nat × Nat)} (hd : 2 ≤ d) : ∀ (a0 : Nat) (ha0 : sh11 kad Z a0) (s0 : Int32) (I : AI) (r : Int32 × AI), f277_b29 kad N Z a0 s0 I = some r → aGo kad d 277 (29, ([], [.int s0])) (aMem Z I, t) (qI Z t r) := by
  intro a0 ha0 s0 I r h
  unfold f277_b29 at h
  cases h
  exact go_ret aMi277 rfl aRetI ⟨rfl, rfl⟩
def f277_b13 (kad : Nat → Nat) (N : Nat) (Z : AZ) (a0 : Nat) (i1 : Int32) (s0 : Int32) (I : AI) : Option (Int32 × AI) :=
  (f185 kad N Z a0 s0 I).bind fun r13_1 =>
  if r13_1.1 = 0 then
    f277_b29 kad N Z a0 (0 : Int32) r13_1.2
  else
    (ixA 256 i1).bind fun j24_2 =>
    f277_b29 kad N Z a0 (r13_1.2 (a0 + 15) j24_2) r13_1.2
set_option maxRecDepth 20000 in
theorem Tf277_b13 {kad : Nat → Nat} {N : Nat} {Z : AZ} {d : Nat} {t : Option Nat × (Nat × Nat)} (hd : 2 ≤ d) : ∀ (a0 : Nat) (ha0 : sh11 kad Z a0) (i1 : Int32) (s0 : Int32) (I : AI) (r : Int32 × AI), f277_b13 kad N Z a0 i1 s0 I = some r → aGo kad d 277 (13, ([(0, .ref a0), (1, .int i1)], [.int s0, .ref a0])) (aMem Z I, t) (qI Z t r) := by
  intro a0 ha0 i1 s0 I r h
  unfold f277_b13 at h
  obtain ⟨r13_1, hxr13_1, h⟩ := Option.bind_eq_some_iff.mp h
  refine gg_cv (as := [.int s0]) (r := []) aMi277 rfl rfl rfl aMi185 (Nat.le_of_ble_eq_true rfl) rfl (Nat.le_of_ble_eq_true rfl) (Nat.le_of_ble_eq_true rfl) (by omega) (isK_of (sh11_z ha0)) (Tf185 (by omega) a0 ha0 s0 I _ hxr13_1) ?_
  show aGo kad d 277 (16, ([(0, .ref a0), (1, .int i1)], [.int r13_1.1])) (aMem Z r13_1.2, t) _
  refine gg_br (b := decide (r13_1.1 = 0)) (tg := 28) (off := 12) aMi277 rfl rfl rfl rfl (fun hb => ?_) (fun hb => ?_)
  · rw [if_pos (of_decide_eq_true hb)] at h
    refine go_ops aMi277 1 _ (f1 := (29, ([(0, .ref a0), (1, .int i1)], [.int (0 : Int32)]))) rfl ?_
    refine go_le (lv1 := []) (aLe_of (show (List.map (fun q => q.1) ([] : ALv)).Nodup from (by show ([] : List Nat).Nodup; decide)) aSubL_nil) ?_
    exact Tf277_b29 hd a0 ha0 (0 : Int32) r13_1.2 _ h
  · rw [if_neg (of_decide_eq_false hb)] at h
    refine go_ops aMi277 1 _ (f1 := (20, ([(0, .ref a0), (1, .int i1)], [.ref a0]))) rfl ?_
    refine gg_gR (b := (a0 + 15)) aMi277 rfl rfl rfl (gR_of (sh11_z ha0) (sh11_r25 ha0)) ?_
    refine go_ops aMi277 1 _ (f1 := (24, ([(0, .ref a0), (1, .int i1)], [.int i1, .ref (a0 + 15)]))) rfl ?_
    obtain ⟨j24_2, hxj24_2, h⟩ := Option.bind_eq_some_iff.mp h
    refine gg_lI (Or.inl ⟨rfl, rfl⟩) aMi277 rfl (lI_of (sh11_a25 ha0) hxj24_2) ?_
    refine go_ops aMi277 1 _ (f1 := (29, ([(0, .ref a0), (1, .int i1)], [.int (r13_1.2 (a0 + 15) j24_2)]))) rfl ?_
    refine go_le (lv1 := []) (aLe_of (show (List.map (fun q => q.1) ([] : ALv)).Nodup from (by show ([] : List Nat).Nodup; decide)) aSubL_nil) ?_
    exact Tf277_b29 hd a0 ha0 (r13_1.2 (a0 + 15) j24_2) r13_1.2 _ h
def f277 (kad : Nat → Nat) (N : Nat) (Z : AZ) (a0 : Nat) (i1 : Int32) (I : AI) : Option (Int32 × AI) :=
  (f276 kad N Z i1 I).bind fun r2_1 =>
  if r2_1.1 = 0 then
    f277_b13 kad N Z a0 i1 (1 : Int32) r2_1.2
  else
    f277_b13 kad N Z a0 i1 (0 : Int32) r2_1.2
set_option maxRecDepth 20000 in
theorem Tf277 {kad : Nat → Nat} {N : Nat} {Z : AZ} {d : Nat} {t : Option Nat × (Nat × Nat)} (hd : 2 ≤ d) : ∀ (a0 : Nat) (ha0 : sh11 kad Z a0) (i1 : Int32) (I : AI) (r : Int32 × AI), f277 kad N Z a0 i1 I = some r → aGo kad d 277 (0, ([(0, .ref a0), (1, .int i1)], [])) (aMem Z I, t) (qI Z t r) := by
  intro a0 ha0 i1 I r h
  unfold f277 at h
  refine go_ops aMi277 2 _ (f1 := (2, ([(0, .ref a0), (1, .int i1)], [.int i1, .ref a0]))) rfl ?_
  obtain ⟨r2_1, hxr2_1, h⟩ := Option.bind_eq_some_iff.mp h
  refine gg_cs (as := [.int i1]) (r := [.ref a0]) aMi277 rfl rfl rfl aMi276 rfl (Nat.le_of_ble_eq_true rfl) (Nat.le_of_ble_eq_true rfl) (by omega) (Tf276 (by omega) i1 I _ hxr2_1) ?_
  show aGo kad d 277 (5, ([(0, .ref a0), (1, .int i1)], [.int r2_1.1, .ref a0])) (aMem Z r2_1.2, t) _
  refine gg_br (b := decide (r2_1.1 = 0)) (tg := 12) (off := 7) aMi277 rfl rfl rfl rfl (fun hb => ?_) (fun hb => ?_)
  · rw [if_pos (of_decide_eq_true hb)] at h
    refine go_ops aMi277 1 _ (f1 := (13, ([(0, .ref a0), (1, .int i1)], [.int (1 : Int32), .ref a0]))) rfl ?_
    exact Tf277_b13 hd a0 ha0 i1 (1 : Int32) r2_1.2 _ h
  · rw [if_neg (of_decide_eq_false hb)] at h
    refine go_ops aMi277 2 _ (f1 := (13, ([(0, .ref a0), (1, .int i1)], [.int (0 : Int32), .ref a0]))) rfl ?_
    exact Tf277_b13 hd a0 ha0 i1 (0 : Int32) r2_1.2 _ h
-- KernelGymModel.changedAt (I)I
def f278_b61 (kad : Nat → Nat) (N : Nat) (Z : AZ) (a0 : Nat) (i2 : Int32) (I : AI) : Option (Int32 × AI) :=
  some (i2, I)
set_option maxRecDepth 20000 in
theorem Tf278_b61 {kad : Nat → Nat} {N : Nat} {Z : AZ} {d : Nat} {t : Option Nat × (Nat × Nat)} (hd : 2 ≤ d) : ∀ (a0 : Nat) (ha0 : sh11 kad Z a0) (i2 : Int32) (I : AI) (r : Int32 × AI), f278_b61 kad N Z a0 i2 I = some r → aGo kad d 278 (61, ([(2, .int i2)], [])) (aMem Z I, t) (qI Z t r) := by
  intro a0 ha0 i2 I r h
  unfold f278_b61 at h
  refine go_ops aMi278 1 _ (f1 := (62, ([(2, .int i2)], [.int i2]))) rfl ?_
  cases h
  exact go_ret aMi278 rfl aRetI ⟨rfl, rfl⟩
def f278_b28 (kad : Nat → Nat) (N : Nat) (Z : AZ) : Nat → Nat → Int32 → Int32 → AI → Option (Int32 × AI)
  | 0, _, _, _, _ => none
  | F + 1, a0, i1, i2, I =>
    if i2 < ((I a0 38) - (I a0 40)) then
      some ((Int32.ofInt (-1)), I)
    else
      (ixA 1000 i2).bind fun j46_1 =>
      if (I (a0 + 20) j46_1) = i1 then
        f278_b61 kad N Z a0 i2 I
      else
        (ixA 1000 i2).bind fun j56_2 =>
        if ¬ (I (a0 + 21) j56_2) = i1 then
          f278_b28 kad N Z F a0 i1 (i2 + (Int32.ofInt (-1))) I
        else
          f278_b61 kad N Z a0 i2 I
set_option maxRecDepth 20000 in
theorem Tf278_b28 {kad : Nat → Nat} {N : Nat} {Z : AZ} {d : Nat} {t : Option Nat × (Nat × Nat)} (hd : 2 ≤ d) : ∀ (F : Nat) (a0 : Nat) (ha0 : sh11 kad Z a0) (i1 : Int32) (i2 : Int32) (I : AI) (r : Int32 × AI), f278_b28 kad N Z F a0 i1 i2 I = some r → aGo kad d 278 (28, ([(0, .ref a0), (1, .int i1), (2, .int i2)], [])) (aMem Z I, t) (qI Z t r) := by
  intro F
  induction F with
  | zero => intro a0 ha0 i1 i2 I r h; cases h
  | succ F ih =>
    intro a0 ha0 i1 i2 I r h
    unfold f278_b28 at h
    refine go_ops aMi278 2 _ (f1 := (30, ([(0, .ref a0), (1, .int i1), (2, .int i2)], [.ref a0, .int i2]))) rfl ?_
    refine gg_gI aMi278 rfl rfl rfl (gI_of (sh11_z ha0)) ?_
    refine go_ops aMi278 1 _ (f1 := (34, ([(0, .ref a0), (1, .int i1), (2, .int i2)], [.ref a0, .int (I a0 38), .int i2]))) rfl ?_
    refine gg_gI aMi278 rfl rfl rfl (gI_of (sh11_z ha0)) ?_
    refine go_ops aMi278 1 _ (f1 := (38, ([(0, .ref a0), (1, .int i1), (2, .int i2)], [.int ((I a0 38) - (I a0 40)), .int i2]))) rfl ?_
    refine gg_br (b := decide (i2 < ((I a0 38) - (I a0 40)))) (tg := 69) (off := 31) aMi278 rfl rfl rfl rfl (fun hb => ?_) (fun hb => ?_)
    · rw [if_pos (of_decide_eq_true hb)] at h
      refine go_ops aMi278 1 _ (f1 := (70, ([(0, .ref a0), (1, .int i1), (2, .int i2)], [.int (Int32.ofInt (-1))]))) rfl ?_
      cases h
      exact go_ret aMi278 rfl aRetI ⟨rfl, rfl⟩
    · rw [if_neg (of_decide_eq_false hb)] at h
      refine go_ops aMi278 1 _ (f1 := (42, ([(0, .ref a0), (1, .int i1), (2, .int i2)], [.ref a0]))) rfl ?_
      refine gg_gR (b := (a0 + 20)) aMi278 rfl rfl rfl (gR_of (sh11_z ha0) (sh11_r44 ha0)) ?_
      refine go_ops aMi278 1 _ (f1 := (46, ([(0, .ref a0), (1, .int i1), (2, .int i2)], [.int i2, .ref (a0 + 20)]))) rfl ?_
      obtain ⟨j46_1, hxj46_1, h⟩ := Option.bind_eq_some_iff.mp h
      refine gg_lI (Or.inl ⟨rfl, rfl⟩) aMi278 rfl (lI_of (sh11_a44 ha0) hxj46_1) ?_
      refine go_ops aMi278 1 _ (f1 := (48, ([(0, .ref a0), (1, .int i1), (2, .int i2)], [.int i1, .int (I (a0 + 20) j46_1)]))) rfl ?_
      refine gg_br (b := decide ((I (a0 + 20) j46_1) = i1)) (tg := 61) (off := 13) aMi278 rfl rfl rfl rfl (fun hb => ?_) (fun hb => ?_)
      · rw [if_pos (of_decide_eq_true hb)] at h
        refine go_le (lv1 := [(2, .int i2)]) (aLe_of (show (List.map (fun q => q.1) ([(2, .int i2)] : ALv)).Nodup from (by show ([2] : List Nat).Nodup; decide)) (aSubL_cons rfl aSubL_nil)) ?_
        exact Tf278_b61 hd a0 ha0 i2 I _ h
      · rw [if_neg (of_decide_eq_false hb)] at h
        refine go_ops aMi278 1 _ (f1 := (52, ([(0, .ref a0), (1, .int i1), (2, .int i2)], [.ref a0]))) rfl ?_
        refine gg_gR (b := (a0 + 21)) aMi278 rfl rfl rfl (gR_of (sh11_z ha0) (sh11_r45 ha0)) ?_
        refine go_ops aMi278 1 _ (f1 := (56, ([(0, .ref a0), (1, .int i1), (2, .int i2)], [.int i2, .ref (a0 + 21)]))) rfl ?_
        obtain ⟨j56_2, hxj56_2, h⟩ := Option.bind_eq_some_iff.mp h
        refine gg_lI (Or.inl ⟨rfl, rfl⟩) aMi278 rfl (lI_of (sh11_a45 ha0) hxj56_2) ?_
        refine go_ops aMi278 1 _ (f1 := (58, ([(0, .ref a0), (1, .int i1), (2, .int i2)], [.int i1, .int (I (a0 + 21) j56_2)]))) rfl ?_
        refine gg_br (b := decide (¬ (I (a0 + 21) j56_2) = i1)) (tg := 63) (off := 5) aMi278 rfl rfl rfl rfl (fun hb => ?_) (fun hb => ?_)
        · rw [if_pos (of_decide_eq_true hb)] at h
          refine go_ops aMi278 2 _ (f1 := (28, ([(2, .int (i2 + (Int32.ofInt (-1)))), (0, .ref a0), (1, .int i1)], []))) rfl ?_
          refine go_le (lv1 := [(0, .ref a0), (1, .int i1), (2, .int (i2 + (Int32.ofInt (-1))))]) (aLe_of (show (List.map (fun q => q.1) ([(0, .ref a0), (1, .int i1), (2, .int (i2 + (Int32.ofInt (-1))))] : ALv)).Nodup from (by show ([0, 1, 2] : List Nat).Nodup; decide)) (aSubL_cons rfl (aSubL_cons rfl (aSubL_cons rfl aSubL_nil)))) ?_
          exact ih a0 ha0 i1 (i2 + (Int32.ofInt (-1))) I _ h
        · rw [if_neg (of_decide_eq_false hb)] at h
          refine go_le (lv1 := [(2, .int i2)]) (aLe_of (show (List.map (fun q => q.1) ([(2, .int i2)] : ALv)).Nodup from (by show ([2] : List Nat).Nodup; decide)) (aSubL_cons rfl aSubL_nil)) ?_
          exact Tf278_b61 hd a0 ha0 i2 I _ h
def f278_b13 (kad : Nat → Nat) (N : Nat) (Z : AZ) (a0 : Nat) (i1 : Int32) (s0 : Int32) (I : AI) : Option (Int32 × AI) :=
  (f185 kad N Z a0 s0 I).bind fun r13_1 =>
  if ¬ r13_1.1 = 0 then
    f278_b28 kad N Z N a0 i1 (((r13_1.2) a0 38) - (1 : Int32)) r13_1.2
  else
    some ((0 : Int32), r13_1.2)
set_option maxRecDepth 20000 in
theorem Tf278_b13 {kad : Nat → Nat} {N : Nat} {Z : AZ} {d : Nat} {t : Option Nat × (Nat × Nat)} (hd : 2 ≤ d) : ∀ (a0 : Nat) (ha0 : sh11 kad Z a0) (i1 : Int32) (s0 : Int32) (I : AI) (r : Int32 × AI), f278_b13 kad N Z a0 i1 s0 I = some r → aGo kad d 278 (13, ([(0, .ref a0), (1, .int i1)], [.int s0, .ref a0])) (aMem Z I, t) (qI Z t r) := by
  intro a0 ha0 i1 s0 I r h
  unfold f278_b13 at h
  obtain ⟨r13_1, hxr13_1, h⟩ := Option.bind_eq_some_iff.mp h
  refine gg_cv (as := [.int s0]) (r := []) aMi278 rfl rfl rfl aMi185 (Nat.le_of_ble_eq_true rfl) rfl (Nat.le_of_ble_eq_true rfl) (Nat.le_of_ble_eq_true rfl) (by omega) (isK_of (sh11_z ha0)) (Tf185 (by omega) a0 ha0 s0 I _ hxr13_1) ?_
  show aGo kad d 278 (16, ([(0, .ref a0), (1, .int i1)], [.int r13_1.1])) (aMem Z r13_1.2, t) _
  refine gg_br (b := decide (¬ r13_1.1 = 0)) (tg := 21) (off := 5) aMi278 rfl rfl rfl rfl (fun hb => ?_) (fun hb => ?_)
  · rw [if_pos (of_decide_eq_true hb)] at h
    refine go_ops aMi278 1 _ (f1 := (22, ([(0, .ref a0), (1, .int i1)], [.ref a0]))) rfl ?_
    refine gg_gI aMi278 rfl rfl rfl (gI_of (sh11_z ha0)) ?_
    refine go_ops aMi278 3 _ (f1 := (28, ([(2, .int (((r13_1.2) a0 38) - (1 : Int32))), (0, .ref a0), (1, .int i1)], []))) rfl ?_
    refine go_le (lv1 := [(0, .ref a0), (1, .int i1), (2, .int (((r13_1.2) a0 38) - (1 : Int32)))]) (aLe_of (show (List.map (fun q => q.1) ([(0, .ref a0), (1, .int i1), (2, .int (((r13_1.2) a0 38) - (1 : Int32)))] : ALv)).Nodup from (by show ([0, 1, 2] : List Nat).Nodup; decide)) (aSubL_cons rfl (aSubL_cons rfl (aSubL_cons rfl aSubL_nil)))) ?_
    exact Tf278_b28 hd N a0 ha0 i1 (((r13_1.2) a0 38) - (1 : Int32)) r13_1.2 _ h
  · rw [if_neg (of_decide_eq_false hb)] at h
    refine go_ops aMi278 1 _ (f1 := (20, ([(0, .ref a0), (1, .int i1)], [.int (0 : Int32)]))) rfl ?_
    cases h
    exact go_ret aMi278 rfl aRetI ⟨rfl, rfl⟩
def f278 (kad : Nat → Nat) (N : Nat) (Z : AZ) (a0 : Nat) (i1 : Int32) (I : AI) : Option (Int32 × AI) :=
  (f276 kad N Z i1 I).bind fun r2_1 =>
  if r2_1.1 = 0 then
    f278_b13 kad N Z a0 i1 (1 : Int32) r2_1.2
  else
    f278_b13 kad N Z a0 i1 (0 : Int32) r2_1.2
set_option maxRecDepth 20000 in
theorem Tf278 {kad : Nat → Nat} {N : Nat} {Z : AZ} {d : Nat} {t : Option Nat × (Nat × Nat)} (hd : 2 ≤ d) : ∀ (a0 : Nat) (ha0 : sh11 kad Z a0) (i1 : Int32) (I : AI) (r : Int32 × AI), f278 kad N Z a0 i1 I = some r → aGo kad d 278 (0, ([(0, .ref a0), (1, .int i1)], [])) (aMem Z I, t) (qI Z t r) := by
  intro a0 ha0 i1 I r h
  unfold f278 at h
  refine go_ops aMi278 2 _ (f1 := (2, ([(0, .ref a0), (1, .int i1)], [.int i1, .ref a0]))) rfl ?_
  obtain ⟨r2_1, hxr2_1, h⟩ := Option.bind_eq_some_iff.mp h
  refine gg_cs (as := [.int i1]) (r := [.ref a0]) aMi278 rfl rfl rfl aMi276 rfl (Nat.le_of_ble_eq_true rfl) (Nat.le_of_ble_eq_true rfl) (by omega) (Tf276 (by omega) i1 I _ hxr2_1) ?_
  show aGo kad d 278 (5, ([(0, .ref a0), (1, .int i1)], [.int r2_1.1, .ref a0])) (aMem Z r2_1.2, t) _
  refine gg_br (b := decide (r2_1.1 = 0)) (tg := 12) (off := 7) aMi278 rfl rfl rfl rfl (fun hb => ?_) (fun hb => ?_)
  · rw [if_pos (of_decide_eq_true hb)] at h
    refine go_ops aMi278 1 _ (f1 := (13, ([(0, .ref a0), (1, .int i1)], [.int (1 : Int32), .ref a0]))) rfl ?_
    exact Tf278_b13 hd a0 ha0 i1 (1 : Int32) r2_1.2 _ h
  · rw [if_neg (of_decide_eq_false hb)] at h
    refine go_ops aMi278 2 _ (f1 := (13, ([(0, .ref a0), (1, .int i1)], [.int (0 : Int32), .ref a0]))) rfl ?_
    exact Tf278_b13 hd a0 ha0 i1 (0 : Int32) r2_1.2 _ h
-- KernelGymModel.tape ()I
def f279 (kad : Nat → Nat) (N : Nat) (Z : AZ) (a0 : Nat) (I : AI) : Option (Int32 × AI) :=
  (wI I a0 0 (0 : Int32)).bind fun I2_1 =>
  some ((I2_1 a0 37), I2_1)
set_option maxRecDepth 20000 in
theorem Tf279 {kad : Nat → Nat} {N : Nat} {Z : AZ} {d : Nat} {t : Option Nat × (Nat × Nat)} (hd : 0 ≤ d) : ∀ (a0 : Nat) (ha0 : sh11 kad Z a0) (I : AI) (r : Int32 × AI), f279 kad N Z a0 I = some r → aGo kad d 279 (0, ([(0, .ref a0)], [])) (aMem Z I, t) (qI Z t r) := by
  intro a0 ha0 I r h
  unfold f279 at h
  refine go_ops aMi279 2 _ (f1 := (2, ([(0, .ref a0)], [.int (0 : Int32), .ref a0]))) rfl ?_
  obtain ⟨I2_1, hxI2_1, h⟩ := Option.bind_eq_some_iff.mp h
  refine gg_pI aMi279 rfl rfl rfl rfl (by decide) (pI_of (sh11_z ha0) hxI2_1) ?_
  refine go_ops aMi279 1 _ (f1 := (6, ([(0, .ref a0)], [.ref a0]))) rfl ?_
  refine gg_gI aMi279 rfl rfl rfl (gI_of (sh11_z ha0)) ?_
  cases h
  exact go_ret aMi279 rfl aRetI ⟨rfl, rfl⟩
-- KernelGymModel.tapeAt (I)I
def f280_b36 (kad : Nat → Nat) (N : Nat) (Z : AZ) (a0 : Nat) (s0 : Int32) (I : AI) : Option (Int32 × AI) :=
  some (s0, I)
set_option maxRecDepth 20000 in
theorem Tf280_b36 {kad : Nat → Nat} {N : Nat} {Z : AZ} {d : Nat} {t : Option Nat × (Nat × Nat)} (hd : 1 ≤ d) : ∀ (a0 : Nat) (ha0 : sh11 kad Z a0) (s0 : Int32) (I : AI) (r : Int32 × AI), f280_b36 kad N Z a0 s0 I = some r → aGo kad d 280 (36, ([], [.int s0])) (aMem Z I, t) (qI Z t r) := by
  intro a0 ha0 s0 I r h
  unfold f280_b36 at h
  cases h
  exact go_ret aMi280 rfl aRetI ⟨rfl, rfl⟩
def f280_b20 (kad : Nat → Nat) (N : Nat) (Z : AZ) (a0 : Nat) (i1 : Int32) (s0 : Int32) (I : AI) : Option (Int32 × AI) :=
  (f185 kad N Z a0 s0 I).bind fun r20_1 =>
  if r20_1.1 = 0 then
    f280_b36 kad N Z a0 (0 : Int32) r20_1.2
  else
    (ixA 60 i1).bind fun j31_2 =>
    f280_b36 kad N Z a0 (r20_1.2 (a0 + 17) j31_2) r20_1.2
set_option maxRecDepth 20000 in
theorem Tf280_b20 {kad : Nat → Nat} {N : Nat} {Z : AZ} {d : Nat} {t : Option Nat × (Nat × Nat)} (hd : 1 ≤ d) : ∀ (a0 : Nat) (ha0 : sh11 kad Z a0) (i1 : Int32) (s0 : Int32) (I : AI) (r : Int32 × AI), f280_b20 kad N Z a0 i1 s0 I = some r → aGo kad d 280 (20, ([(0, .ref a0), (1, .int i1)], [.int s0, .ref a0])) (aMem Z I, t) (qI Z t r) := by
  intro a0 ha0 i1 s0 I r h
  unfold f280_b20 at h
  obtain ⟨r20_1, hxr20_1, h⟩ := Option.bind_eq_some_iff.mp h
  refine gg_cv (as := [.int s0]) (r := []) aMi280 rfl rfl rfl aMi185 (Nat.le_of_ble_eq_true rfl) rfl (Nat.le_of_ble_eq_true rfl) (Nat.le_of_ble_eq_true rfl) (by omega) (isK_of (sh11_z ha0)) (Tf185 (by omega) a0 ha0 s0 I _ hxr20_1) ?_
  show aGo kad d 280 (23, ([(0, .ref a0), (1, .int i1)], [.int r20_1.1])) (aMem Z r20_1.2, t) _
  refine gg_br (b := decide (r20_1.1 = 0)) (tg := 35) (off := 12) aMi280 rfl rfl rfl rfl (fun hb => ?_) (fun hb => ?_)
  · rw [if_pos (of_decide_eq_true hb)] at h
    refine go_ops aMi280 1 _ (f1 := (36, ([(0, .ref a0), (1, .int i1)], [.int (0 : Int32)]))) rfl ?_
    refine go_le (lv1 := []) (aLe_of (show (List.map (fun q => q.1) ([] : ALv)).Nodup from (by show ([] : List Nat).Nodup; decide)) aSubL_nil) ?_
    exact Tf280_b36 hd a0 ha0 (0 : Int32) r20_1.2 _ h
  · rw [if_neg (of_decide_eq_false hb)] at h
    refine go_ops aMi280 1 _ (f1 := (27, ([(0, .ref a0), (1, .int i1)], [.ref a0]))) rfl ?_
    refine gg_gR (b := (a0 + 17)) aMi280 rfl rfl rfl (gR_of (sh11_z ha0) (sh11_r36 ha0)) ?_
    refine go_ops aMi280 1 _ (f1 := (31, ([(0, .ref a0), (1, .int i1)], [.int i1, .ref (a0 + 17)]))) rfl ?_
    obtain ⟨j31_2, hxj31_2, h⟩ := Option.bind_eq_some_iff.mp h
    refine gg_lI (Or.inl ⟨rfl, rfl⟩) aMi280 rfl (lI_of (sh11_a36 ha0) hxj31_2) ?_
    refine go_ops aMi280 1 _ (f1 := (36, ([(0, .ref a0), (1, .int i1)], [.int (r20_1.2 (a0 + 17) j31_2)]))) rfl ?_
    refine go_le (lv1 := []) (aLe_of (show (List.map (fun q => q.1) ([] : ALv)).Nodup from (by show ([] : List Nat).Nodup; decide)) aSubL_nil) ?_
    exact Tf280_b36 hd a0 ha0 (r20_1.2 (a0 + 17) j31_2) r20_1.2 _ h
def f280 (kad : Nat → Nat) (N : Nat) (Z : AZ) (a0 : Nat) (i1 : Int32) (I : AI) : Option (Int32 × AI) :=
  (f186 kad N Z i1 (0 : Int32) ((I a0 37) - (1 : Int32)) I).bind fun r9_1 =>
  if r9_1.1 = 0 then
    f280_b20 kad N Z a0 i1 (1 : Int32) r9_1.2
  else
    f280_b20 kad N Z a0 i1 (0 : Int32) r9_1.2
set_option maxRecDepth 20000 in
theorem Tf280 {kad : Nat → Nat} {N : Nat} {Z : AZ} {d : Nat} {t : Option Nat × (Nat × Nat)} (hd : 1 ≤ d) : ∀ (a0 : Nat) (ha0 : sh11 kad Z a0) (i1 : Int32) (I : AI) (r : Int32 × AI), f280 kad N Z a0 i1 I = some r → aGo kad d 280 (0, ([(0, .ref a0), (1, .int i1)], [])) (aMem Z I, t) (qI Z t r) := by
  intro a0 ha0 i1 I r h
  unfold f280 at h
  refine go_ops aMi280 4 _ (f1 := (4, ([(0, .ref a0), (1, .int i1)], [.ref a0, .int (0 : Int32), .int i1, .ref a0]))) rfl ?_
  refine gg_gI aMi280 rfl rfl rfl (gI_of (sh11_z ha0)) ?_
  refine go_ops aMi280 2 _ (f1 := (9, ([(0, .ref a0), (1, .int i1)], [.int ((I a0 37) - (1 : Int32)), .int (0 : Int32), .int i1, .ref a0]))) rfl ?_
  obtain ⟨r9_1, hxr9_1, h⟩ := Option.bind_eq_some_iff.mp h
  refine gg_cs (as := [.int i1, .int (0 : Int32), .int ((I a0 37) - (1 : Int32))]) (r := [.ref a0]) aMi280 rfl rfl rfl aMi186 rfl (Nat.le_of_ble_eq_true rfl) (Nat.le_of_ble_eq_true rfl) (by omega) (Tf186 (by omega) i1 (0 : Int32) ((I a0 37) - (1 : Int32)) I _ hxr9_1) ?_
  show aGo kad d 280 (12, ([(0, .ref a0), (1, .int i1)], [.int r9_1.1, .ref a0])) (aMem Z r9_1.2, t) _
  refine gg_br (b := decide (r9_1.1 = 0)) (tg := 19) (off := 7) aMi280 rfl rfl rfl rfl (fun hb => ?_) (fun hb => ?_)
  · rw [if_pos (of_decide_eq_true hb)] at h
    refine go_ops aMi280 1 _ (f1 := (20, ([(0, .ref a0), (1, .int i1)], [.int (1 : Int32), .ref a0]))) rfl ?_
    exact Tf280_b20 hd a0 ha0 i1 (1 : Int32) r9_1.2 _ h
  · rw [if_neg (of_decide_eq_false hb)] at h
    refine go_ops aMi280 2 _ (f1 := (20, ([(0, .ref a0), (1, .int i1)], [.int (0 : Int32), .ref a0]))) rfl ?_
    exact Tf280_b20 hd a0 ha0 i1 (0 : Int32) r9_1.2 _ h
-- KernelGymModel.added (II)I
def f281 (kad : Nat → Nat) (N : Nat) (Z : AZ) (i0 : Int32) (i1 : Int32) (I : AI) : Option (Int32 × AI) :=
  some ((((((31 : Int64) * (i0.toInt64)) + (i1.toInt64)) - (((31 : Int64) * (i0.toInt64)) + (i1.toInt64)) / (1000003 : Int64) * (1000003 : Int64)).toInt32), I)
set_option maxRecDepth 20000 in
theorem Tf281 {kad : Nat → Nat} {N : Nat} {Z : AZ} {d : Nat} {t : Option Nat × (Nat × Nat)} (hd : 0 ≤ d) : ∀ (i0 : Int32) (i1 : Int32) (I : AI) (r : Int32 × AI), f281 kad N Z i0 i1 I = some r → aGo kad d 281 (0, ([(0, .int i0), (1, .int i1)], [])) (aMem Z I, t) (qI Z t r) := by
  intro i0 i1 I r h
  unfold f281 at h
  refine gg_kL aMi281 rfl rfl ?_
  refine go_ops aMi281 6 _ (f1 := (9, ([(0, .int i0), (1, .int i1)], [.long (((31 : Int64) * (i0.toInt64)) + (i1.toInt64))]))) rfl ?_
  refine gg_kL aMi281 rfl rfl ?_
  refine go_ops aMi281 2 _ (f1 := (14, ([(0, .int i0), (1, .int i1)], [.int (((((31 : Int64) * (i0.toInt64)) + (i1.toInt64)) - (((31 : Int64) * (i0.toInt64)) + (i1.toInt64)) / (1000003 : Int64) * (1000003 : Int64)).toInt32)]))) rfl ?_
  cases h
  exact go_ret aMi281 rfl aRetI ⟨rfl, rfl⟩
-- KernelGymModel.sumOf ()I
def f282_b157 (kad : Nat → Nat) (N : Nat) (Z : AZ) : Nat → Nat → Int32 → Int32 → AI → Option (Int32 × AI)
  | 0, _, _, _, _ => none
  | F + 1, a0, i1, i2, I =>
    if (I a0 37) ≤ i2 then
      some (i1, I)
    else
      (ixA 60 i2).bind fun j171_1 =>
      (f281 kad N Z i1 (I (a0 + 17) j171_1) I).bind fun r172_2 =>
      f282_b157 kad N Z F a0 r172_2.1 (i2 + (1 : Int32)) r172_2.2
set_option maxRecDepth 20000 in
theorem Tf282_b157 {kad : Nat → Nat} {N : Nat} {Z : AZ} {d : Nat} {t : Option Nat × (Nat × Nat)} (hd : 1 ≤ d) : ∀ (F : Nat) (a0 : Nat) (ha0 : sh11 kad Z a0) (i1 : Int32) (i2 : Int32) (I : AI) (r : Int32 × AI), f282_b157 kad N Z F a0 i1 i2 I = some r → aGo kad d 282 (157, ([(0, .ref a0), (1, .int i1), (2, .int i2)], [])) (aMem Z I, t) (qI Z t r) := by
  intro F
  induction F with
  | zero => intro a0 ha0 i1 i2 I r h; cases h
  | succ F ih =>
    intro a0 ha0 i1 i2 I r h
    unfold f282_b157 at h
    refine go_ops aMi282 2 _ (f1 := (159, ([(0, .ref a0), (1, .int i1), (2, .int i2)], [.ref a0, .int i2]))) rfl ?_
    refine gg_gI aMi282 rfl rfl rfl (gI_of (sh11_z ha0)) ?_
    refine gg_br (b := decide ((I a0 37) ≤ i2)) (tg := 182) (off := 20) aMi282 rfl rfl rfl rfl (fun hb => ?_) (fun hb => ?_)
    · rw [if_pos (of_decide_eq_true hb)] at h
      refine go_ops aMi282 1 _ (f1 := (183, ([(0, .ref a0), (1, .int i1), (2, .int i2)], [.int i1]))) rfl ?_
      cases h
      exact go_ret aMi282 rfl aRetI ⟨rfl, rfl⟩
    · rw [if_neg (of_decide_eq_false hb)] at h
      refine go_ops aMi282 2 _ (f1 := (167, ([(0, .ref a0), (1, .int i1), (2, .int i2)], [.ref a0, .int i1]))) rfl ?_
      refine gg_gR (b := (a0 + 17)) aMi282 rfl rfl rfl (gR_of (sh11_z ha0) (sh11_r36 ha0)) ?_
      refine go_ops aMi282 1 _ (f1 := (171, ([(0, .ref a0), (1, .int i1), (2, .int i2)], [.int i2, .ref (a0 + 17), .int i1]))) rfl ?_
      obtain ⟨j171_1, hxj171_1, h⟩ := Option.bind_eq_some_iff.mp h
      refine gg_lI (Or.inl ⟨rfl, rfl⟩) aMi282 rfl (lI_of (sh11_a36 ha0) hxj171_1) ?_
      obtain ⟨r172_2, hxr172_2, h⟩ := Option.bind_eq_some_iff.mp h
      refine gg_cs (as := [.int i1, .int (I (a0 + 17) j171_1)]) (r := []) aMi282 rfl rfl rfl aMi281 rfl (Nat.le_of_ble_eq_true rfl) (Nat.le_of_ble_eq_true rfl) (by omega) (Tf281 (by omega) i1 (I (a0 + 17) j171_1) I _ hxr172_2) ?_
      show aGo kad d 282 (175, ([(0, .ref a0), (1, .int i1), (2, .int i2)], [.int r172_2.1])) (aMem Z r172_2.2, t) _
      refine go_ops aMi282 3 _ (f1 := (157, ([(2, .int (i2 + (1 : Int32))), (1, .int r172_2.1), (0, .ref a0)], []))) rfl ?_
      refine go_le (lv1 := [(0, .ref a0), (1, .int r172_2.1), (2, .int (i2 + (1 : Int32)))]) (aLe_of (show (List.map (fun q => q.1) ([(0, .ref a0), (1, .int r172_2.1), (2, .int (i2 + (1 : Int32)))] : ALv)).Nodup from (by show ([0, 1, 2] : List Nat).Nodup; decide)) (aSubL_cons rfl (aSubL_cons rfl (aSubL_cons rfl aSubL_nil)))) ?_
      exact ih a0 ha0 r172_2.1 (i2 + (1 : Int32)) r172_2.2 _ h
def f282_b122 (kad : Nat → Nat) (N : Nat) (Z : AZ) : Nat → Nat → Int32 → Int32 → AI → Option (Int32 × AI)
  | 0, _, _, _, _ => none
  | F + 1, a0, i1, i2, I =>
    if (256 : Int32) ≤ i2 then
      (f281 kad N Z i1 (I a0 37) I).bind fun r151_1 =>
      f282_b157 kad N Z N a0 r151_1.1 (0 : Int32) r151_1.2
    else
      (ixA 256 i2).bind fun j135_2 =>
      (f281 kad N Z i1 (I (a0 + 24) j135_2) I).bind fun r136_3 =>
      f282_b122 kad N Z F a0 r136_3.1 (i2 + (1 : Int32)) r136_3.2
set_option maxRecDepth 20000 in
theorem Tf282_b122 {kad : Nat → Nat} {N : Nat} {Z : AZ} {d : Nat} {t : Option Nat × (Nat × Nat)} (hd : 1 ≤ d) : ∀ (F : Nat) (a0 : Nat) (ha0 : sh11 kad Z a0) (i1 : Int32) (i2 : Int32) (I : AI) (r : Int32 × AI), f282_b122 kad N Z F a0 i1 i2 I = some r → aGo kad d 282 (122, ([(0, .ref a0), (1, .int i1), (2, .int i2)], [])) (aMem Z I, t) (qI Z t r) := by
  intro F
  induction F with
  | zero => intro a0 ha0 i1 i2 I r h; cases h
  | succ F ih =>
    intro a0 ha0 i1 i2 I r h
    unfold f282_b122 at h
    refine go_ops aMi282 2 _ (f1 := (126, ([(0, .ref a0), (1, .int i1), (2, .int i2)], [.int (256 : Int32), .int i2]))) rfl ?_
    refine gg_br (b := decide ((256 : Int32) ≤ i2)) (tg := 146) (off := 20) aMi282 rfl rfl rfl rfl (fun hb => ?_) (fun hb => ?_)
    · rw [if_pos (of_decide_eq_true hb)] at h
      refine go_ops aMi282 2 _ (f1 := (148, ([(0, .ref a0), (1, .int i1), (2, .int i2)], [.ref a0, .int i1]))) rfl ?_
      refine gg_gI aMi282 rfl rfl rfl (gI_of (sh11_z ha0)) ?_
      obtain ⟨r151_1, hxr151_1, h⟩ := Option.bind_eq_some_iff.mp h
      refine gg_cs (as := [.int i1, .int (I a0 37)]) (r := []) aMi282 rfl rfl rfl aMi281 rfl (Nat.le_of_ble_eq_true rfl) (Nat.le_of_ble_eq_true rfl) (by omega) (Tf281 (by omega) i1 (I a0 37) I _ hxr151_1) ?_
      show aGo kad d 282 (154, ([(0, .ref a0), (1, .int i1), (2, .int i2)], [.int r151_1.1])) (aMem Z r151_1.2, t) _
      refine go_ops aMi282 3 _ (f1 := (157, ([(2, .int (0 : Int32)), (1, .int r151_1.1), (0, .ref a0)], []))) rfl ?_
      refine go_le (lv1 := [(0, .ref a0), (1, .int r151_1.1), (2, .int (0 : Int32))]) (aLe_of (show (List.map (fun q => q.1) ([(0, .ref a0), (1, .int r151_1.1), (2, .int (0 : Int32))] : ALv)).Nodup from (by show ([0, 1, 2] : List Nat).Nodup; decide)) (aSubL_cons rfl (aSubL_cons rfl (aSubL_cons rfl aSubL_nil)))) ?_
      exact Tf282_b157 hd N a0 ha0 r151_1.1 (0 : Int32) r151_1.2 _ h
    · rw [if_neg (of_decide_eq_false hb)] at h
      refine go_ops aMi282 2 _ (f1 := (131, ([(0, .ref a0), (1, .int i1), (2, .int i2)], [.ref a0, .int i1]))) rfl ?_
      refine gg_gR (b := (a0 + 24)) aMi282 rfl rfl rfl (gR_of (sh11_z ha0) (sh11_r50 ha0)) ?_
      refine go_ops aMi282 1 _ (f1 := (135, ([(0, .ref a0), (1, .int i1), (2, .int i2)], [.int i2, .ref (a0 + 24), .int i1]))) rfl ?_
      obtain ⟨j135_2, hxj135_2, h⟩ := Option.bind_eq_some_iff.mp h
      refine gg_lI (Or.inl ⟨rfl, rfl⟩) aMi282 rfl (lI_of (sh11_a50 ha0) hxj135_2) ?_
      obtain ⟨r136_3, hxr136_3, h⟩ := Option.bind_eq_some_iff.mp h
      refine gg_cs (as := [.int i1, .int (I (a0 + 24) j135_2)]) (r := []) aMi282 rfl rfl rfl aMi281 rfl (Nat.le_of_ble_eq_true rfl) (Nat.le_of_ble_eq_true rfl) (by omega) (Tf281 (by omega) i1 (I (a0 + 24) j135_2) I _ hxr136_3) ?_
      show aGo kad d 282 (139, ([(0, .ref a0), (1, .int i1), (2, .int i2)], [.int r136_3.1])) (aMem Z r136_3.2, t) _
      refine go_ops aMi282 3 _ (f1 := (122, ([(2, .int (i2 + (1 : Int32))), (1, .int r136_3.1), (0, .ref a0)], []))) rfl ?_
      refine go_le (lv1 := [(0, .ref a0), (1, .int r136_3.1), (2, .int (i2 + (1 : Int32)))]) (aLe_of (show (List.map (fun q => q.1) ([(0, .ref a0), (1, .int r136_3.1), (2, .int (i2 + (1 : Int32)))] : ALv)).Nodup from (by show ([0, 1, 2] : List Nat).Nodup; decide)) (aSubL_cons rfl (aSubL_cons rfl (aSubL_cons rfl aSubL_nil)))) ?_
      exact ih a0 ha0 r136_3.1 (i2 + (1 : Int32)) r136_3.2 _ h
def f282_b96 (kad : Nat → Nat) (N : Nat) (Z : AZ) : Nat → Nat → Int32 → Int32 → AI → Option (Int32 × AI)
  | 0, _, _, _, _ => none
  | F + 1, a0, i1, i2, I =>
    if (256 : Int32) ≤ i2 then
      f282_b122 kad N Z N a0 i1 (0 : Int32) I
    else
      (ixA 256 i2).bind fun j109_1 =>
      (f281 kad N Z i1 (I (a0 + 15) j109_1) I).bind fun r110_2 =>
      f282_b96 kad N Z F a0 r110_2.1 (i2 + (1 : Int32)) r110_2.2
set_option maxRecDepth 20000 in
theorem Tf282_b96 {kad : Nat → Nat} {N : Nat} {Z : AZ} {d : Nat} {t : Option Nat × (Nat × Nat)} (hd : 1 ≤ d) : ∀ (F : Nat) (a0 : Nat) (ha0 : sh11 kad Z a0) (i1 : Int32) (i2 : Int32) (I : AI) (r : Int32 × AI), f282_b96 kad N Z F a0 i1 i2 I = some r → aGo kad d 282 (96, ([(0, .ref a0), (1, .int i1), (2, .int i2)], [])) (aMem Z I, t) (qI Z t r) := by
  intro F
  induction F with
  | zero => intro a0 ha0 i1 i2 I r h; cases h
  | succ F ih =>
    intro a0 ha0 i1 i2 I r h
    unfold f282_b96 at h
    refine go_ops aMi282 2 _ (f1 := (100, ([(0, .ref a0), (1, .int i1), (2, .int i2)], [.int (256 : Int32), .int i2]))) rfl ?_
    refine gg_br (b := decide ((256 : Int32) ≤ i2)) (tg := 120) (off := 20) aMi282 rfl rfl rfl rfl (fun hb => ?_) (fun hb => ?_)
    · rw [if_pos (of_decide_eq_true hb)] at h
      refine go_ops aMi282 2 _ (f1 := (122, ([(2, .int (0 : Int32)), (0, .ref a0), (1, .int i1)], []))) rfl ?_
      refine go_le (lv1 := [(0, .ref a0), (1, .int i1), (2, .int (0 : Int32))]) (aLe_of (show (List.map (fun q => q.1) ([(0, .ref a0), (1, .int i1), (2, .int (0 : Int32))] : ALv)).Nodup from (by show ([0, 1, 2] : List Nat).Nodup; decide)) (aSubL_cons rfl (aSubL_cons rfl (aSubL_cons rfl aSubL_nil)))) ?_
      exact Tf282_b122 hd N a0 ha0 i1 (0 : Int32) I _ h
    · rw [if_neg (of_decide_eq_false hb)] at h
      refine go_ops aMi282 2 _ (f1 := (105, ([(0, .ref a0), (1, .int i1), (2, .int i2)], [.ref a0, .int i1]))) rfl ?_
      refine gg_gR (b := (a0 + 15)) aMi282 rfl rfl rfl (gR_of (sh11_z ha0) (sh11_r25 ha0)) ?_
      refine go_ops aMi282 1 _ (f1 := (109, ([(0, .ref a0), (1, .int i1), (2, .int i2)], [.int i2, .ref (a0 + 15), .int i1]))) rfl ?_
      obtain ⟨j109_1, hxj109_1, h⟩ := Option.bind_eq_some_iff.mp h
      refine gg_lI (Or.inl ⟨rfl, rfl⟩) aMi282 rfl (lI_of (sh11_a25 ha0) hxj109_1) ?_
      obtain ⟨r110_2, hxr110_2, h⟩ := Option.bind_eq_some_iff.mp h
      refine gg_cs (as := [.int i1, .int (I (a0 + 15) j109_1)]) (r := []) aMi282 rfl rfl rfl aMi281 rfl (Nat.le_of_ble_eq_true rfl) (Nat.le_of_ble_eq_true rfl) (by omega) (Tf281 (by omega) i1 (I (a0 + 15) j109_1) I _ hxr110_2) ?_
      show aGo kad d 282 (113, ([(0, .ref a0), (1, .int i1), (2, .int i2)], [.int r110_2.1])) (aMem Z r110_2.2, t) _
      refine go_ops aMi282 3 _ (f1 := (96, ([(2, .int (i2 + (1 : Int32))), (1, .int r110_2.1), (0, .ref a0)], []))) rfl ?_
      refine go_le (lv1 := [(0, .ref a0), (1, .int r110_2.1), (2, .int (i2 + (1 : Int32)))]) (aLe_of (show (List.map (fun q => q.1) ([(0, .ref a0), (1, .int r110_2.1), (2, .int (i2 + (1 : Int32)))] : ALv)).Nodup from (by show ([0, 1, 2] : List Nat).Nodup; decide)) (aSubL_cons rfl (aSubL_cons rfl (aSubL_cons rfl aSubL_nil)))) ?_
      exact ih a0 ha0 r110_2.1 (i2 + (1 : Int32)) r110_2.2 _ h
def f282_b63 (kad : Nat → Nat) (N : Nat) (Z : AZ) : Nat → Nat → Int32 → Int32 → AI → Option (Int32 × AI)
  | 0, _, _, _, _ => none
  | F + 1, a0, i1, i2, I =>
    if (4 : Int32) ≤ i2 then
      (f281 kad N Z i1 (I a0 46) I).bind fun r90_1 =>
      f282_b96 kad N Z N a0 r90_1.1 (0 : Int32) r90_1.2
    else
      (ixA 4 i2).bind fun j74_2 =>
      (f281 kad N Z i1 (I (a0 + 16) j74_2) I).bind fun r75_3 =>
      f282_b63 kad N Z F a0 r75_3.1 (i2 + (1 : Int32)) r75_3.2
set_option maxRecDepth 20000 in
theorem Tf282_b63 {kad : Nat → Nat} {N : Nat} {Z : AZ} {d : Nat} {t : Option Nat × (Nat × Nat)} (hd : 1 ≤ d) : ∀ (F : Nat) (a0 : Nat) (ha0 : sh11 kad Z a0) (i1 : Int32) (i2 : Int32) (I : AI) (r : Int32 × AI), f282_b63 kad N Z F a0 i1 i2 I = some r → aGo kad d 282 (63, ([(0, .ref a0), (1, .int i1), (2, .int i2)], [])) (aMem Z I, t) (qI Z t r) := by
  intro F
  induction F with
  | zero => intro a0 ha0 i1 i2 I r h; cases h
  | succ F ih =>
    intro a0 ha0 i1 i2 I r h
    unfold f282_b63 at h
    refine go_ops aMi282 2 _ (f1 := (65, ([(0, .ref a0), (1, .int i1), (2, .int i2)], [.int (4 : Int32), .int i2]))) rfl ?_
    refine gg_br (b := decide ((4 : Int32) ≤ i2)) (tg := 85) (off := 20) aMi282 rfl rfl rfl rfl (fun hb => ?_) (fun hb => ?_)
    · rw [if_pos (of_decide_eq_true hb)] at h
      refine go_ops aMi282 2 _ (f1 := (87, ([(0, .ref a0), (1, .int i1), (2, .int i2)], [.ref a0, .int i1]))) rfl ?_
      refine gg_gI aMi282 rfl rfl rfl (gI_of (sh11_z ha0)) ?_
      obtain ⟨r90_1, hxr90_1, h⟩ := Option.bind_eq_some_iff.mp h
      refine gg_cs (as := [.int i1, .int (I a0 46)]) (r := []) aMi282 rfl rfl rfl aMi281 rfl (Nat.le_of_ble_eq_true rfl) (Nat.le_of_ble_eq_true rfl) (by omega) (Tf281 (by omega) i1 (I a0 46) I _ hxr90_1) ?_
      show aGo kad d 282 (93, ([(0, .ref a0), (1, .int i1), (2, .int i2)], [.int r90_1.1])) (aMem Z r90_1.2, t) _
      refine go_ops aMi282 3 _ (f1 := (96, ([(2, .int (0 : Int32)), (1, .int r90_1.1), (0, .ref a0)], []))) rfl ?_
      refine go_le (lv1 := [(0, .ref a0), (1, .int r90_1.1), (2, .int (0 : Int32))]) (aLe_of (show (List.map (fun q => q.1) ([(0, .ref a0), (1, .int r90_1.1), (2, .int (0 : Int32))] : ALv)).Nodup from (by show ([0, 1, 2] : List Nat).Nodup; decide)) (aSubL_cons rfl (aSubL_cons rfl (aSubL_cons rfl aSubL_nil)))) ?_
      exact Tf282_b96 hd N a0 ha0 r90_1.1 (0 : Int32) r90_1.2 _ h
    · rw [if_neg (of_decide_eq_false hb)] at h
      refine go_ops aMi282 2 _ (f1 := (70, ([(0, .ref a0), (1, .int i1), (2, .int i2)], [.ref a0, .int i1]))) rfl ?_
      refine gg_gR (b := (a0 + 16)) aMi282 rfl rfl rfl (gR_of (sh11_z ha0) (sh11_r26 ha0)) ?_
      refine go_ops aMi282 1 _ (f1 := (74, ([(0, .ref a0), (1, .int i1), (2, .int i2)], [.int i2, .ref (a0 + 16), .int i1]))) rfl ?_
      obtain ⟨j74_2, hxj74_2, h⟩ := Option.bind_eq_some_iff.mp h
      refine gg_lI (Or.inl ⟨rfl, rfl⟩) aMi282 rfl (lI_of (sh11_a26 ha0) hxj74_2) ?_
      obtain ⟨r75_3, hxr75_3, h⟩ := Option.bind_eq_some_iff.mp h
      refine gg_cs (as := [.int i1, .int (I (a0 + 16) j74_2)]) (r := []) aMi282 rfl rfl rfl aMi281 rfl (Nat.le_of_ble_eq_true rfl) (Nat.le_of_ble_eq_true rfl) (by omega) (Tf281 (by omega) i1 (I (a0 + 16) j74_2) I _ hxr75_3) ?_
      show aGo kad d 282 (78, ([(0, .ref a0), (1, .int i1), (2, .int i2)], [.int r75_3.1])) (aMem Z r75_3.2, t) _
      refine go_ops aMi282 3 _ (f1 := (63, ([(2, .int (i2 + (1 : Int32))), (1, .int r75_3.1), (0, .ref a0)], []))) rfl ?_
      refine go_le (lv1 := [(0, .ref a0), (1, .int r75_3.1), (2, .int (i2 + (1 : Int32)))]) (aLe_of (show (List.map (fun q => q.1) ([(0, .ref a0), (1, .int r75_3.1), (2, .int (i2 + (1 : Int32)))] : ALv)).Nodup from (by show ([0, 1, 2] : List Nat).Nodup; decide)) (aSubL_cons rfl (aSubL_cons rfl (aSubL_cons rfl aSubL_nil)))) ?_
      exact ih a0 ha0 r75_3.1 (i2 + (1 : Int32)) r75_3.2 _ h
def f282 (kad : Nat → Nat) (N : Nat) (Z : AZ) (a0 : Nat) (I : AI) : Option (Int32 × AI) :=
  (f281 kad N Z (7 : Int32) (I a0 23) I).bind fun r6_1 =>
  (f281 kad N Z r6_1.1 ((r6_1.2) a0 24) r6_1.2).bind fun r13_2 =>
  (f281 kad N Z r13_2.1 ((r13_2.2) a0 38) r13_2.2).bind fun r20_3 =>
  (f281 kad N Z r20_3.1 ((r20_3.2) a0 27) r20_3.2).bind fun r27_4 =>
  (f281 kad N Z r27_4.1 ((r27_4.2) a0 28) r27_4.2).bind fun r36_5 =>
  (f272 kad N Z a0 r36_5.2).bind fun r40_6 =>
  (f281 kad N Z r36_5.1 r40_6.1 r40_6.2).bind fun r43_7 =>
  (f281 kad N Z r43_7.1 ((r43_7.2) a0 34) r43_7.2).bind fun r50_8 =>
  (f281 kad N Z r50_8.1 ((r50_8.2) a0 35) r50_8.2).bind fun r57_9 =>
  f282_b63 kad N Z N a0 r57_9.1 (0 : Int32) r57_9.2
set_option maxRecDepth 20000 in
theorem Tf282 {kad : Nat → Nat} {N : Nat} {Z : AZ} {d : Nat} {t : Option Nat × (Nat × Nat)} (hd : 1 ≤ d) : ∀ (a0 : Nat) (ha0 : sh11 kad Z a0) (I : AI) (r : Int32 × AI), f282 kad N Z a0 I = some r → aGo kad d 282 (0, ([(0, .ref a0)], [])) (aMem Z I, t) (qI Z t r) := by
  intro a0 ha0 I r h
  unfold f282 at h
  refine go_ops aMi282 2 _ (f1 := (3, ([(0, .ref a0)], [.ref a0, .int (7 : Int32)]))) rfl ?_
  refine gg_gI aMi282 rfl rfl rfl (gI_of (sh11_z ha0)) ?_
  obtain ⟨r6_1, hxr6_1, h⟩ := Option.bind_eq_some_iff.mp h
  refine gg_cs (as := [.int (7 : Int32), .int (I a0 23)]) (r := []) aMi282 rfl rfl rfl aMi281 rfl (Nat.le_of_ble_eq_true rfl) (Nat.le_of_ble_eq_true rfl) (by omega) (Tf281 (by omega) (7 : Int32) (I a0 23) I _ hxr6_1) ?_
  show aGo kad d 282 (9, ([(0, .ref a0)], [.int r6_1.1])) (aMem Z r6_1.2, t) _
  refine go_ops aMi282 1 _ (f1 := (10, ([(0, .ref a0)], [.ref a0, .int r6_1.1]))) rfl ?_
  refine gg_gI aMi282 rfl rfl rfl (gI_of (sh11_z ha0)) ?_
  obtain ⟨r13_2, hxr13_2, h⟩ := Option.bind_eq_some_iff.mp h
  refine gg_cs (as := [.int r6_1.1, .int ((r6_1.2) a0 24)]) (r := []) aMi282 rfl rfl rfl aMi281 rfl (Nat.le_of_ble_eq_true rfl) (Nat.le_of_ble_eq_true rfl) (by omega) (Tf281 (by omega) r6_1.1 ((r6_1.2) a0 24) r6_1.2 _ hxr13_2) ?_
  show aGo kad d 282 (16, ([(0, .ref a0)], [.int r13_2.1])) (aMem Z r13_2.2, t) _
  refine go_ops aMi282 1 _ (f1 := (17, ([(0, .ref a0)], [.ref a0, .int r13_2.1]))) rfl ?_
  refine gg_gI aMi282 rfl rfl rfl (gI_of (sh11_z ha0)) ?_
  obtain ⟨r20_3, hxr20_3, h⟩ := Option.bind_eq_some_iff.mp h
  refine gg_cs (as := [.int r13_2.1, .int ((r13_2.2) a0 38)]) (r := []) aMi282 rfl rfl rfl aMi281 rfl (Nat.le_of_ble_eq_true rfl) (Nat.le_of_ble_eq_true rfl) (by omega) (Tf281 (by omega) r13_2.1 ((r13_2.2) a0 38) r13_2.2 _ hxr20_3) ?_
  show aGo kad d 282 (23, ([(0, .ref a0)], [.int r20_3.1])) (aMem Z r20_3.2, t) _
  refine go_ops aMi282 1 _ (f1 := (24, ([(0, .ref a0)], [.ref a0, .int r20_3.1]))) rfl ?_
  refine gg_gI aMi282 rfl rfl rfl (gI_of (sh11_z ha0)) ?_
  obtain ⟨r27_4, hxr27_4, h⟩ := Option.bind_eq_some_iff.mp h
  refine gg_cs (as := [.int r20_3.1, .int ((r20_3.2) a0 27)]) (r := []) aMi282 rfl rfl rfl aMi281 rfl (Nat.le_of_ble_eq_true rfl) (Nat.le_of_ble_eq_true rfl) (by omega) (Tf281 (by omega) r20_3.1 ((r20_3.2) a0 27) r20_3.2 _ hxr27_4) ?_
  show aGo kad d 282 (30, ([(0, .ref a0)], [.int r27_4.1])) (aMem Z r27_4.2, t) _
  refine go_ops aMi282 3 _ (f1 := (33, ([(1, .int r27_4.1), (0, .ref a0)], [.ref a0, .int r27_4.1]))) rfl ?_
  refine gg_gI aMi282 rfl rfl rfl (gI_of (sh11_z ha0)) ?_
  obtain ⟨r36_5, hxr36_5, h⟩ := Option.bind_eq_some_iff.mp h
  refine gg_cs (as := [.int r27_4.1, .int ((r27_4.2) a0 28)]) (r := []) aMi282 rfl rfl rfl aMi281 rfl (Nat.le_of_ble_eq_true rfl) (Nat.le_of_ble_eq_true rfl) (by omega) (Tf281 (by omega) r27_4.1 ((r27_4.2) a0 28) r27_4.2 _ hxr36_5) ?_
  show aGo kad d 282 (39, ([(1, .int r27_4.1), (0, .ref a0)], [.int r36_5.1])) (aMem Z r36_5.2, t) _
  refine go_ops aMi282 1 _ (f1 := (40, ([(1, .int r27_4.1), (0, .ref a0)], [.ref a0, .int r36_5.1]))) rfl ?_
  obtain ⟨r40_6, hxr40_6, h⟩ := Option.bind_eq_some_iff.mp h
  refine gg_cv (as := []) (r := [.int r36_5.1]) aMi282 rfl rfl rfl aMi272 (Nat.le_of_ble_eq_true rfl) rfl (Nat.le_of_ble_eq_true rfl) (Nat.le_of_ble_eq_true rfl) (by omega) (isK_of (sh11_z ha0)) (Tf272 (by omega) a0 ha0 r36_5.2 _ hxr40_6) ?_
  show aGo kad d 282 (43, ([(1, .int r27_4.1), (0, .ref a0)], [.int r40_6.1, .int r36_5.1])) (aMem Z r40_6.2, t) _
  obtain ⟨r43_7, hxr43_7, h⟩ := Option.bind_eq_some_iff.mp h
  refine gg_cs (as := [.int r36_5.1, .int r40_6.1]) (r := []) aMi282 rfl rfl rfl aMi281 rfl (Nat.le_of_ble_eq_true rfl) (Nat.le_of_ble_eq_true rfl) (by omega) (Tf281 (by omega) r36_5.1 r40_6.1 r40_6.2 _ hxr43_7) ?_
  show aGo kad d 282 (46, ([(1, .int r27_4.1), (0, .ref a0)], [.int r43_7.1])) (aMem Z r43_7.2, t) _
  refine go_ops aMi282 1 _ (f1 := (47, ([(1, .int r27_4.1), (0, .ref a0)], [.ref a0, .int r43_7.1]))) rfl ?_
  refine gg_gI aMi282 rfl rfl rfl (gI_of (sh11_z ha0)) ?_
  obtain ⟨r50_8, hxr50_8, h⟩ := Option.bind_eq_some_iff.mp h
  refine gg_cs (as := [.int r43_7.1, .int ((r43_7.2) a0 34)]) (r := []) aMi282 rfl rfl rfl aMi281 rfl (Nat.le_of_ble_eq_true rfl) (Nat.le_of_ble_eq_true rfl) (by omega) (Tf281 (by omega) r43_7.1 ((r43_7.2) a0 34) r43_7.2 _ hxr50_8) ?_
  show aGo kad d 282 (53, ([(1, .int r27_4.1), (0, .ref a0)], [.int r50_8.1])) (aMem Z r50_8.2, t) _
  refine go_ops aMi282 1 _ (f1 := (54, ([(1, .int r27_4.1), (0, .ref a0)], [.ref a0, .int r50_8.1]))) rfl ?_
  refine gg_gI aMi282 rfl rfl rfl (gI_of (sh11_z ha0)) ?_
  obtain ⟨r57_9, hxr57_9, h⟩ := Option.bind_eq_some_iff.mp h
  refine gg_cs (as := [.int r50_8.1, .int ((r50_8.2) a0 35)]) (r := []) aMi282 rfl rfl rfl aMi281 rfl (Nat.le_of_ble_eq_true rfl) (Nat.le_of_ble_eq_true rfl) (by omega) (Tf281 (by omega) r50_8.1 ((r50_8.2) a0 35) r50_8.2 _ hxr57_9) ?_
  show aGo kad d 282 (60, ([(1, .int r27_4.1), (0, .ref a0)], [.int r57_9.1])) (aMem Z r57_9.2, t) _
  refine go_ops aMi282 3 _ (f1 := (63, ([(2, .int (0 : Int32)), (1, .int r57_9.1), (0, .ref a0)], []))) rfl ?_
  refine go_le (lv1 := [(0, .ref a0), (1, .int r57_9.1), (2, .int (0 : Int32))]) (aLe_of (show (List.map (fun q => q.1) ([(0, .ref a0), (1, .int r57_9.1), (2, .int (0 : Int32))] : ALv)).Nodup from (by show ([0, 1, 2] : List Nat).Nodup; decide)) (aSubL_cons rfl (aSubL_cons rfl (aSubL_cons rfl aSubL_nil)))) ?_
  exact Tf282_b63 hd N a0 ha0 r57_9.1 (0 : Int32) r57_9.2 _ h
-- KernelGymModel.sum ()I
def f283 (kad : Nat → Nat) (N : Nat) (Z : AZ) (a0 : Nat) (I : AI) : Option (Int32 × AI) :=
  (wI I a0 0 (0 : Int32)).bind fun I2_1 =>
  (f282 kad N Z a0 I2_1).bind fun r6_2 =>
  some (r6_2.1, r6_2.2)
set_option maxRecDepth 20000 in
theorem Tf283 {kad : Nat → Nat} {N : Nat} {Z : AZ} {d : Nat} {t : Option Nat × (Nat × Nat)} (hd : 2 ≤ d) : ∀ (a0 : Nat) (ha0 : sh11 kad Z a0) (I : AI) (r : Int32 × AI), f283 kad N Z a0 I = some r → aGo kad d 283 (0, ([(0, .ref a0)], [])) (aMem Z I, t) (qI Z t r) := by
  intro a0 ha0 I r h
  unfold f283 at h
  refine go_ops aMi283 2 _ (f1 := (2, ([(0, .ref a0)], [.int (0 : Int32), .ref a0]))) rfl ?_
  obtain ⟨I2_1, hxI2_1, h⟩ := Option.bind_eq_some_iff.mp h
  refine gg_pI aMi283 rfl rfl rfl rfl (by decide) (pI_of (sh11_z ha0) hxI2_1) ?_
  refine go_ops aMi283 1 _ (f1 := (6, ([(0, .ref a0)], [.ref a0]))) rfl ?_
  obtain ⟨r6_2, hxr6_2, h⟩ := Option.bind_eq_some_iff.mp h
  refine gg_cv (as := []) (r := []) aMi283 rfl rfl rfl aMi282 (Nat.le_of_ble_eq_true rfl) rfl (Nat.le_of_ble_eq_true rfl) (Nat.le_of_ble_eq_true rfl) (by omega) (isK_of (sh11_z ha0)) (Tf282 (by omega) a0 ha0 I2_1 _ hxr6_2) ?_
  show aGo kad d 283 (9, ([(0, .ref a0)], [.int r6_2.1])) (aMem Z r6_2.2, t) _
  cases h
  exact go_ret aMi283 rfl aRetI ⟨rfl, rfl⟩
-- KernelGymModel.sumAnew (I)I
def f284_b29 (kad : Nat → Nat) (N : Nat) (Z : AZ) (a0 : Nat) (i1 : Int32) (s0 : Int32) (I : AI) : Option (Int32 × AI) :=
  (f185 kad N Z a0 s0 I).bind fun r29_1 =>
  if ¬ r29_1.1 = 0 then
    (f256 kad N Z a0 i1 r29_1.2).bind fun r44_2 =>
    (f282 kad N Z a0 r44_2.2).bind fun r48_3 =>
    (f256 kad N Z a0 ((r29_1.2) a0 38) r48_3.2).bind fun r54_4 =>
    some (r48_3.1, r54_4.2)
  else
    some ((0 : Int32), r29_1.2)
set_option maxRecDepth 20000 in
theorem Tf284_b29 {kad : Nat → Nat} {N : Nat} {Z : AZ} {d : Nat} {t : Option Nat × (Nat × Nat)} (hd : 8 ≤ d) : ∀ (a0 : Nat) (ha0 : sh11 kad Z a0) (i1 : Int32) (s0 : Int32) (I : AI) (r : Int32 × AI), f284_b29 kad N Z a0 i1 s0 I = some r → aGo kad d 284 (29, ([(0, .ref a0), (1, .int i1)], [.int s0, .ref a0])) (aMem Z I, t) (qI Z t r) := by
  intro a0 ha0 i1 s0 I r h
  unfold f284_b29 at h
  obtain ⟨r29_1, hxr29_1, h⟩ := Option.bind_eq_some_iff.mp h
  refine gg_cv (as := [.int s0]) (r := []) aMi284 rfl rfl rfl aMi185 (Nat.le_of_ble_eq_true rfl) rfl (Nat.le_of_ble_eq_true rfl) (Nat.le_of_ble_eq_true rfl) (by omega) (isK_of (sh11_z ha0)) (Tf185 (by omega) a0 ha0 s0 I _ hxr29_1) ?_
  show aGo kad d 284 (32, ([(0, .ref a0), (1, .int i1)], [.int r29_1.1])) (aMem Z r29_1.2, t) _
  refine gg_br (b := decide (¬ r29_1.1 = 0)) (tg := 37) (off := 5) aMi284 rfl rfl rfl rfl (fun hb => ?_) (fun hb => ?_)
  · rw [if_pos (of_decide_eq_true hb)] at h
    refine go_ops aMi284 1 _ (f1 := (38, ([(0, .ref a0), (1, .int i1)], [.ref a0]))) rfl ?_
    refine gg_gI aMi284 rfl rfl rfl (gI_of (sh11_z ha0)) ?_
    refine go_ops aMi284 3 _ (f1 := (44, ([(2, .int ((r29_1.2) a0 38)), (0, .ref a0), (1, .int i1)], [.int i1, .ref a0]))) rfl ?_
    obtain ⟨r44_2, hxr44_2, h⟩ := Option.bind_eq_some_iff.mp h
    refine gg_cv (as := [.int i1]) (r := []) aMi284 rfl rfl rfl aMi256 (Nat.le_of_ble_eq_true rfl) rfl (Nat.le_of_ble_eq_true rfl) (Nat.le_of_ble_eq_true rfl) (by omega) (isK_of (sh11_z ha0)) (Tf256 (by omega) a0 ha0 i1 r29_1.2 _ hxr44_2) ?_
    show aGo kad d 284 (47, ([(2, .int ((r29_1.2) a0 38)), (0, .ref a0), (1, .int i1)], [])) (aMem Z r44_2.2, t) _
    refine go_ops aMi284 1 _ (f1 := (48, ([(2, .int ((r29_1.2) a0 38)), (0, .ref a0), (1, .int i1)], [.ref a0]))) rfl ?_
    obtain ⟨r48_3, hxr48_3, h⟩ := Option.bind_eq_some_iff.mp h
    refine gg_cv (as := []) (r := []) aMi284 rfl rfl rfl aMi282 (Nat.le_of_ble_eq_true rfl) rfl (Nat.le_of_ble_eq_true rfl) (Nat.le_of_ble_eq_true rfl) (by omega) (isK_of (sh11_z ha0)) (Tf282 (by omega) a0 ha0 r44_2.2 _ hxr48_3) ?_
    show aGo kad d 284 (51, ([(2, .int ((r29_1.2) a0 38)), (0, .ref a0), (1, .int i1)], [.int r48_3.1])) (aMem Z r48_3.2, t) _
    refine go_ops aMi284 3 _ (f1 := (54, ([(3, .int r48_3.1), (2, .int ((r29_1.2) a0 38)), (0, .ref a0), (1, .int i1)], [.int ((r29_1.2) a0 38), .ref a0]))) rfl ?_
    obtain ⟨r54_4, hxr54_4, h⟩ := Option.bind_eq_some_iff.mp h
    refine gg_cv (as := [.int ((r29_1.2) a0 38)]) (r := []) aMi284 rfl rfl rfl aMi256 (Nat.le_of_ble_eq_true rfl) rfl (Nat.le_of_ble_eq_true rfl) (Nat.le_of_ble_eq_true rfl) (by omega) (isK_of (sh11_z ha0)) (Tf256 (by omega) a0 ha0 ((r29_1.2) a0 38) r48_3.2 _ hxr54_4) ?_
    show aGo kad d 284 (57, ([(3, .int r48_3.1), (2, .int ((r29_1.2) a0 38)), (0, .ref a0), (1, .int i1)], [])) (aMem Z r54_4.2, t) _
    refine go_ops aMi284 1 _ (f1 := (58, ([(3, .int r48_3.1), (2, .int ((r29_1.2) a0 38)), (0, .ref a0), (1, .int i1)], [.int r48_3.1]))) rfl ?_
    cases h
    exact go_ret aMi284 rfl aRetI ⟨rfl, rfl⟩
  · rw [if_neg (of_decide_eq_false hb)] at h
    refine go_ops aMi284 1 _ (f1 := (36, ([(0, .ref a0), (1, .int i1)], [.int (0 : Int32)]))) rfl ?_
    cases h
    exact go_ret aMi284 rfl aRetI ⟨rfl, rfl⟩
def f284 (kad : Nat → Nat) (N : Nat) (Z : AZ) (a0 : Nat) (i1 : Int32) (I : AI) : Option (Int32 × AI) :=
  (f216 kad N Z a0 I).bind fun r2_1 =>
  if ¬ r2_1.1 = 0 then
    (f186 kad N Z i1 (0 : Int32) ((r2_1.2) a0 38) r2_1.2).bind fun r18_2 =>
    if r18_2.1 = 0 then
      f284_b29 kad N Z a0 i1 (2 : Int32) r18_2.2
    else
      f284_b29 kad N Z a0 i1 (0 : Int32) r18_2.2
  else
    f284_b29 kad N Z a0 i1 (1 : Int32) r2_1.2
set_option maxRecDepth 20000 in
theorem Tf284 {kad : Nat → Nat} {N : Nat} {Z : AZ} {d : Nat} {t : Option Nat × (Nat × Nat)} (hd : 8 ≤ d) : ∀ (a0 : Nat) (ha0 : sh11 kad Z a0) (i1 : Int32) (I : AI) (r : Int32 × AI), f284 kad N Z a0 i1 I = some r → aGo kad d 284 (0, ([(0, .ref a0), (1, .int i1)], [])) (aMem Z I, t) (qI Z t r) := by
  intro a0 ha0 i1 I r h
  unfold f284 at h
  refine go_ops aMi284 2 _ (f1 := (2, ([(0, .ref a0), (1, .int i1)], [.ref a0, .ref a0]))) rfl ?_
  obtain ⟨r2_1, hxr2_1, h⟩ := Option.bind_eq_some_iff.mp h
  refine gg_cv (as := []) (r := [.ref a0]) aMi284 rfl rfl rfl aMi216 (Nat.le_of_ble_eq_true rfl) rfl (Nat.le_of_ble_eq_true rfl) (Nat.le_of_ble_eq_true rfl) (by omega) (isK_of (sh11_z ha0)) (Tf216 (by omega) a0 ha0 I _ hxr2_1) ?_
  show aGo kad d 284 (5, ([(0, .ref a0), (1, .int i1)], [.int r2_1.1, .ref a0])) (aMem Z r2_1.2, t) _
  refine gg_br (b := decide (¬ r2_1.1 = 0)) (tg := 12) (off := 7) aMi284 rfl rfl rfl rfl (fun hb => ?_) (fun hb => ?_)
  · rw [if_pos (of_decide_eq_true hb)] at h
    refine go_ops aMi284 3 _ (f1 := (15, ([(0, .ref a0), (1, .int i1)], [.ref a0, .int (0 : Int32), .int i1, .ref a0]))) rfl ?_
    refine gg_gI aMi284 rfl rfl rfl (gI_of (sh11_z ha0)) ?_
    obtain ⟨r18_2, hxr18_2, h⟩ := Option.bind_eq_some_iff.mp h
    refine gg_cs (as := [.int i1, .int (0 : Int32), .int ((r2_1.2) a0 38)]) (r := [.ref a0]) aMi284 rfl rfl rfl aMi186 rfl (Nat.le_of_ble_eq_true rfl) (Nat.le_of_ble_eq_true rfl) (by omega) (Tf186 (by omega) i1 (0 : Int32) ((r2_1.2) a0 38) r2_1.2 _ hxr18_2) ?_
    show aGo kad d 284 (21, ([(0, .ref a0), (1, .int i1)], [.int r18_2.1, .ref a0])) (aMem Z r18_2.2, t) _
    refine gg_br (b := decide (r18_2.1 = 0)) (tg := 28) (off := 7) aMi284 rfl rfl rfl rfl (fun hb => ?_) (fun hb => ?_)
    · rw [if_pos (of_decide_eq_true hb)] at h
      refine go_ops aMi284 1 _ (f1 := (29, ([(0, .ref a0), (1, .int i1)], [.int (2 : Int32), .ref a0]))) rfl ?_
      exact Tf284_b29 hd a0 ha0 i1 (2 : Int32) r18_2.2 _ h
    · rw [if_neg (of_decide_eq_false hb)] at h
      refine go_ops aMi284 2 _ (f1 := (29, ([(0, .ref a0), (1, .int i1)], [.int (0 : Int32), .ref a0]))) rfl ?_
      exact Tf284_b29 hd a0 ha0 i1 (0 : Int32) r18_2.2 _ h
  · rw [if_neg (of_decide_eq_false hb)] at h
    refine go_ops aMi284 2 _ (f1 := (29, ([(0, .ref a0), (1, .int i1)], [.int (1 : Int32), .ref a0]))) rfl ?_
    exact Tf284_b29 hd a0 ha0 i1 (1 : Int32) r2_1.2 _ h
-- KernelGymModel.written ()I
def f286 (kad : Nat → Nat) (N : Nat) (Z : AZ) (a0 : Nat) (I : AI) : Option (Int32 × AI) :=
  (wI I a0 0 (0 : Int32)).bind fun I2_1 =>
  some ((I2_1 a0 52), I2_1)
set_option maxRecDepth 20000 in
theorem Tf286 {kad : Nat → Nat} {N : Nat} {Z : AZ} {d : Nat} {t : Option Nat × (Nat × Nat)} (hd : 0 ≤ d) : ∀ (a0 : Nat) (ha0 : sh11 kad Z a0) (I : AI) (r : Int32 × AI), f286 kad N Z a0 I = some r → aGo kad d 286 (0, ([(0, .ref a0)], [])) (aMem Z I, t) (qI Z t r) := by
  intro a0 ha0 I r h
  unfold f286 at h
  refine go_ops aMi286 2 _ (f1 := (2, ([(0, .ref a0)], [.int (0 : Int32), .ref a0]))) rfl ?_
  obtain ⟨I2_1, hxI2_1, h⟩ := Option.bind_eq_some_iff.mp h
  refine gg_pI aMi286 rfl rfl rfl rfl (by decide) (pI_of (sh11_z ha0) hxI2_1) ?_
  refine go_ops aMi286 1 _ (f1 := (6, ([(0, .ref a0)], [.ref a0]))) rfl ?_
  refine gg_gI aMi286 rfl rfl rfl (gI_of (sh11_z ha0)) ?_
  cases h
  exact go_ret aMi286 rfl aRetI ⟨rfl, rfl⟩
-- KernelGymModel.disk (II)I
def f287_b47 (kad : Nat → Nat) (N : Nat) (Z : AZ) (a0 : Nat) (s0 : Int32) (I : AI) : Option (Int32 × AI) :=
  some (s0, I)
set_option maxRecDepth 20000 in
theorem Tf287_b47 {kad : Nat → Nat} {N : Nat} {Z : AZ} {d : Nat} {t : Option Nat × (Nat × Nat)} (hd : 1 ≤ d) : ∀ (a0 : Nat) (ha0 : sh11 kad Z a0) (s0 : Int32) (I : AI) (r : Int32 × AI), f287_b47 kad N Z a0 s0 I = some r → aGo kad d 287 (47, ([], [.int s0])) (aMem Z I, t) (qI Z t r) := by
  intro a0 ha0 s0 I r h
  unfold f287_b47 at h
  cases h
  exact go_ret aMi287 rfl aRetI ⟨rfl, rfl⟩
def f287_b26 (kad : Nat → Nat) (N : Nat) (Z : AZ) (a0 : Nat) (i1 : Int32) (i2 : Int32) (s0 : Int32) (I : AI) : Option (Int32 × AI) :=
  (f185 kad N Z a0 s0 I).bind fun r26_1 =>
  if r26_1.1 = 0 then
    f287_b47 kad N Z a0 (0 : Int32) r26_1.2
  else
    (ixA 256 (((8 : Int32) * i1) + i2)).bind fun j42_2 =>
    f287_b47 kad N Z a0 (r26_1.2 (a0 + 24) j42_2) r26_1.2
set_option maxRecDepth 20000 in
theorem Tf287_b26 {kad : Nat → Nat} {N : Nat} {Z : AZ} {d : Nat} {t : Option Nat × (Nat × Nat)} (hd : 1 ≤ d) : ∀ (a0 : Nat) (ha0 : sh11 kad Z a0) (i1 : Int32) (i2 : Int32) (s0 : Int32) (I : AI) (r : Int32 × AI), f287_b26 kad N Z a0 i1 i2 s0 I = some r → aGo kad d 287 (26, ([(0, .ref a0), (1, .int i1), (2, .int i2)], [.int s0, .ref a0])) (aMem Z I, t) (qI Z t r) := by
  intro a0 ha0 i1 i2 s0 I r h
  unfold f287_b26 at h
  obtain ⟨r26_1, hxr26_1, h⟩ := Option.bind_eq_some_iff.mp h
  refine gg_cv (as := [.int s0]) (r := []) aMi287 rfl rfl rfl aMi185 (Nat.le_of_ble_eq_true rfl) rfl (Nat.le_of_ble_eq_true rfl) (Nat.le_of_ble_eq_true rfl) (by omega) (isK_of (sh11_z ha0)) (Tf185 (by omega) a0 ha0 s0 I _ hxr26_1) ?_
  show aGo kad d 287 (29, ([(0, .ref a0), (1, .int i1), (2, .int i2)], [.int r26_1.1])) (aMem Z r26_1.2, t) _
  refine gg_br (b := decide (r26_1.1 = 0)) (tg := 46) (off := 17) aMi287 rfl rfl rfl rfl (fun hb => ?_) (fun hb => ?_)
  · rw [if_pos (of_decide_eq_true hb)] at h
    refine go_ops aMi287 1 _ (f1 := (47, ([(0, .ref a0), (1, .int i1), (2, .int i2)], [.int (0 : Int32)]))) rfl ?_
    refine go_le (lv1 := []) (aLe_of (show (List.map (fun q => q.1) ([] : ALv)).Nodup from (by show ([] : List Nat).Nodup; decide)) aSubL_nil) ?_
    exact Tf287_b47 hd a0 ha0 (0 : Int32) r26_1.2 _ h
  · rw [if_neg (of_decide_eq_false hb)] at h
    refine go_ops aMi287 1 _ (f1 := (33, ([(0, .ref a0), (1, .int i1), (2, .int i2)], [.ref a0]))) rfl ?_
    refine gg_gR (b := (a0 + 24)) aMi287 rfl rfl rfl (gR_of (sh11_z ha0) (sh11_r50 ha0)) ?_
    refine go_ops aMi287 5 _ (f1 := (42, ([(0, .ref a0), (1, .int i1), (2, .int i2)], [.int (((8 : Int32) * i1) + i2), .ref (a0 + 24)]))) rfl ?_
    obtain ⟨j42_2, hxj42_2, h⟩ := Option.bind_eq_some_iff.mp h
    refine gg_lI (Or.inl ⟨rfl, rfl⟩) aMi287 rfl (lI_of (sh11_a50 ha0) hxj42_2) ?_
    refine go_ops aMi287 1 _ (f1 := (47, ([(0, .ref a0), (1, .int i1), (2, .int i2)], [.int (r26_1.2 (a0 + 24) j42_2)]))) rfl ?_
    refine go_le (lv1 := []) (aLe_of (show (List.map (fun q => q.1) ([] : ALv)).Nodup from (by show ([] : List Nat).Nodup; decide)) aSubL_nil) ?_
    exact Tf287_b47 hd a0 ha0 (r26_1.2 (a0 + 24) j42_2) r26_1.2 _ h
def f287_b25 (kad : Nat → Nat) (N : Nat) (Z : AZ) (a0 : Nat) (i1 : Int32) (i2 : Int32) (I : AI) : Option (Int32 × AI) :=
  f287_b26 kad N Z a0 i1 i2 (1 : Int32) I
set_option maxRecDepth 20000 in
theorem Tf287_b25 {kad : Nat → Nat} {N : Nat} {Z : AZ} {d : Nat} {t : Option Nat × (Nat × Nat)} (hd : 1 ≤ d) : ∀ (a0 : Nat) (ha0 : sh11 kad Z a0) (i1 : Int32) (i2 : Int32) (I : AI) (r : Int32 × AI), f287_b25 kad N Z a0 i1 i2 I = some r → aGo kad d 287 (25, ([(0, .ref a0), (1, .int i1), (2, .int i2)], [.ref a0])) (aMem Z I, t) (qI Z t r) := by
  intro a0 ha0 i1 i2 I r h
  unfold f287_b25 at h
  refine go_ops aMi287 1 _ (f1 := (26, ([(0, .ref a0), (1, .int i1), (2, .int i2)], [.int (1 : Int32), .ref a0]))) rfl ?_
  exact Tf287_b26 hd a0 ha0 i1 i2 (1 : Int32) I _ h
def f287 (kad : Nat → Nat) (N : Nat) (Z : AZ) (a0 : Nat) (i1 : Int32) (i2 : Int32) (I : AI) : Option (Int32 × AI) :=
  (f186 kad N Z i1 (0 : Int32) (31 : Int32) I).bind fun r5_1 =>
  if r5_1.1 = 0 then
    f287_b25 kad N Z a0 i1 i2 r5_1.2
  else
    (f186 kad N Z i2 (0 : Int32) (7 : Int32) r5_1.2).bind fun r15_2 =>
    if r15_2.1 = 0 then
      f287_b25 kad N Z a0 i1 i2 r15_2.2
    else
      f287_b26 kad N Z a0 i1 i2 (0 : Int32) r15_2.2
set_option maxRecDepth 20000 in
theorem Tf287 {kad : Nat → Nat} {N : Nat} {Z : AZ} {d : Nat} {t : Option Nat × (Nat × Nat)} (hd : 1 ≤ d) : ∀ (a0 : Nat) (ha0 : sh11 kad Z a0) (i1 : Int32) (i2 : Int32) (I : AI) (r : Int32 × AI), f287 kad N Z a0 i1 i2 I = some r → aGo kad d 287 (0, ([(0, .ref a0), (1, .int i1), (2, .int i2)], [])) (aMem Z I, t) (qI Z t r) := by
  intro a0 ha0 i1 i2 I r h
  unfold f287 at h
  refine go_ops aMi287 4 _ (f1 := (5, ([(0, .ref a0), (1, .int i1), (2, .int i2)], [.int (31 : Int32), .int (0 : Int32), .int i1, .ref a0]))) rfl ?_
  obtain ⟨r5_1, hxr5_1, h⟩ := Option.bind_eq_some_iff.mp h
  refine gg_cs (as := [.int i1, .int (0 : Int32), .int (31 : Int32)]) (r := [.ref a0]) aMi287 rfl rfl rfl aMi186 rfl (Nat.le_of_ble_eq_true rfl) (Nat.le_of_ble_eq_true rfl) (by omega) (Tf186 (by omega) i1 (0 : Int32) (31 : Int32) I _ hxr5_1) ?_
  show aGo kad d 287 (8, ([(0, .ref a0), (1, .int i1), (2, .int i2)], [.int r5_1.1, .ref a0])) (aMem Z r5_1.2, t) _
  refine gg_br (b := decide (r5_1.1 = 0)) (tg := 25) (off := 17) aMi287 rfl rfl rfl rfl (fun hb => ?_) (fun hb => ?_)
  · rw [if_pos (of_decide_eq_true hb)] at h
    exact Tf287_b25 hd a0 ha0 i1 i2 r5_1.2 _ h
  · rw [if_neg (of_decide_eq_false hb)] at h
    refine go_ops aMi287 3 _ (f1 := (15, ([(0, .ref a0), (1, .int i1), (2, .int i2)], [.int (7 : Int32), .int (0 : Int32), .int i2, .ref a0]))) rfl ?_
    obtain ⟨r15_2, hxr15_2, h⟩ := Option.bind_eq_some_iff.mp h
    refine gg_cs (as := [.int i2, .int (0 : Int32), .int (7 : Int32)]) (r := [.ref a0]) aMi287 rfl rfl rfl aMi186 rfl (Nat.le_of_ble_eq_true rfl) (Nat.le_of_ble_eq_true rfl) (by omega) (Tf186 (by omega) i2 (0 : Int32) (7 : Int32) r5_1.2 _ hxr15_2) ?_
    show aGo kad d 287 (18, ([(0, .ref a0), (1, .int i1), (2, .int i2)], [.int r15_2.1, .ref a0])) (aMem Z r15_2.2, t) _
    refine gg_br (b := decide (r15_2.1 = 0)) (tg := 25) (off := 7) aMi287 rfl rfl rfl rfl (fun hb => ?_) (fun hb => ?_)
    · rw [if_pos (of_decide_eq_true hb)] at h
      exact Tf287_b25 hd a0 ha0 i1 i2 r15_2.2 _ h
    · rw [if_neg (of_decide_eq_false hb)] at h
      refine go_ops aMi287 2 _ (f1 := (26, ([(0, .ref a0), (1, .int i1), (2, .int i2)], [.int (0 : Int32), .ref a0]))) rfl ?_
      exact Tf287_b26 hd a0 ha0 i1 i2 (0 : Int32) r15_2.2 _ h
-- KernelGymModel.files ()I
def f288 (kad : Nat → Nat) (N : Nat) (Z : AZ) (a0 : Nat) (I : AI) : Option (Int32 × AI) :=
  (wI I a0 0 (0 : Int32)).bind fun I2_1 =>
  (f285 kad N Z a0 I2_1).bind fun r6_2 =>
  some (r6_2.1, r6_2.2)
set_option maxRecDepth 20000 in
theorem Tf288 {kad : Nat → Nat} {N : Nat} {Z : AZ} {d : Nat} {t : Option Nat × (Nat × Nat)} (hd : 2 ≤ d) : ∀ (a0 : Nat) (ha0 : sh11 kad Z a0) (I : AI) (r : Int32 × AI), f288 kad N Z a0 I = some r → aGo kad d 288 (0, ([(0, .ref a0)], [])) (aMem Z I, t) (qI Z t r) := by
  intro a0 ha0 I r h
  unfold f288 at h
  refine go_ops aMi288 2 _ (f1 := (2, ([(0, .ref a0)], [.int (0 : Int32), .ref a0]))) rfl ?_
  obtain ⟨I2_1, hxI2_1, h⟩ := Option.bind_eq_some_iff.mp h
  refine gg_pI aMi288 rfl rfl rfl rfl (by decide) (pI_of (sh11_z ha0) hxI2_1) ?_
  refine go_ops aMi288 1 _ (f1 := (6, ([(0, .ref a0)], [.ref a0]))) rfl ?_
  obtain ⟨r6_2, hxr6_2, h⟩ := Option.bind_eq_some_iff.mp h
  refine gg_cv (as := []) (r := []) aMi288 rfl rfl rfl aMi285 (Nat.le_of_ble_eq_true rfl) rfl (Nat.le_of_ble_eq_true rfl) (Nat.le_of_ble_eq_true rfl) (by omega) (isK_of (sh11_z ha0)) (Tf285 (by omega) a0 ha0 I2_1 _ hxr6_2) ?_
  show aGo kad d 288 (9, ([(0, .ref a0)], [.int r6_2.1])) (aMem Z r6_2.2, t) _
  cases h
  exact go_ret aMi288 rfl aRetI ⟨rfl, rfl⟩
-- KernelGymModel.errorOfName (I)I
def f289_b31 (kad : Nat → Nat) (N : Nat) (Z : AZ) (a0 : Nat) (s0 : Int32) (I : AI) : Option (Int32 × AI) :=
  some (s0, I)
set_option maxRecDepth 20000 in
theorem Tf289_b31 {kad : Nat → Nat} {N : Nat} {Z : AZ} {d : Nat} {t : Option Nat × (Nat × Nat)} (hd : 2 ≤ d) : ∀ (a0 : Nat) (ha0 : sh11 kad Z a0) (s0 : Int32) (I : AI) (r : Int32 × AI), f289_b31 kad N Z a0 s0 I = some r → aGo kad d 289 (31, ([], [.int s0])) (aMem Z I, t) (qI Z t r) := by
  intro a0 ha0 s0 I r h
  unfold f289_b31 at h
  cases h
  exact go_ret aMi289 rfl aRetI ⟨rfl, rfl⟩
def f289 (kad : Nat → Nat) (N : Nat) (Z : AZ) (a0 : Nat) (i1 : Int32) (I : AI) : Option (Int32 × AI) :=
  (f186 kad N Z i1 (1 : Int32) (65535 : Int32) I).bind fun r4_1 =>
  if ¬ r4_1.1 = 0 then
    (f236 kad N Z (a0 + 24) i1 r4_1.2).bind fun r19_2 =>
    if ¬ r19_2.1 = (Int32.ofInt (-1)) then
      f289_b31 kad N Z a0 (0 : Int32) r19_2.2
    else
      f289_b31 kad N Z a0 (2 : Int32) r19_2.2
  else
    f289_b31 kad N Z a0 (1 : Int32) r4_1.2
set_option maxRecDepth 20000 in
theorem Tf289 {kad : Nat → Nat} {N : Nat} {Z : AZ} {d : Nat} {t : Option Nat × (Nat × Nat)} (hd : 2 ≤ d) : ∀ (a0 : Nat) (ha0 : sh11 kad Z a0) (i1 : Int32) (I : AI) (r : Int32 × AI), f289 kad N Z a0 i1 I = some r → aGo kad d 289 (0, ([(0, .ref a0), (1, .int i1)], [])) (aMem Z I, t) (qI Z t r) := by
  intro a0 ha0 i1 I r h
  unfold f289 at h
  refine go_ops aMi289 2 _ (f1 := (2, ([(0, .ref a0), (1, .int i1)], [.int (1 : Int32), .int i1]))) rfl ?_
  refine gg_kI (Or.inl ⟨rfl, rfl⟩) aMi289 rfl rfl ?_
  obtain ⟨r4_1, hxr4_1, h⟩ := Option.bind_eq_some_iff.mp h
  refine gg_cs (as := [.int i1, .int (1 : Int32), .int (65535 : Int32)]) (r := []) aMi289 rfl rfl rfl aMi186 rfl (Nat.le_of_ble_eq_true rfl) (Nat.le_of_ble_eq_true rfl) (by omega) (Tf186 (by omega) i1 (1 : Int32) (65535 : Int32) I _ hxr4_1) ?_
  show aGo kad d 289 (7, ([(0, .ref a0), (1, .int i1)], [.int r4_1.1])) (aMem Z r4_1.2, t) _
  refine gg_br (b := decide (¬ r4_1.1 = 0)) (tg := 14) (off := 7) aMi289 rfl rfl rfl rfl (fun hb => ?_) (fun hb => ?_)
  · rw [if_pos (of_decide_eq_true hb)] at h
    refine go_ops aMi289 1 _ (f1 := (15, ([(0, .ref a0), (1, .int i1)], [.ref a0]))) rfl ?_
    refine gg_gR (b := (a0 + 24)) aMi289 rfl rfl rfl (gR_of (sh11_z ha0) (sh11_r50 ha0)) ?_
    refine go_ops aMi289 1 _ (f1 := (19, ([(0, .ref a0), (1, .int i1)], [.int i1, .ref (a0 + 24)]))) rfl ?_
    obtain ⟨r19_2, hxr19_2, h⟩ := Option.bind_eq_some_iff.mp h
    refine gg_cs (as := [.ref (a0 + 24), .int i1]) (r := []) aMi289 rfl rfl rfl aMi236 rfl (Nat.le_of_ble_eq_true rfl) (Nat.le_of_ble_eq_true rfl) (by omega) (Tf236 (by omega) (a0 + 24) i1 r4_1.2 _ hxr19_2) ?_
    show aGo kad d 289 (22, ([(0, .ref a0), (1, .int i1)], [.int r19_2.1])) (aMem Z r19_2.2, t) _
    refine go_ops aMi289 1 _ (f1 := (23, ([(0, .ref a0), (1, .int i1)], [.int (Int32.ofInt (-1)), .int r19_2.1]))) rfl ?_
    refine gg_br (b := decide (¬ r19_2.1 = (Int32.ofInt (-1)))) (tg := 30) (off := 7) aMi289 rfl rfl rfl rfl (fun hb => ?_) (fun hb => ?_)
    · rw [if_pos (of_decide_eq_true hb)] at h
      refine go_ops aMi289 1 _ (f1 := (31, ([(0, .ref a0), (1, .int i1)], [.int (0 : Int32)]))) rfl ?_
      refine go_le (lv1 := []) (aLe_of (show (List.map (fun q => q.1) ([] : ALv)).Nodup from (by show ([] : List Nat).Nodup; decide)) aSubL_nil) ?_
      exact Tf289_b31 hd a0 ha0 (0 : Int32) r19_2.2 _ h
    · rw [if_neg (of_decide_eq_false hb)] at h
      refine go_ops aMi289 2 _ (f1 := (31, ([(0, .ref a0), (1, .int i1)], [.int (2 : Int32)]))) rfl ?_
      refine go_le (lv1 := []) (aLe_of (show (List.map (fun q => q.1) ([] : ALv)).Nodup from (by show ([] : List Nat).Nodup; decide)) aSubL_nil) ?_
      exact Tf289_b31 hd a0 ha0 (2 : Int32) r19_2.2 _ h
  · rw [if_neg (of_decide_eq_false hb)] at h
    refine go_ops aMi289 2 _ (f1 := (31, ([(0, .ref a0), (1, .int i1)], [.int (1 : Int32)]))) rfl ?_
    refine go_le (lv1 := []) (aLe_of (show (List.map (fun q => q.1) ([] : ALv)).Nodup from (by show ([] : List Nat).Nodup; decide)) aSubL_nil) ?_
    exact Tf289_b31 hd a0 ha0 (1 : Int32) r4_1.2 _ h
-- KernelGymModel.size (I)I
def f290_b34 (kad : Nat → Nat) (N : Nat) (Z : AZ) (a0 : Nat) (s0 : Int32) (I : AI) : Option (Int32 × AI) :=
  some (s0, I)
set_option maxRecDepth 20000 in
theorem Tf290_b34 {kad : Nat → Nat} {N : Nat} {Z : AZ} {d : Nat} {t : Option Nat × (Nat × Nat)} (hd : 3 ≤ d) : ∀ (a0 : Nat) (ha0 : sh11 kad Z a0) (s0 : Int32) (I : AI) (r : Int32 × AI), f290_b34 kad N Z a0 s0 I = some r → aGo kad d 290 (34, ([], [.int s0])) (aMem Z I, t) (qI Z t r) := by
  intro a0 ha0 s0 I r h
  unfold f290_b34 at h
  cases h
  exact go_ret aMi290 rfl aRetI ⟨rfl, rfl⟩
def f290 (kad : Nat → Nat) (N : Nat) (Z : AZ) (a0 : Nat) (i1 : Int32) (I : AI) : Option (Int32 × AI) :=
  (f289 kad N Z a0 i1 I).bind fun r3_1 =>
  (f185 kad N Z a0 r3_1.1 r3_1.2).bind fun r6_2 =>
  if r6_2.1 = 0 then
    f290_b34 kad N Z a0 (0 : Int32) r6_2.2
  else
    (f236 kad N Z (a0 + 24) i1 r6_2.2).bind fun r21_3 =>
    (f235 kad N Z r21_3.1 r21_3.2).bind fun r24_4 =>
    (ixA 256 (r24_4.1 + (1 : Int32))).bind fun j29_5 =>
    f290_b34 kad N Z a0 (r24_4.2 (a0 + 24) j29_5) r24_4.2
set_option maxRecDepth 20000 in
theorem Tf290 {kad : Nat → Nat} {N : Nat} {Z : AZ} {d : Nat} {t : Option Nat × (Nat × Nat)} (hd : 3 ≤ d) : ∀ (a0 : Nat) (ha0 : sh11 kad Z a0) (i1 : Int32) (I : AI) (r : Int32 × AI), f290 kad N Z a0 i1 I = some r → aGo kad d 290 (0, ([(0, .ref a0), (1, .int i1)], [])) (aMem Z I, t) (qI Z t r) := by
  intro a0 ha0 i1 I r h
  unfold f290 at h
  refine go_ops aMi290 3 _ (f1 := (3, ([(0, .ref a0), (1, .int i1)], [.int i1, .ref a0, .ref a0]))) rfl ?_
  obtain ⟨r3_1, hxr3_1, h⟩ := Option.bind_eq_some_iff.mp h
  refine gg_cv (as := [.int i1]) (r := [.ref a0]) aMi290 rfl rfl rfl aMi289 (Nat.le_of_ble_eq_true rfl) rfl (Nat.le_of_ble_eq_true rfl) (Nat.le_of_ble_eq_true rfl) (by omega) (isK_of (sh11_z ha0)) (Tf289 (by omega) a0 ha0 i1 I _ hxr3_1) ?_
  show aGo kad d 290 (6, ([(0, .ref a0), (1, .int i1)], [.int r3_1.1, .ref a0])) (aMem Z r3_1.2, t) _
  obtain ⟨r6_2, hxr6_2, h⟩ := Option.bind_eq_some_iff.mp h
  refine gg_cv (as := [.int r3_1.1]) (r := []) aMi290 rfl rfl rfl aMi185 (Nat.le_of_ble_eq_true rfl) rfl (Nat.le_of_ble_eq_true rfl) (Nat.le_of_ble_eq_true rfl) (by omega) (isK_of (sh11_z ha0)) (Tf185 (by omega) a0 ha0 r3_1.1 r3_1.2 _ hxr6_2) ?_
  show aGo kad d 290 (9, ([(0, .ref a0), (1, .int i1)], [.int r6_2.1])) (aMem Z r6_2.2, t) _
  refine gg_br (b := decide (r6_2.1 = 0)) (tg := 33) (off := 24) aMi290 rfl rfl rfl rfl (fun hb => ?_) (fun hb => ?_)
  · rw [if_pos (of_decide_eq_true hb)] at h
    refine go_ops aMi290 1 _ (f1 := (34, ([(0, .ref a0), (1, .int i1)], [.int (0 : Int32)]))) rfl ?_
    refine go_le (lv1 := []) (aLe_of (show (List.map (fun q => q.1) ([] : ALv)).Nodup from (by show ([] : List Nat).Nodup; decide)) aSubL_nil) ?_
    exact Tf290_b34 hd a0 ha0 (0 : Int32) r6_2.2 _ h
  · rw [if_neg (of_decide_eq_false hb)] at h
    refine go_ops aMi290 1 _ (f1 := (13, ([(0, .ref a0), (1, .int i1)], [.ref a0]))) rfl ?_
    refine gg_gR (b := (a0 + 24)) aMi290 rfl rfl rfl (gR_of (sh11_z ha0) (sh11_r50 ha0)) ?_
    refine go_ops aMi290 1 _ (f1 := (17, ([(0, .ref a0), (1, .int i1)], [.ref a0, .ref (a0 + 24)]))) rfl ?_
    refine gg_gR (b := (a0 + 24)) aMi290 rfl rfl rfl (gR_of (sh11_z ha0) (sh11_r50 ha0)) ?_
    refine go_ops aMi290 1 _ (f1 := (21, ([(0, .ref a0), (1, .int i1)], [.int i1, .ref (a0 + 24), .ref (a0 + 24)]))) rfl ?_
    obtain ⟨r21_3, hxr21_3, h⟩ := Option.bind_eq_some_iff.mp h
    refine gg_cs (as := [.ref (a0 + 24), .int i1]) (r := [.ref (a0 + 24)]) aMi290 rfl rfl rfl aMi236 rfl (Nat.le_of_ble_eq_true rfl) (Nat.le_of_ble_eq_true rfl) (by omega) (Tf236 (by omega) (a0 + 24) i1 r6_2.2 _ hxr21_3) ?_
    show aGo kad d 290 (24, ([(0, .ref a0), (1, .int i1)], [.int r21_3.1, .ref (a0 + 24)])) (aMem Z r21_3.2, t) _
    obtain ⟨r24_4, hxr24_4, h⟩ := Option.bind_eq_some_iff.mp h
    refine gg_cs (as := [.int r21_3.1]) (r := [.ref (a0 + 24)]) aMi290 rfl rfl rfl aMi235 rfl (Nat.le_of_ble_eq_true rfl) (Nat.le_of_ble_eq_true rfl) (by omega) (Tf235 (by omega) r21_3.1 r21_3.2 _ hxr24_4) ?_
    show aGo kad d 290 (27, ([(0, .ref a0), (1, .int i1)], [.int r24_4.1, .ref (a0 + 24)])) (aMem Z r24_4.2, t) _
    refine go_ops aMi290 2 _ (f1 := (29, ([(0, .ref a0), (1, .int i1)], [.int (r24_4.1 + (1 : Int32)), .ref (a0 + 24)]))) rfl ?_
    obtain ⟨j29_5, hxj29_5, h⟩ := Option.bind_eq_some_iff.mp h
    refine gg_lI (Or.inl ⟨rfl, rfl⟩) aMi290 rfl (lI_of (sh11_a50 ha0) hxj29_5) ?_
    refine go_ops aMi290 1 _ (f1 := (34, ([(0, .ref a0), (1, .int i1)], [.int (r24_4.2 (a0 + 24) j29_5)]))) rfl ?_
    refine go_le (lv1 := []) (aLe_of (show (List.map (fun q => q.1) ([] : ALv)).Nodup from (by show ([] : List Nat).Nodup; decide)) aSubL_nil) ?_
    exact Tf290_b34 hd a0 ha0 (r24_4.2 (a0 + 24) j29_5) r24_4.2 _ h
-- KernelGymModel.wordOf (II)I
def f291_b52 (kad : Nat → Nat) (N : Nat) (Z : AZ) (a0 : Nat) (i2 : Int32) (i4 : Int32) (s0 : Int32) (I : AI) : Option (Int32 × AI) :=
  (f185 kad N Z a0 s0 I).bind fun r52_1 =>
  if ¬ r52_1.1 = 0 then
    (f241 kad N Z a0 (a0 + 24) i4 i2 r52_1.2).bind fun r74_2 =>
    (ixA 256 (((8 : Int32) * r74_2.1) + (i2 - i2 / (8 : Int32) * (8 : Int32)))).bind fun j83_3 =>
    some ((r74_2.2 (a0 + 24) j83_3), r74_2.2)
  else
    some ((0 : Int32), r52_1.2)
set_option maxRecDepth 20000 in
theorem Tf291_b52 {kad : Nat → Nat} {N : Nat} {Z : AZ} {d : Nat} {t : Option Nat × (Nat × Nat)} (hd : 3 ≤ d) : ∀ (a0 : Nat) (ha0 : sh11 kad Z a0) (i2 : Int32) (i4 : Int32) (s0 : Int32) (I : AI) (r : Int32 × AI), f291_b52 kad N Z a0 i2 i4 s0 I = some r → aGo kad d 291 (52, ([(0, .ref a0), (2, .int i2), (4, .int i4)], [.int s0, .ref a0])) (aMem Z I, t) (qI Z t r) := by
  intro a0 ha0 i2 i4 s0 I r h
  unfold f291_b52 at h
  obtain ⟨r52_1, hxr52_1, h⟩ := Option.bind_eq_some_iff.mp h
  refine gg_cv (as := [.int s0]) (r := []) aMi291 rfl rfl rfl aMi185 (Nat.le_of_ble_eq_true rfl) rfl (Nat.le_of_ble_eq_true rfl) (Nat.le_of_ble_eq_true rfl) (by omega) (isK_of (sh11_z ha0)) (Tf185 (by omega) a0 ha0 s0 I _ hxr52_1) ?_
  show aGo kad d 291 (55, ([(0, .ref a0), (2, .int i2), (4, .int i4)], [.int r52_1.1])) (aMem Z r52_1.2, t) _
  refine gg_br (b := decide (¬ r52_1.1 = 0)) (tg := 60) (off := 5) aMi291 rfl rfl rfl rfl (fun hb => ?_) (fun hb => ?_)
  · rw [if_pos (of_decide_eq_true hb)] at h
    refine go_ops aMi291 1 _ (f1 := (61, ([(0, .ref a0), (2, .int i2), (4, .int i4)], [.ref a0]))) rfl ?_
    refine gg_gR (b := (a0 + 24)) aMi291 rfl rfl rfl (gR_of (sh11_z ha0) (sh11_r50 ha0)) ?_
    refine go_ops aMi291 3 _ (f1 := (68, ([(0, .ref a0), (2, .int i2), (4, .int i4)], [.ref a0, .ref a0, .int (8 : Int32), .ref (a0 + 24)]))) rfl ?_
    refine gg_gR (b := (a0 + 24)) aMi291 rfl rfl rfl (gR_of (sh11_z ha0) (sh11_r50 ha0)) ?_
    refine go_ops aMi291 2 _ (f1 := (74, ([(0, .ref a0), (2, .int i2), (4, .int i4)], [.int i2, .int i4, .ref (a0 + 24), .ref a0, .int (8 : Int32), .ref (a0 + 24)]))) rfl ?_
    obtain ⟨r74_2, hxr74_2, h⟩ := Option.bind_eq_some_iff.mp h
    refine gg_cv (as := [.ref (a0 + 24), .int i4, .int i2]) (r := [.int (8 : Int32), .ref (a0 + 24)]) aMi291 rfl rfl rfl aMi241 (Nat.le_of_ble_eq_true rfl) rfl (Nat.le_of_ble_eq_true rfl) (Nat.le_of_ble_eq_true rfl) (by omega) (isK_of (sh11_z ha0)) (Tf241 (by omega) a0 ha0 (a0 + 24) i4 i2 r52_1.2 _ hxr74_2) ?_
    show aGo kad d 291 (77, ([(0, .ref a0), (2, .int i2), (4, .int i4)], [.int r74_2.1, .int (8 : Int32), .ref (a0 + 24)])) (aMem Z r74_2.2, t) _
    refine go_ops aMi291 5 _ (f1 := (83, ([(0, .ref a0), (2, .int i2), (4, .int i4)], [.int (((8 : Int32) * r74_2.1) + (i2 - i2 / (8 : Int32) * (8 : Int32))), .ref (a0 + 24)]))) rfl ?_
    obtain ⟨j83_3, hxj83_3, h⟩ := Option.bind_eq_some_iff.mp h
    refine gg_lI (Or.inl ⟨rfl, rfl⟩) aMi291 rfl (lI_of (sh11_a50 ha0) hxj83_3) ?_
    cases h
    exact go_ret aMi291 rfl aRetI ⟨rfl, rfl⟩
  · rw [if_neg (of_decide_eq_false hb)] at h
    refine go_ops aMi291 1 _ (f1 := (59, ([(0, .ref a0), (2, .int i2), (4, .int i4)], [.int (0 : Int32)]))) rfl ?_
    cases h
    exact go_ret aMi291 rfl aRetI ⟨rfl, rfl⟩
def f291 (kad : Nat → Nat) (N : Nat) (Z : AZ) (a0 : Nat) (i1 : Int32) (i2 : Int32) (I : AI) : Option (Int32 × AI) :=
  (f289 kad N Z a0 i1 I).bind fun r2_1 =>
  (f236 kad N Z (a0 + 24) i1 r2_1.2).bind fun r11_2 =>
  if r2_1.1 = 0 then
    (f235 kad N Z r11_2.1 r11_2.2).bind fun r33_3 =>
    (ixA 256 (r33_3.1 + (1 : Int32))).bind fun j38_4 =>
    (f186 kad N Z i2 (0 : Int32) ((r33_3.2 (a0 + 24) j38_4) - (1 : Int32)) r33_3.2).bind fun r41_5 =>
    if r41_5.1 = 0 then
      f291_b52 kad N Z a0 i2 r11_2.1 (3 : Int32) r41_5.2
    else
      f291_b52 kad N Z a0 i2 r11_2.1 (0 : Int32) r41_5.2
  else
    f291_b52 kad N Z a0 i2 r11_2.1 r2_1.1 r11_2.2
set_option maxRecDepth 20000 in
theorem Tf291 {kad : Nat → Nat} {N : Nat} {Z : AZ} {d : Nat} {t : Option Nat × (Nat × Nat)} (hd : 3 ≤ d) : ∀ (a0 : Nat) (ha0 : sh11 kad Z a0) (i1 : Int32) (i2 : Int32) (I : AI) (r : Int32 × AI), f291 kad N Z a0 i1 i2 I = some r → aGo kad d 291 (0, ([(0, .ref a0), (1, .int i1), (2, .int i2)], [])) (aMem Z I, t) (qI Z t r) := by
  intro a0 ha0 i1 i2 I r h
  unfold f291 at h
  refine go_ops aMi291 2 _ (f1 := (2, ([(0, .ref a0), (1, .int i1), (2, .int i2)], [.int i1, .ref a0]))) rfl ?_
  obtain ⟨r2_1, hxr2_1, h⟩ := Option.bind_eq_some_iff.mp h
  refine gg_cv (as := [.int i1]) (r := []) aMi291 rfl rfl rfl aMi289 (Nat.le_of_ble_eq_true rfl) rfl (Nat.le_of_ble_eq_true rfl) (Nat.le_of_ble_eq_true rfl) (by omega) (isK_of (sh11_z ha0)) (Tf289 (by omega) a0 ha0 i1 I _ hxr2_1) ?_
  show aGo kad d 291 (5, ([(0, .ref a0), (1, .int i1), (2, .int i2)], [.int r2_1.1])) (aMem Z r2_1.2, t) _
  refine go_ops aMi291 2 _ (f1 := (7, ([(3, .int r2_1.1), (0, .ref a0), (1, .int i1), (2, .int i2)], [.ref a0]))) rfl ?_
  refine gg_gR (b := (a0 + 24)) aMi291 rfl rfl rfl (gR_of (sh11_z ha0) (sh11_r50 ha0)) ?_
  refine go_ops aMi291 1 _ (f1 := (11, ([(3, .int r2_1.1), (0, .ref a0), (1, .int i1), (2, .int i2)], [.int i1, .ref (a0 + 24)]))) rfl ?_
  obtain ⟨r11_2, hxr11_2, h⟩ := Option.bind_eq_some_iff.mp h
  refine gg_cs (as := [.ref (a0 + 24), .int i1]) (r := []) aMi291 rfl rfl rfl aMi236 rfl (Nat.le_of_ble_eq_true rfl) (Nat.le_of_ble_eq_true rfl) (by omega) (Tf236 (by omega) (a0 + 24) i1 r2_1.2 _ hxr11_2) ?_
  show aGo kad d 291 (14, ([(3, .int r2_1.1), (0, .ref a0), (1, .int i1), (2, .int i2)], [.int r11_2.1])) (aMem Z r11_2.2, t) _
  refine go_ops aMi291 3 _ (f1 := (18, ([(4, .int r11_2.1), (3, .int r2_1.1), (0, .ref a0), (1, .int i1), (2, .int i2)], [.int r2_1.1, .ref a0]))) rfl ?_
  refine gg_br (b := decide (r2_1.1 = 0)) (tg := 25) (off := 7) aMi291 rfl rfl rfl rfl (fun hb => ?_) (fun hb => ?_)
  · rw [if_pos (of_decide_eq_true hb)] at h
    refine go_ops aMi291 3 _ (f1 := (28, ([(4, .int r11_2.1), (3, .int r2_1.1), (0, .ref a0), (1, .int i1), (2, .int i2)], [.ref a0, .int (0 : Int32), .int i2, .ref a0]))) rfl ?_
    refine gg_gR (b := (a0 + 24)) aMi291 rfl rfl rfl (gR_of (sh11_z ha0) (sh11_r50 ha0)) ?_
    refine go_ops aMi291 1 _ (f1 := (33, ([(4, .int r11_2.1), (3, .int r2_1.1), (0, .ref a0), (1, .int i1), (2, .int i2)], [.int r11_2.1, .ref (a0 + 24), .int (0 : Int32), .int i2, .ref a0]))) rfl ?_
    obtain ⟨r33_3, hxr33_3, h⟩ := Option.bind_eq_some_iff.mp h
    refine gg_cs (as := [.int r11_2.1]) (r := [.ref (a0 + 24), .int (0 : Int32), .int i2, .ref a0]) aMi291 rfl rfl rfl aMi235 rfl (Nat.le_of_ble_eq_true rfl) (Nat.le_of_ble_eq_true rfl) (by omega) (Tf235 (by omega) r11_2.1 r11_2.2 _ hxr33_3) ?_
    show aGo kad d 291 (36, ([(4, .int r11_2.1), (3, .int r2_1.1), (0, .ref a0), (1, .int i1), (2, .int i2)], [.int r33_3.1, .ref (a0 + 24), .int (0 : Int32), .int i2, .ref a0])) (aMem Z r33_3.2, t) _
    refine go_ops aMi291 2 _ (f1 := (38, ([(4, .int r11_2.1), (3, .int r2_1.1), (0, .ref a0), (1, .int i1), (2, .int i2)], [.int (r33_3.1 + (1 : Int32)), .ref (a0 + 24), .int (0 : Int32), .int i2, .ref a0]))) rfl ?_
    obtain ⟨j38_4, hxj38_4, h⟩ := Option.bind_eq_some_iff.mp h
    refine gg_lI (Or.inl ⟨rfl, rfl⟩) aMi291 rfl (lI_of (sh11_a50 ha0) hxj38_4) ?_
    refine go_ops aMi291 2 _ (f1 := (41, ([(4, .int r11_2.1), (3, .int r2_1.1), (0, .ref a0), (1, .int i1), (2, .int i2)], [.int ((r33_3.2 (a0 + 24) j38_4) - (1 : Int32)), .int (0 : Int32), .int i2, .ref a0]))) rfl ?_
    obtain ⟨r41_5, hxr41_5, h⟩ := Option.bind_eq_some_iff.mp h
    refine gg_cs (as := [.int i2, .int (0 : Int32), .int ((r33_3.2 (a0 + 24) j38_4) - (1 : Int32))]) (r := [.ref a0]) aMi291 rfl rfl rfl aMi186 rfl (Nat.le_of_ble_eq_true rfl) (Nat.le_of_ble_eq_true rfl) (by omega) (Tf186 (by omega) i2 (0 : Int32) ((r33_3.2 (a0 + 24) j38_4) - (1 : Int32)) r33_3.2 _ hxr41_5) ?_
    show aGo kad d 291 (44, ([(4, .int r11_2.1), (3, .int r2_1.1), (0, .ref a0), (1, .int i1), (2, .int i2)], [.int r41_5.1, .ref a0])) (aMem Z r41_5.2, t) _
    refine gg_br (b := decide (r41_5.1 = 0)) (tg := 51) (off := 7) aMi291 rfl rfl rfl rfl (fun hb => ?_) (fun hb => ?_)
    · rw [if_pos (of_decide_eq_true hb)] at h
      refine go_ops aMi291 1 _ (f1 := (52, ([(4, .int r11_2.1), (3, .int r2_1.1), (0, .ref a0), (1, .int i1), (2, .int i2)], [.int (3 : Int32), .ref a0]))) rfl ?_
      refine go_le (lv1 := [(0, .ref a0), (2, .int i2), (4, .int r11_2.1)]) (aLe_of (show (List.map (fun q => q.1) ([(0, .ref a0), (2, .int i2), (4, .int r11_2.1)] : ALv)).Nodup from (by show ([0, 2, 4] : List Nat).Nodup; decide)) (aSubL_cons rfl (aSubL_cons rfl (aSubL_cons rfl aSubL_nil)))) ?_
      exact Tf291_b52 hd a0 ha0 i2 r11_2.1 (3 : Int32) r41_5.2 _ h
    · rw [if_neg (of_decide_eq_false hb)] at h
      refine go_ops aMi291 2 _ (f1 := (52, ([(4, .int r11_2.1), (3, .int r2_1.1), (0, .ref a0), (1, .int i1), (2, .int i2)], [.int (0 : Int32), .ref a0]))) rfl ?_
      refine go_le (lv1 := [(0, .ref a0), (2, .int i2), (4, .int r11_2.1)]) (aLe_of (show (List.map (fun q => q.1) ([(0, .ref a0), (2, .int i2), (4, .int r11_2.1)] : ALv)).Nodup from (by show ([0, 2, 4] : List Nat).Nodup; decide)) (aSubL_cons rfl (aSubL_cons rfl (aSubL_cons rfl aSubL_nil)))) ?_
      exact Tf291_b52 hd a0 ha0 i2 r11_2.1 (0 : Int32) r41_5.2 _ h
  · rw [if_neg (of_decide_eq_false hb)] at h
    refine go_ops aMi291 2 _ (f1 := (52, ([(4, .int r11_2.1), (3, .int r2_1.1), (0, .ref a0), (1, .int i1), (2, .int i2)], [.int r2_1.1, .ref a0]))) rfl ?_
    refine go_le (lv1 := [(0, .ref a0), (2, .int i2), (4, .int r11_2.1)]) (aLe_of (show (List.map (fun q => q.1) ([(0, .ref a0), (2, .int i2), (4, .int r11_2.1)] : ALv)).Nodup from (by show ([0, 2, 4] : List Nat).Nodup; decide)) (aSubL_cons rfl (aSubL_cons rfl (aSubL_cons rfl aSubL_nil)))) ?_
    exact Tf291_b52 hd a0 ha0 i2 r11_2.1 r2_1.1 r11_2.2 _ h
-- KernelGymModel.freeBlocks ()I
def f292_b33 (kad : Nat → Nat) (N : Nat) (Z : AZ) (k10 : Nat → Int32 → Int32 → AI → Option (Int32 × AI)) (a0 : Nat) (i2 : Int32) (s0 : Int32) (s1 : Int32) (I : AI) : Option (Int32 × AI) :=
  k10 a0 (s1 + s0) (i2 + (1 : Int32)) I
set_option maxRecDepth 20000 in
theorem Tf292_b33 {kad : Nat → Nat} {N : Nat} {Z : AZ} {d : Nat} {t : Option Nat × (Nat × Nat)} (hd : 1 ≤ d) (k10 : Nat → Int32 → Int32 → AI → Option (Int32 × AI))  (hk10 : ∀ (a0 : Nat) (ha0 : sh11 kad Z a0) (i1 : Int32) (i2 : Int32) (I : AI) (r : Int32 × AI), k10 a0 i1 i2 I = some r → aGo kad d 292 (10, ([(0, .ref a0), (1, .int i1), (2, .int i2)], [])) (aMem Z I, t) (qI Z t r)) : ∀ (a0 : Nat) (ha0 : sh11 kad Z a0) (i2 : Int32) (s0 : Int32) (s1 : Int32) (I : AI) (r : Int32 × AI), f292_b33 kad N Z k10 a0 i2 s0 s1 I = some r → aGo kad d 292 (33, ([(0, .ref a0), (2, .int i2)], [.int s0, .int s1])) (aMem Z I, t) (qI Z t r) := by
  intro a0 ha0 i2 s0 s1 I r h
  unfold f292_b33 at h
  refine go_ops aMi292 4 _ (f1 := (10, ([(2, .int (i2 + (1 : Int32))), (1, .int (s1 + s0)), (0, .ref a0)], []))) rfl ?_
  refine go_le (lv1 := [(0, .ref a0), (1, .int (s1 + s0)), (2, .int (i2 + (1 : Int32)))]) (aLe_of (show (List.map (fun q => q.1) ([(0, .ref a0), (1, .int (s1 + s0)), (2, .int (i2 + (1 : Int32)))] : ALv)).Nodup from (by show ([0, 1, 2] : List Nat).Nodup; decide)) (aSubL_cons rfl (aSubL_cons rfl (aSubL_cons rfl aSubL_nil)))) ?_
  exact hk10 a0 ha0 (s1 + s0) (i2 + (1 : Int32)) I _ h
def f292_b10 (kad : Nat → Nat) (N : Nat) (Z : AZ) : Nat → Nat → Int32 → Int32 → AI → Option (Int32 × AI)
  | 0, _, _, _, _ => none
  | F + 1, a0, i1, i2, I =>
    if (32 : Int32) ≤ i2 then
      some (i1, I)
    else
      (f237 kad N Z (a0 + 24) i2 I).bind fun r22_1 =>
      if r22_1.1 = 0 then
        f292_b33 kad N Z (fun p0 p1 p2 I => f292_b10 kad N Z F p0 p1 p2 I) a0 i2 (1 : Int32) i1 r22_1.2
      else
        f292_b33 kad N Z (fun p0 p1 p2 I => f292_b10 kad N Z F p0 p1 p2 I) a0 i2 (0 : Int32) i1 r22_1.2
set_option maxRecDepth 20000 in
theorem Tf292_b10 {kad : Nat → Nat} {N : Nat} {Z : AZ} {d : Nat} {t : Option Nat × (Nat × Nat)} (hd : 1 ≤ d) : ∀ (F : Nat) (a0 : Nat) (ha0 : sh11 kad Z a0) (i1 : Int32) (i2 : Int32) (I : AI) (r : Int32 × AI), f292_b10 kad N Z F a0 i1 i2 I = some r → aGo kad d 292 (10, ([(0, .ref a0), (1, .int i1), (2, .int i2)], [])) (aMem Z I, t) (qI Z t r) := by
  intro F
  induction F with
  | zero => intro a0 ha0 i1 i2 I r h; cases h
  | succ F ih =>
    intro a0 ha0 i1 i2 I r h
    unfold f292_b10 at h
    refine go_ops aMi292 2 _ (f1 := (13, ([(0, .ref a0), (1, .int i1), (2, .int i2)], [.int (32 : Int32), .int i2]))) rfl ?_
    refine gg_br (b := decide ((32 : Int32) ≤ i2)) (tg := 41) (off := 28) aMi292 rfl rfl rfl rfl (fun hb => ?_) (fun hb => ?_)
    · rw [if_pos (of_decide_eq_true hb)] at h
      refine go_ops aMi292 1 _ (f1 := (42, ([(0, .ref a0), (1, .int i1), (2, .int i2)], [.int i1]))) rfl ?_
      cases h
      exact go_ret aMi292 rfl aRetI ⟨rfl, rfl⟩
    · rw [if_neg (of_decide_eq_false hb)] at h
      refine go_ops aMi292 2 _ (f1 := (18, ([(0, .ref a0), (1, .int i1), (2, .int i2)], [.ref a0, .int i1]))) rfl ?_
      refine gg_gR (b := (a0 + 24)) aMi292 rfl rfl rfl (gR_of (sh11_z ha0) (sh11_r50 ha0)) ?_
      refine go_ops aMi292 1 _ (f1 := (22, ([(0, .ref a0), (1, .int i1), (2, .int i2)], [.int i2, .ref (a0 + 24), .int i1]))) rfl ?_
      obtain ⟨r22_1, hxr22_1, h⟩ := Option.bind_eq_some_iff.mp h
      refine gg_cs (as := [.ref (a0 + 24), .int i2]) (r := [.int i1]) aMi292 rfl rfl rfl aMi237 rfl (Nat.le_of_ble_eq_true rfl) (Nat.le_of_ble_eq_true rfl) (by omega) (Tf237 (by omega) (a0 + 24) i2 I _ hxr22_1) ?_
      show aGo kad d 292 (25, ([(0, .ref a0), (1, .int i1), (2, .int i2)], [.int r22_1.1, .int i1])) (aMem Z r22_1.2, t) _
      refine gg_br (b := decide (r22_1.1 = 0)) (tg := 32) (off := 7) aMi292 rfl rfl rfl rfl (fun hb => ?_) (fun hb => ?_)
      · rw [if_pos (of_decide_eq_true hb)] at h
        refine go_ops aMi292 1 _ (f1 := (33, ([(0, .ref a0), (1, .int i1), (2, .int i2)], [.int (1 : Int32), .int i1]))) rfl ?_
        refine go_le (lv1 := [(0, .ref a0), (2, .int i2)]) (aLe_of (show (List.map (fun q => q.1) ([(0, .ref a0), (2, .int i2)] : ALv)).Nodup from (by show ([0, 2] : List Nat).Nodup; decide)) (aSubL_cons rfl (aSubL_cons rfl aSubL_nil))) ?_
        exact Tf292_b33 hd (fun p0 p1 p2 I => f292_b10 kad N Z F p0 p1 p2 I) (fun p0 q0 p1 p2 I r hh => ih p0 q0 p1 p2 I r hh) a0 ha0 i2 (1 : Int32) i1 r22_1.2 _ h
      · rw [if_neg (of_decide_eq_false hb)] at h
        refine go_ops aMi292 2 _ (f1 := (33, ([(0, .ref a0), (1, .int i1), (2, .int i2)], [.int (0 : Int32), .int i1]))) rfl ?_
        refine go_le (lv1 := [(0, .ref a0), (2, .int i2)]) (aLe_of (show (List.map (fun q => q.1) ([(0, .ref a0), (2, .int i2)] : ALv)).Nodup from (by show ([0, 2] : List Nat).Nodup; decide)) (aSubL_cons rfl (aSubL_cons rfl aSubL_nil))) ?_
        exact Tf292_b33 hd (fun p0 p1 p2 I => f292_b10 kad N Z F p0 p1 p2 I) (fun p0 q0 p1 p2 I r hh => ih p0 q0 p1 p2 I r hh) a0 ha0 i2 (0 : Int32) i1 r22_1.2 _ h
def f292 (kad : Nat → Nat) (N : Nat) (Z : AZ) (a0 : Nat) (I : AI) : Option (Int32 × AI) :=
  (wI I a0 0 (0 : Int32)).bind fun I2_1 =>
  f292_b10 kad N Z N a0 (0 : Int32) (8 : Int32) I2_1
set_option maxRecDepth 20000 in
theorem Tf292 {kad : Nat → Nat} {N : Nat} {Z : AZ} {d : Nat} {t : Option Nat × (Nat × Nat)} (hd : 1 ≤ d) : ∀ (a0 : Nat) (ha0 : sh11 kad Z a0) (I : AI) (r : Int32 × AI), f292 kad N Z a0 I = some r → aGo kad d 292 (0, ([(0, .ref a0)], [])) (aMem Z I, t) (qI Z t r) := by
  intro a0 ha0 I r h
  unfold f292 at h
  refine go_ops aMi292 2 _ (f1 := (2, ([(0, .ref a0)], [.int (0 : Int32), .ref a0]))) rfl ?_
  obtain ⟨I2_1, hxI2_1, h⟩ := Option.bind_eq_some_iff.mp h
  refine gg_pI aMi292 rfl rfl rfl rfl (by decide) (pI_of (sh11_z ha0) hxI2_1) ?_
  refine go_ops aMi292 4 _ (f1 := (10, ([(2, .int (8 : Int32)), (1, .int (0 : Int32)), (0, .ref a0)], []))) rfl ?_
  refine go_le (lv1 := [(0, .ref a0), (1, .int (0 : Int32)), (2, .int (8 : Int32))]) (aLe_of (show (List.map (fun q => q.1) ([(0, .ref a0), (1, .int (0 : Int32)), (2, .int (8 : Int32))] : ALv)).Nodup from (by show ([0, 1, 2] : List Nat).Nodup; decide)) (aSubL_cons rfl (aSubL_cons rfl (aSubL_cons rfl aSubL_nil)))) ?_
  exact Tf292_b10 hd N a0 ha0 (0 : Int32) (8 : Int32) I2_1 _ h
-- KernelGymModel.isEntrySo (I)Z
def f293_b67 (kad : Nat → Nat) (N : Nat) (Z : AZ) (a0 : Nat) (s0 : Int32) (I : AI) : Option (Int32 × AI) :=
  if s0 = 0 ∨ s0 = 1 then some (s0, I) else none
set_option maxRecDepth 20000 in
theorem Tf293_b67 {kad : Nat → Nat} {N : Nat} {Z : AZ} {d : Nat} {t : Option Nat × (Nat × Nat)} (hd : 2 ≤ d) : ∀ (a0 : Nat) (ha0 : sh11 kad Z a0) (s0 : Int32) (I : AI) (r : Int32 × AI), f293_b67 kad N Z a0 s0 I = some r → aGo kad d 293 (67, ([], [.int s0])) (aMem Z I, t) (qI Z t r) := by
  intro a0 ha0 s0 I r h
  unfold f293_b67 at h
  split at h
  · rename_i hz
    cases h
    exact go_ret aMi293 rfl (aRetZ hz) ⟨rfl, rfl⟩
  · cases h
def f293_b66 (kad : Nat → Nat) (N : Nat) (Z : AZ) (a0 : Nat) (I : AI) : Option (Int32 × AI) :=
  f293_b67 kad N Z a0 (0 : Int32) I
set_option maxRecDepth 20000 in
theorem Tf293_b66 {kad : Nat → Nat} {N : Nat} {Z : AZ} {d : Nat} {t : Option Nat × (Nat × Nat)} (hd : 2 ≤ d) : ∀ (a0 : Nat) (ha0 : sh11 kad Z a0) (I : AI) (r : Int32 × AI), f293_b66 kad N Z a0 I = some r → aGo kad d 293 (66, ([], [])) (aMem Z I, t) (qI Z t r) := by
  intro a0 ha0 I r h
  unfold f293_b66 at h
  refine go_ops aMi293 1 _ (f1 := (67, ([], [.int (0 : Int32)]))) rfl ?_
  exact Tf293_b67 hd a0 ha0 (0 : Int32) I _ h
def f293_b188 (kad : Nat → Nat) (N : Nat) (Z : AZ) (a0 : Nat) (s0 : Int32) (I : AI) : Option (Int32 × AI) :=
  if s0 = 0 ∨ s0 = 1 then some (s0, I) else none
set_option maxRecDepth 20000 in
theorem Tf293_b188 {kad : Nat → Nat} {N : Nat} {Z : AZ} {d : Nat} {t : Option Nat × (Nat × Nat)} (hd : 2 ≤ d) : ∀ (a0 : Nat) (ha0 : sh11 kad Z a0) (s0 : Int32) (I : AI) (r : Int32 × AI), f293_b188 kad N Z a0 s0 I = some r → aGo kad d 293 (188, ([], [.int s0])) (aMem Z I, t) (qI Z t r) := by
  intro a0 ha0 s0 I r h
  unfold f293_b188 at h
  split at h
  · rename_i hz
    cases h
    exact go_ret aMi293 rfl (aRetZ hz) ⟨rfl, rfl⟩
  · cases h
def f293_b187 (kad : Nat → Nat) (N : Nat) (Z : AZ) (a0 : Nat) (I : AI) : Option (Int32 × AI) :=
  f293_b188 kad N Z a0 (0 : Int32) I
set_option maxRecDepth 20000 in
theorem Tf293_b187 {kad : Nat → Nat} {N : Nat} {Z : AZ} {d : Nat} {t : Option Nat × (Nat × Nat)} (hd : 2 ≤ d) : ∀ (a0 : Nat) (ha0 : sh11 kad Z a0) (I : AI) (r : Int32 × AI), f293_b187 kad N Z a0 I = some r → aGo kad d 293 (187, ([], [])) (aMem Z I, t) (qI Z t r) := by
  intro a0 ha0 I r h
  unfold f293_b187 at h
  refine go_ops aMi293 1 _ (f1 := (188, ([], [.int (0 : Int32)]))) rfl ?_
  exact Tf293_b188 hd a0 ha0 (0 : Int32) I _ h
def f293_b163 (kad : Nat → Nat) (N : Nat) (Z : AZ) (a0 : Nat) (i1 : Int32) (I : AI) : Option (Int32 × AI) :=
  (f235 kad N Z i1 I).bind fun r172_1 =>
  (ixA 256 r172_1.1).bind fun j175_2 =>
  (f236 kad N Z (a0 + 24) (r172_1.2 (a0 + 24) j175_2) r172_1.2).bind fun r176_3 =>
  if ¬ r176_3.1 = i1 then
    f293_b187 kad N Z a0 r176_3.2
  else
    f293_b188 kad N Z a0 (1 : Int32) r176_3.2
set_option maxRecDepth 20000 in
theorem Tf293_b163 {kad : Nat → Nat} {N : Nat} {Z : AZ} {d : Nat} {t : Option Nat × (Nat × Nat)} (hd : 2 ≤ d) : ∀ (a0 : Nat) (ha0 : sh11 kad Z a0) (i1 : Int32) (I : AI) (r : Int32 × AI), f293_b163 kad N Z a0 i1 I = some r → aGo kad d 293 (163, ([(0, .ref a0), (1, .int i1)], [])) (aMem Z I, t) (qI Z t r) := by
  intro a0 ha0 i1 I r h
  unfold f293_b163 at h
  refine go_ops aMi293 1 _ (f1 := (164, ([(0, .ref a0), (1, .int i1)], [.ref a0]))) rfl ?_
  refine gg_gR (b := (a0 + 24)) aMi293 rfl rfl rfl (gR_of (sh11_z ha0) (sh11_r50 ha0)) ?_
  refine go_ops aMi293 1 _ (f1 := (168, ([(0, .ref a0), (1, .int i1)], [.ref a0, .ref (a0 + 24)]))) rfl ?_
  refine gg_gR (b := (a0 + 24)) aMi293 rfl rfl rfl (gR_of (sh11_z ha0) (sh11_r50 ha0)) ?_
  refine go_ops aMi293 1 _ (f1 := (172, ([(0, .ref a0), (1, .int i1)], [.int i1, .ref (a0 + 24), .ref (a0 + 24)]))) rfl ?_
  obtain ⟨r172_1, hxr172_1, h⟩ := Option.bind_eq_some_iff.mp h
  refine gg_cs (as := [.int i1]) (r := [.ref (a0 + 24), .ref (a0 + 24)]) aMi293 rfl rfl rfl aMi235 rfl (Nat.le_of_ble_eq_true rfl) (Nat.le_of_ble_eq_true rfl) (by omega) (Tf235 (by omega) i1 I _ hxr172_1) ?_
  show aGo kad d 293 (175, ([(0, .ref a0), (1, .int i1)], [.int r172_1.1, .ref (a0 + 24), .ref (a0 + 24)])) (aMem Z r172_1.2, t) _
  obtain ⟨j175_2, hxj175_2, h⟩ := Option.bind_eq_some_iff.mp h
  refine gg_lI (Or.inl ⟨rfl, rfl⟩) aMi293 rfl (lI_of (sh11_a50 ha0) hxj175_2) ?_
  obtain ⟨r176_3, hxr176_3, h⟩ := Option.bind_eq_some_iff.mp h
  refine gg_cs (as := [.ref (a0 + 24), .int (r172_1.2 (a0 + 24) j175_2)]) (r := []) aMi293 rfl rfl rfl aMi236 rfl (Nat.le_of_ble_eq_true rfl) (Nat.le_of_ble_eq_true rfl) (by omega) (Tf236 (by omega) (a0 + 24) (r172_1.2 (a0 + 24) j175_2) r172_1.2 _ hxr176_3) ?_
  show aGo kad d 293 (179, ([(0, .ref a0), (1, .int i1)], [.int r176_3.1])) (aMem Z r176_3.2, t) _
  refine go_ops aMi293 1 _ (f1 := (180, ([(0, .ref a0), (1, .int i1)], [.int i1, .int r176_3.1]))) rfl ?_
  refine gg_br (b := decide (¬ r176_3.1 = i1)) (tg := 187) (off := 7) aMi293 rfl rfl rfl rfl (fun hb => ?_) (fun hb => ?_)
  · rw [if_pos (of_decide_eq_true hb)] at h
    refine go_le (lv1 := []) (aLe_of (show (List.map (fun q => q.1) ([] : ALv)).Nodup from (by show ([] : List Nat).Nodup; decide)) aSubL_nil) ?_
    exact Tf293_b187 hd a0 ha0 r176_3.2 _ h
  · rw [if_neg (of_decide_eq_false hb)] at h
    refine go_ops aMi293 2 _ (f1 := (188, ([(0, .ref a0), (1, .int i1)], [.int (1 : Int32)]))) rfl ?_
    refine go_le (lv1 := []) (aLe_of (show (List.map (fun q => q.1) ([] : ALv)).Nodup from (by show ([] : List Nat).Nodup; decide)) aSubL_nil) ?_
    exact Tf293_b188 hd a0 ha0 (1 : Int32) r176_3.2 _ h
def f293_b146 (kad : Nat → Nat) (N : Nat) (Z : AZ) (a0 : Nat) (i1 : Int32) (i4 : Int32) (I : AI) : Option (Int32 × AI) :=
  if i4 = 0 then
    f293_b163 kad N Z a0 i1 I
  else
    (f186 kad N Z i4 (8 : Int32) (31 : Int32) I).bind fun r157_1 =>
    if r157_1.1 = 0 then
      f293_b187 kad N Z a0 r157_1.2
    else
      f293_b163 kad N Z a0 i1 r157_1.2
set_option maxRecDepth 20000 in
theorem Tf293_b146 {kad : Nat → Nat} {N : Nat} {Z : AZ} {d : Nat} {t : Option Nat × (Nat × Nat)} (hd : 2 ≤ d) : ∀ (a0 : Nat) (ha0 : sh11 kad Z a0) (i1 : Int32) (i4 : Int32) (I : AI) (r : Int32 × AI), f293_b146 kad N Z a0 i1 i4 I = some r → aGo kad d 293 (146, ([(0, .ref a0), (1, .int i1), (4, .int i4)], [])) (aMem Z I, t) (qI Z t r) := by
  intro a0 ha0 i1 i4 I r h
  unfold f293_b146 at h
  refine go_ops aMi293 1 _ (f1 := (148, ([(0, .ref a0), (1, .int i1), (4, .int i4)], [.int i4]))) rfl ?_
  refine gg_br (b := decide (i4 = 0)) (tg := 163) (off := 15) aMi293 rfl rfl rfl rfl (fun hb => ?_) (fun hb => ?_)
  · rw [if_pos (of_decide_eq_true hb)] at h
    refine go_le (lv1 := [(0, .ref a0), (1, .int i1)]) (aLe_of (show (List.map (fun q => q.1) ([(0, .ref a0), (1, .int i1)] : ALv)).Nodup from (by show ([0, 1] : List Nat).Nodup; decide)) (aSubL_cons rfl (aSubL_cons rfl aSubL_nil))) ?_
    exact Tf293_b163 hd a0 ha0 i1 I _ h
  · rw [if_neg (of_decide_eq_false hb)] at h
    refine go_ops aMi293 3 _ (f1 := (157, ([(0, .ref a0), (1, .int i1), (4, .int i4)], [.int (31 : Int32), .int (8 : Int32), .int i4]))) rfl ?_
    obtain ⟨r157_1, hxr157_1, h⟩ := Option.bind_eq_some_iff.mp h
    refine gg_cs (as := [.int i4, .int (8 : Int32), .int (31 : Int32)]) (r := []) aMi293 rfl rfl rfl aMi186 rfl (Nat.le_of_ble_eq_true rfl) (Nat.le_of_ble_eq_true rfl) (by omega) (Tf186 (by omega) i4 (8 : Int32) (31 : Int32) I _ hxr157_1) ?_
    show aGo kad d 293 (160, ([(0, .ref a0), (1, .int i1), (4, .int i4)], [.int r157_1.1])) (aMem Z r157_1.2, t) _
    refine gg_br (b := decide (r157_1.1 = 0)) (tg := 187) (off := 27) aMi293 rfl rfl rfl rfl (fun hb => ?_) (fun hb => ?_)
    · rw [if_pos (of_decide_eq_true hb)] at h
      refine go_le (lv1 := []) (aLe_of (show (List.map (fun q => q.1) ([] : ALv)).Nodup from (by show ([] : List Nat).Nodup; decide)) aSubL_nil) ?_
      exact Tf293_b187 hd a0 ha0 r157_1.2 _ h
    · rw [if_neg (of_decide_eq_false hb)] at h
      refine go_le (lv1 := [(0, .ref a0), (1, .int i1)]) (aLe_of (show (List.map (fun q => q.1) ([(0, .ref a0), (1, .int i1)] : ALv)).Nodup from (by show ([0, 1] : List Nat).Nodup; decide)) (aSubL_cons rfl (aSubL_cons rfl aSubL_nil))) ?_
      exact Tf293_b163 hd a0 ha0 i1 r157_1.2 _ h
def f293_b124 (kad : Nat → Nat) (N : Nat) (Z : AZ) (a0 : Nat) (i1 : Int32) (i3 : Int32) (i4 : Int32) (s0 : Int32) (I : AI) : Option (Int32 × AI) :=
  if s0 = 0 then
    f293_b187 kad N Z a0 I
  else
    if i3 = 0 then
      f293_b146 kad N Z a0 i1 i4 I
    else
      (f186 kad N Z i3 (8 : Int32) (31 : Int32) I).bind fun r140_1 =>
      if r140_1.1 = 0 then
        f293_b187 kad N Z a0 r140_1.2
      else
        f293_b146 kad N Z a0 i1 i4 r140_1.2
set_option maxRecDepth 20000 in
theorem Tf293_b124 {kad : Nat → Nat} {N : Nat} {Z : AZ} {d : Nat} {t : Option Nat × (Nat × Nat)} (hd : 2 ≤ d) : ∀ (a0 : Nat) (ha0 : sh11 kad Z a0) (i1 : Int32) (i3 : Int32) (i4 : Int32) (s0 : Int32) (I : AI) (r : Int32 × AI), f293_b124 kad N Z a0 i1 i3 i4 s0 I = some r → aGo kad d 293 (124, ([(0, .ref a0), (1, .int i1), (3, .int i3), (4, .int i4)], [.int s0])) (aMem Z I, t) (qI Z t r) := by
  intro a0 ha0 i1 i3 i4 s0 I r h
  unfold f293_b124 at h
  refine go_ops aMi293 2 _ (f1 := (128, ([(5, .int s0), (0, .ref a0), (1, .int i1), (3, .int i3), (4, .int i4)], [.int s0]))) rfl ?_
  refine gg_br (b := decide (s0 = 0)) (tg := 187) (off := 59) aMi293 rfl rfl rfl rfl (fun hb => ?_) (fun hb => ?_)
  · rw [if_pos (of_decide_eq_true hb)] at h
    refine go_le (lv1 := []) (aLe_of (show (List.map (fun q => q.1) ([] : ALv)).Nodup from (by show ([] : List Nat).Nodup; decide)) aSubL_nil) ?_
    exact Tf293_b187 hd a0 ha0 I _ h
  · rw [if_neg (of_decide_eq_false hb)] at h
    refine go_ops aMi293 1 _ (f1 := (132, ([(5, .int s0), (0, .ref a0), (1, .int i1), (3, .int i3), (4, .int i4)], [.int i3]))) rfl ?_
    refine gg_br (b := decide (i3 = 0)) (tg := 146) (off := 14) aMi293 rfl rfl rfl rfl (fun hb => ?_) (fun hb => ?_)
    · rw [if_pos (of_decide_eq_true hb)] at h
      refine go_le (lv1 := [(0, .ref a0), (1, .int i1), (4, .int i4)]) (aLe_of (show (List.map (fun q => q.1) ([(0, .ref a0), (1, .int i1), (4, .int i4)] : ALv)).Nodup from (by show ([0, 1, 4] : List Nat).Nodup; decide)) (aSubL_cons rfl (aSubL_cons rfl (aSubL_cons rfl aSubL_nil)))) ?_
      exact Tf293_b146 hd a0 ha0 i1 i4 I _ h
    · rw [if_neg (of_decide_eq_false hb)] at h
      refine go_ops aMi293 3 _ (f1 := (140, ([(5, .int s0), (0, .ref a0), (1, .int i1), (3, .int i3), (4, .int i4)], [.int (31 : Int32), .int (8 : Int32), .int i3]))) rfl ?_
      obtain ⟨r140_1, hxr140_1, h⟩ := Option.bind_eq_some_iff.mp h
      refine gg_cs (as := [.int i3, .int (8 : Int32), .int (31 : Int32)]) (r := []) aMi293 rfl rfl rfl aMi186 rfl (Nat.le_of_ble_eq_true rfl) (Nat.le_of_ble_eq_true rfl) (by omega) (Tf186 (by omega) i3 (8 : Int32) (31 : Int32) I _ hxr140_1) ?_
      show aGo kad d 293 (143, ([(5, .int s0), (0, .ref a0), (1, .int i1), (3, .int i3), (4, .int i4)], [.int r140_1.1])) (aMem Z r140_1.2, t) _
      refine gg_br (b := decide (r140_1.1 = 0)) (tg := 187) (off := 44) aMi293 rfl rfl rfl rfl (fun hb => ?_) (fun hb => ?_)
      · rw [if_pos (of_decide_eq_true hb)] at h
        refine go_le (lv1 := []) (aLe_of (show (List.map (fun q => q.1) ([] : ALv)).Nodup from (by show ([] : List Nat).Nodup; decide)) aSubL_nil) ?_
        exact Tf293_b187 hd a0 ha0 r140_1.2 _ h
      · rw [if_neg (of_decide_eq_false hb)] at h
        refine go_le (lv1 := [(0, .ref a0), (1, .int i1), (4, .int i4)]) (aLe_of (show (List.map (fun q => q.1) ([(0, .ref a0), (1, .int i1), (4, .int i4)] : ALv)).Nodup from (by show ([0, 1, 4] : List Nat).Nodup; decide)) (aSubL_cons rfl (aSubL_cons rfl (aSubL_cons rfl aSubL_nil)))) ?_
        exact Tf293_b146 hd a0 ha0 i1 i4 r140_1.2 _ h
def f293_b123 (kad : Nat → Nat) (N : Nat) (Z : AZ) (a0 : Nat) (i1 : Int32) (i3 : Int32) (i4 : Int32) (I : AI) : Option (Int32 × AI) :=
  f293_b124 kad N Z a0 i1 i3 i4 (0 : Int32) I
set_option maxRecDepth 20000 in
theorem Tf293_b123 {kad : Nat → Nat} {N : Nat} {Z : AZ} {d : Nat} {t : Option Nat × (Nat × Nat)} (hd : 2 ≤ d) : ∀ (a0 : Nat) (ha0 : sh11 kad Z a0) (i1 : Int32) (i3 : Int32) (i4 : Int32) (I : AI) (r : Int32 × AI), f293_b123 kad N Z a0 i1 i3 i4 I = some r → aGo kad d 293 (123, ([(0, .ref a0), (1, .int i1), (3, .int i3), (4, .int i4)], [])) (aMem Z I, t) (qI Z t r) := by
  intro a0 ha0 i1 i3 i4 I r h
  unfold f293_b123 at h
  refine go_ops aMi293 1 _ (f1 := (124, ([(0, .ref a0), (1, .int i1), (3, .int i3), (4, .int i4)], [.int (0 : Int32)]))) rfl ?_
  exact Tf293_b124 hd a0 ha0 i1 i3 i4 (0 : Int32) I _ h
def f293_b116 (kad : Nat → Nat) (N : Nat) (Z : AZ) (a0 : Nat) (i1 : Int32) (i3 : Int32) (i4 : Int32) (s0 : Int32) (s1 : Int32) (I : AI) : Option (Int32 × AI) :=
  if ¬ s1 = s0 then
    f293_b123 kad N Z a0 i1 i3 i4 I
  else
    f293_b124 kad N Z a0 i1 i3 i4 (1 : Int32) I
set_option maxRecDepth 20000 in
theorem Tf293_b116 {kad : Nat → Nat} {N : Nat} {Z : AZ} {d : Nat} {t : Option Nat × (Nat × Nat)} (hd : 2 ≤ d) : ∀ (a0 : Nat) (ha0 : sh11 kad Z a0) (i1 : Int32) (i3 : Int32) (i4 : Int32) (s0 : Int32) (s1 : Int32) (I : AI) (r : Int32 × AI), f293_b116 kad N Z a0 i1 i3 i4 s0 s1 I = some r → aGo kad d 293 (116, ([(0, .ref a0), (1, .int i1), (3, .int i3), (4, .int i4)], [.int s0, .int s1])) (aMem Z I, t) (qI Z t r) := by
  intro a0 ha0 i1 i3 i4 s0 s1 I r h
  unfold f293_b116 at h
  refine gg_br (b := decide (¬ s1 = s0)) (tg := 123) (off := 7) aMi293 rfl rfl rfl rfl (fun hb => ?_) (fun hb => ?_)
  · rw [if_pos (of_decide_eq_true hb)] at h
    exact Tf293_b123 hd a0 ha0 i1 i3 i4 I _ h
  · rw [if_neg (of_decide_eq_false hb)] at h
    refine go_ops aMi293 2 _ (f1 := (124, ([(0, .ref a0), (1, .int i1), (3, .int i3), (4, .int i4)], [.int (1 : Int32)]))) rfl ?_
    exact Tf293_b124 hd a0 ha0 i1 i3 i4 (1 : Int32) I _ h
def f293_b105 (kad : Nat → Nat) (N : Nat) (Z : AZ) (a0 : Nat) (i1 : Int32) (i2 : Int32) (i3 : Int32) (i4 : Int32) (s0 : Int32) (I : AI) : Option (Int32 × AI) :=
  if i2 ≤ (8 : Int32) then
    f293_b116 kad N Z a0 i1 i3 i4 (0 : Int32) s0 I
  else
    f293_b116 kad N Z a0 i1 i3 i4 (1 : Int32) s0 I
set_option maxRecDepth 20000 in
theorem Tf293_b105 {kad : Nat → Nat} {N : Nat} {Z : AZ} {d : Nat} {t : Option Nat × (Nat × Nat)} (hd : 2 ≤ d) : ∀ (a0 : Nat) (ha0 : sh11 kad Z a0) (i1 : Int32) (i2 : Int32) (i3 : Int32) (i4 : Int32) (s0 : Int32) (I : AI) (r : Int32 × AI), f293_b105 kad N Z a0 i1 i2 i3 i4 s0 I = some r → aGo kad d 293 (105, ([(0, .ref a0), (1, .int i1), (2, .int i2), (3, .int i3), (4, .int i4)], [.int s0])) (aMem Z I, t) (qI Z t r) := by
  intro a0 ha0 i1 i2 i3 i4 s0 I r h
  unfold f293_b105 at h
  refine go_ops aMi293 2 _ (f1 := (108, ([(0, .ref a0), (1, .int i1), (2, .int i2), (3, .int i3), (4, .int i4)], [.int (8 : Int32), .int i2, .int s0]))) rfl ?_
  refine gg_br (b := decide (i2 ≤ (8 : Int32))) (tg := 115) (off := 7) aMi293 rfl rfl rfl rfl (fun hb => ?_) (fun hb => ?_)
  · rw [if_pos (of_decide_eq_true hb)] at h
    refine go_ops aMi293 1 _ (f1 := (116, ([(0, .ref a0), (1, .int i1), (2, .int i2), (3, .int i3), (4, .int i4)], [.int (0 : Int32), .int s0]))) rfl ?_
    refine go_le (lv1 := [(0, .ref a0), (1, .int i1), (3, .int i3), (4, .int i4)]) (aLe_of (show (List.map (fun q => q.1) ([(0, .ref a0), (1, .int i1), (3, .int i3), (4, .int i4)] : ALv)).Nodup from (by show ([0, 1, 3, 4] : List Nat).Nodup; decide)) (aSubL_cons rfl (aSubL_cons rfl (aSubL_cons rfl (aSubL_cons rfl aSubL_nil))))) ?_
    exact Tf293_b116 hd a0 ha0 i1 i3 i4 (0 : Int32) s0 I _ h
  · rw [if_neg (of_decide_eq_false hb)] at h
    refine go_ops aMi293 2 _ (f1 := (116, ([(0, .ref a0), (1, .int i1), (2, .int i2), (3, .int i3), (4, .int i4)], [.int (1 : Int32), .int s0]))) rfl ?_
    refine go_le (lv1 := [(0, .ref a0), (1, .int i1), (3, .int i3), (4, .int i4)]) (aLe_of (show (List.map (fun q => q.1) ([(0, .ref a0), (1, .int i1), (3, .int i3), (4, .int i4)] : ALv)).Nodup from (by show ([0, 1, 3, 4] : List Nat).Nodup; decide)) (aSubL_cons rfl (aSubL_cons rfl (aSubL_cons rfl (aSubL_cons rfl aSubL_nil))))) ?_
    exact Tf293_b116 hd a0 ha0 i1 i3 i4 (1 : Int32) s0 I _ h
def f293_b92 (kad : Nat → Nat) (N : Nat) (Z : AZ) (a0 : Nat) (i1 : Int32) (i2 : Int32) (i3 : Int32) (i4 : Int32) (s0 : Int32) (s1 : Int32) (I : AI) : Option (Int32 × AI) :=
  if ¬ s1 = s0 then
    f293_b123 kad N Z a0 i1 i3 i4 I
  else
    if i4 ≤ 0 then
      f293_b105 kad N Z a0 i1 i2 i3 i4 (0 : Int32) I
    else
      f293_b105 kad N Z a0 i1 i2 i3 i4 (1 : Int32) I
set_option maxRecDepth 20000 in
theorem Tf293_b92 {kad : Nat → Nat} {N : Nat} {Z : AZ} {d : Nat} {t : Option Nat × (Nat × Nat)} (hd : 2 ≤ d) : ∀ (a0 : Nat) (ha0 : sh11 kad Z a0) (i1 : Int32) (i2 : Int32) (i3 : Int32) (i4 : Int32) (s0 : Int32) (s1 : Int32) (I : AI) (r : Int32 × AI), f293_b92 kad N Z a0 i1 i2 i3 i4 s0 s1 I = some r → aGo kad d 293 (92, ([(0, .ref a0), (1, .int i1), (2, .int i2), (3, .int i3), (4, .int i4)], [.int s0, .int s1])) (aMem Z I, t) (qI Z t r) := by
  intro a0 ha0 i1 i2 i3 i4 s0 s1 I r h
  unfold f293_b92 at h
  refine gg_br (b := decide (¬ s1 = s0)) (tg := 123) (off := 31) aMi293 rfl rfl rfl rfl (fun hb => ?_) (fun hb => ?_)
  · rw [if_pos (of_decide_eq_true hb)] at h
    refine go_le (lv1 := [(0, .ref a0), (1, .int i1), (3, .int i3), (4, .int i4)]) (aLe_of (show (List.map (fun q => q.1) ([(0, .ref a0), (1, .int i1), (3, .int i3), (4, .int i4)] : ALv)).Nodup from (by show ([0, 1, 3, 4] : List Nat).Nodup; decide)) (aSubL_cons rfl (aSubL_cons rfl (aSubL_cons rfl (aSubL_cons rfl aSubL_nil))))) ?_
    exact Tf293_b123 hd a0 ha0 i1 i3 i4 I _ h
  · rw [if_neg (of_decide_eq_false hb)] at h
    refine go_ops aMi293 1 _ (f1 := (97, ([(0, .ref a0), (1, .int i1), (2, .int i2), (3, .int i3), (4, .int i4)], [.int i4]))) rfl ?_
    refine gg_br (b := decide (i4 ≤ 0)) (tg := 104) (off := 7) aMi293 rfl rfl rfl rfl (fun hb => ?_) (fun hb => ?_)
    · rw [if_pos (of_decide_eq_true hb)] at h
      refine go_ops aMi293 1 _ (f1 := (105, ([(0, .ref a0), (1, .int i1), (2, .int i2), (3, .int i3), (4, .int i4)], [.int (0 : Int32)]))) rfl ?_
      exact Tf293_b105 hd a0 ha0 i1 i2 i3 i4 (0 : Int32) I _ h
    · rw [if_neg (of_decide_eq_false hb)] at h
      refine go_ops aMi293 2 _ (f1 := (105, ([(0, .ref a0), (1, .int i1), (2, .int i2), (3, .int i3), (4, .int i4)], [.int (1 : Int32)]))) rfl ?_
      exact Tf293_b105 hd a0 ha0 i1 i2 i3 i4 (1 : Int32) I _ h
def f293_b83 (kad : Nat → Nat) (N : Nat) (Z : AZ) (a0 : Nat) (i1 : Int32) (i2 : Int32) (i3 : Int32) (i4 : Int32) (s0 : Int32) (I : AI) : Option (Int32 × AI) :=
  if i2 ≤ 0 then
    f293_b92 kad N Z a0 i1 i2 i3 i4 (0 : Int32) s0 I
  else
    f293_b92 kad N Z a0 i1 i2 i3 i4 (1 : Int32) s0 I
set_option maxRecDepth 20000 in
theorem Tf293_b83 {kad : Nat → Nat} {N : Nat} {Z : AZ} {d : Nat} {t : Option Nat × (Nat × Nat)} (hd : 2 ≤ d) : ∀ (a0 : Nat) (ha0 : sh11 kad Z a0) (i1 : Int32) (i2 : Int32) (i3 : Int32) (i4 : Int32) (s0 : Int32) (I : AI) (r : Int32 × AI), f293_b83 kad N Z a0 i1 i2 i3 i4 s0 I = some r → aGo kad d 293 (83, ([(0, .ref a0), (1, .int i1), (2, .int i2), (3, .int i3), (4, .int i4)], [.int s0])) (aMem Z I, t) (qI Z t r) := by
  intro a0 ha0 i1 i2 i3 i4 s0 I r h
  unfold f293_b83 at h
  refine go_ops aMi293 1 _ (f1 := (84, ([(0, .ref a0), (1, .int i1), (2, .int i2), (3, .int i3), (4, .int i4)], [.int i2, .int s0]))) rfl ?_
  refine gg_br (b := decide (i2 ≤ 0)) (tg := 91) (off := 7) aMi293 rfl rfl rfl rfl (fun hb => ?_) (fun hb => ?_)
  · rw [if_pos (of_decide_eq_true hb)] at h
    refine go_ops aMi293 1 _ (f1 := (92, ([(0, .ref a0), (1, .int i1), (2, .int i2), (3, .int i3), (4, .int i4)], [.int (0 : Int32), .int s0]))) rfl ?_
    exact Tf293_b92 hd a0 ha0 i1 i2 i3 i4 (0 : Int32) s0 I _ h
  · rw [if_neg (of_decide_eq_false hb)] at h
    refine go_ops aMi293 2 _ (f1 := (92, ([(0, .ref a0), (1, .int i1), (2, .int i2), (3, .int i3), (4, .int i4)], [.int (1 : Int32), .int s0]))) rfl ?_
    exact Tf293_b92 hd a0 ha0 i1 i2 i3 i4 (1 : Int32) s0 I _ h
def f293 (kad : Nat → Nat) (N : Nat) (Z : AZ) (a0 : Nat) (i1 : Int32) (I : AI) : Option (Int32 × AI) :=
  (f235 kad N Z i1 I).bind fun r5_1 =>
  (ixA 256 (r5_1.1 + (1 : Int32))).bind fun j10_2 =>
  (f235 kad N Z i1 r5_1.2).bind fun r17_3 =>
  (ixA 256 (r17_3.1 + (2 : Int32))).bind fun j22_4 =>
  (f235 kad N Z i1 r17_3.2).bind fun r29_5 =>
  (ixA 256 (r29_5.1 + (3 : Int32))).bind fun j34_6 =>
  (f235 kad N Z i1 r29_5.2).bind fun r42_7 =>
  (ixA 256 r42_7.1).bind fun j45_8 =>
  if ¬ (r42_7.2 (a0 + 24) j45_8) = 0 then
    if (16 : Int32) < (r5_1.2 (a0 + 24) j10_2) then
      f293_b123 kad N Z a0 i1 (r17_3.2 (a0 + 24) j22_4) (r29_5.2 (a0 + 24) j34_6) r42_7.2
    else
      if (r17_3.2 (a0 + 24) j22_4) ≤ 0 then
        f293_b83 kad N Z a0 i1 (r5_1.2 (a0 + 24) j10_2) (r17_3.2 (a0 + 24) j22_4) (r29_5.2 (a0 + 24) j34_6) (0 : Int32) r42_7.2
      else
        f293_b83 kad N Z a0 i1 (r5_1.2 (a0 + 24) j10_2) (r17_3.2 (a0 + 24) j22_4) (r29_5.2 (a0 + 24) j34_6) (1 : Int32) r42_7.2
  else
    if ¬ (r5_1.2 (a0 + 24) j10_2) = 0 then
      f293_b66 kad N Z a0 r42_7.2
    else
      if ¬ (r17_3.2 (a0 + 24) j22_4) = 0 then
        f293_b66 kad N Z a0 r42_7.2
      else
        if ¬ (r29_5.2 (a0 + 24) j34_6) = 0 then
          f293_b66 kad N Z a0 r42_7.2
        else
          f293_b67 kad N Z a0 (1 : Int32) r42_7.2
set_option maxRecDepth 20000 in
theorem Tf293 {kad : Nat → Nat} {N : Nat} {Z : AZ} {d : Nat} {t : Option Nat × (Nat × Nat)} (hd : 2 ≤ d) : ∀ (a0 : Nat) (ha0 : sh11 kad Z a0) (i1 : Int32) (I : AI) (r : Int32 × AI), f293 kad N Z a0 i1 I = some r → aGo kad d 293 (0, ([(0, .ref a0), (1, .int i1)], [])) (aMem Z I, t) (qI Z t r) := by
  intro a0 ha0 i1 I r h
  unfold f293 at h
  refine go_ops aMi293 1 _ (f1 := (1, ([(0, .ref a0), (1, .int i1)], [.ref a0]))) rfl ?_
  refine gg_gR (b := (a0 + 24)) aMi293 rfl rfl rfl (gR_of (sh11_z ha0) (sh11_r50 ha0)) ?_
  refine go_ops aMi293 1 _ (f1 := (5, ([(0, .ref a0), (1, .int i1)], [.int i1, .ref (a0 + 24)]))) rfl ?_
  obtain ⟨r5_1, hxr5_1, h⟩ := Option.bind_eq_some_iff.mp h
  refine gg_cs (as := [.int i1]) (r := [.ref (a0 + 24)]) aMi293 rfl rfl rfl aMi235 rfl (Nat.le_of_ble_eq_true rfl) (Nat.le_of_ble_eq_true rfl) (by omega) (Tf235 (by omega) i1 I _ hxr5_1) ?_
  show aGo kad d 293 (8, ([(0, .ref a0), (1, .int i1)], [.int r5_1.1, .ref (a0 + 24)])) (aMem Z r5_1.2, t) _
  refine go_ops aMi293 2 _ (f1 := (10, ([(0, .ref a0), (1, .int i1)], [.int (r5_1.1 + (1 : Int32)), .ref (a0 + 24)]))) rfl ?_
  obtain ⟨j10_2, hxj10_2, h⟩ := Option.bind_eq_some_iff.mp h
  refine gg_lI (Or.inl ⟨rfl, rfl⟩) aMi293 rfl (lI_of (sh11_a50 ha0) hxj10_2) ?_
  refine go_ops aMi293 2 _ (f1 := (13, ([(2, .int (r5_1.2 (a0 + 24) j10_2)), (0, .ref a0), (1, .int i1)], [.ref a0]))) rfl ?_
  refine gg_gR (b := (a0 + 24)) aMi293 rfl rfl rfl (gR_of (sh11_z ha0) (sh11_r50 ha0)) ?_
  refine go_ops aMi293 1 _ (f1 := (17, ([(2, .int (r5_1.2 (a0 + 24) j10_2)), (0, .ref a0), (1, .int i1)], [.int i1, .ref (a0 + 24)]))) rfl ?_
  obtain ⟨r17_3, hxr17_3, h⟩ := Option.bind_eq_some_iff.mp h
  refine gg_cs (as := [.int i1]) (r := [.ref (a0 + 24)]) aMi293 rfl rfl rfl aMi235 rfl (Nat.le_of_ble_eq_true rfl) (Nat.le_of_ble_eq_true rfl) (by omega) (Tf235 (by omega) i1 r5_1.2 _ hxr17_3) ?_
  show aGo kad d 293 (20, ([(2, .int (r5_1.2 (a0 + 24) j10_2)), (0, .ref a0), (1, .int i1)], [.int r17_3.1, .ref (a0 + 24)])) (aMem Z r17_3.2, t) _
  refine go_ops aMi293 2 _ (f1 := (22, ([(2, .int (r5_1.2 (a0 + 24) j10_2)), (0, .ref a0), (1, .int i1)], [.int (r17_3.1 + (2 : Int32)), .ref (a0 + 24)]))) rfl ?_
  obtain ⟨j22_4, hxj22_4, h⟩ := Option.bind_eq_some_iff.mp h
  refine gg_lI (Or.inl ⟨rfl, rfl⟩) aMi293 rfl (lI_of (sh11_a50 ha0) hxj22_4) ?_
  refine go_ops aMi293 2 _ (f1 := (25, ([(3, .int (r17_3.2 (a0 + 24) j22_4)), (2, .int (r5_1.2 (a0 + 24) j10_2)), (0, .ref a0), (1, .int i1)], [.ref a0]))) rfl ?_
  refine gg_gR (b := (a0 + 24)) aMi293 rfl rfl rfl (gR_of (sh11_z ha0) (sh11_r50 ha0)) ?_
  refine go_ops aMi293 1 _ (f1 := (29, ([(3, .int (r17_3.2 (a0 + 24) j22_4)), (2, .int (r5_1.2 (a0 + 24) j10_2)), (0, .ref a0), (1, .int i1)], [.int i1, .ref (a0 + 24)]))) rfl ?_
  obtain ⟨r29_5, hxr29_5, h⟩ := Option.bind_eq_some_iff.mp h
  refine gg_cs (as := [.int i1]) (r := [.ref (a0 + 24)]) aMi293 rfl rfl rfl aMi235 rfl (Nat.le_of_ble_eq_true rfl) (Nat.le_of_ble_eq_true rfl) (by omega) (Tf235 (by omega) i1 r17_3.2 _ hxr29_5) ?_
  show aGo kad d 293 (32, ([(3, .int (r17_3.2 (a0 + 24) j22_4)), (2, .int (r5_1.2 (a0 + 24) j10_2)), (0, .ref a0), (1, .int i1)], [.int r29_5.1, .ref (a0 + 24)])) (aMem Z r29_5.2, t) _
  refine go_ops aMi293 2 _ (f1 := (34, ([(3, .int (r17_3.2 (a0 + 24) j22_4)), (2, .int (r5_1.2 (a0 + 24) j10_2)), (0, .ref a0), (1, .int i1)], [.int (r29_5.1 + (3 : Int32)), .ref (a0 + 24)]))) rfl ?_
  obtain ⟨j34_6, hxj34_6, h⟩ := Option.bind_eq_some_iff.mp h
  refine gg_lI (Or.inl ⟨rfl, rfl⟩) aMi293 rfl (lI_of (sh11_a50 ha0) hxj34_6) ?_
  refine go_ops aMi293 2 _ (f1 := (38, ([(4, .int (r29_5.2 (a0 + 24) j34_6)), (3, .int (r17_3.2 (a0 + 24) j22_4)), (2, .int (r5_1.2 (a0 + 24) j10_2)), (0, .ref a0), (1, .int i1)], [.ref a0]))) rfl ?_
  refine gg_gR (b := (a0 + 24)) aMi293 rfl rfl rfl (gR_of (sh11_z ha0) (sh11_r50 ha0)) ?_
  refine go_ops aMi293 1 _ (f1 := (42, ([(4, .int (r29_5.2 (a0 + 24) j34_6)), (3, .int (r17_3.2 (a0 + 24) j22_4)), (2, .int (r5_1.2 (a0 + 24) j10_2)), (0, .ref a0), (1, .int i1)], [.int i1, .ref (a0 + 24)]))) rfl ?_
  obtain ⟨r42_7, hxr42_7, h⟩ := Option.bind_eq_some_iff.mp h
  refine gg_cs (as := [.int i1]) (r := [.ref (a0 + 24)]) aMi293 rfl rfl rfl aMi235 rfl (Nat.le_of_ble_eq_true rfl) (Nat.le_of_ble_eq_true rfl) (by omega) (Tf235 (by omega) i1 r29_5.2 _ hxr42_7) ?_
  show aGo kad d 293 (45, ([(4, .int (r29_5.2 (a0 + 24) j34_6)), (3, .int (r17_3.2 (a0 + 24) j22_4)), (2, .int (r5_1.2 (a0 + 24) j10_2)), (0, .ref a0), (1, .int i1)], [.int r42_7.1, .ref (a0 + 24)])) (aMem Z r42_7.2, t) _
  obtain ⟨j45_8, hxj45_8, h⟩ := Option.bind_eq_some_iff.mp h
  refine gg_lI (Or.inl ⟨rfl, rfl⟩) aMi293 rfl (lI_of (sh11_a50 ha0) hxj45_8) ?_
  refine gg_br (b := decide (¬ (r42_7.2 (a0 + 24) j45_8) = 0)) (tg := 68) (off := 22) aMi293 rfl rfl rfl rfl (fun hb => ?_) (fun hb => ?_)
  · rw [if_pos (of_decide_eq_true hb)] at h
    refine go_ops aMi293 2 _ (f1 := (71, ([(4, .int (r29_5.2 (a0 + 24) j34_6)), (3, .int (r17_3.2 (a0 + 24) j22_4)), (2, .int (r5_1.2 (a0 + 24) j10_2)), (0, .ref a0), (1, .int i1)], [.int (16 : Int32), .int (r5_1.2 (a0 + 24) j10_2)]))) rfl ?_
    refine gg_br (b := decide ((16 : Int32) < (r5_1.2 (a0 + 24) j10_2))) (tg := 123) (off := 52) aMi293 rfl rfl rfl rfl (fun hb => ?_) (fun hb => ?_)
    · rw [if_pos (of_decide_eq_true hb)] at h
      refine go_le (lv1 := [(0, .ref a0), (1, .int i1), (3, .int (r17_3.2 (a0 + 24) j22_4)), (4, .int (r29_5.2 (a0 + 24) j34_6))]) (aLe_of (show (List.map (fun q => q.1) ([(0, .ref a0), (1, .int i1), (3, .int (r17_3.2 (a0 + 24) j22_4)), (4, .int (r29_5.2 (a0 + 24) j34_6))] : ALv)).Nodup from (by show ([0, 1, 3, 4] : List Nat).Nodup; decide)) (aSubL_cons rfl (aSubL_cons rfl (aSubL_cons rfl (aSubL_cons rfl aSubL_nil))))) ?_
      exact Tf293_b123 hd a0 ha0 i1 (r17_3.2 (a0 + 24) j22_4) (r29_5.2 (a0 + 24) j34_6) r42_7.2 _ h
    · rw [if_neg (of_decide_eq_false hb)] at h
      refine go_ops aMi293 1 _ (f1 := (75, ([(4, .int (r29_5.2 (a0 + 24) j34_6)), (3, .int (r17_3.2 (a0 + 24) j22_4)), (2, .int (r5_1.2 (a0 + 24) j10_2)), (0, .ref a0), (1, .int i1)], [.int (r17_3.2 (a0 + 24) j22_4)]))) rfl ?_
      refine gg_br (b := decide ((r17_3.2 (a0 + 24) j22_4) ≤ 0)) (tg := 82) (off := 7) aMi293 rfl rfl rfl rfl (fun hb => ?_) (fun hb => ?_)
      · rw [if_pos (of_decide_eq_true hb)] at h
        refine go_ops aMi293 1 _ (f1 := (83, ([(4, .int (r29_5.2 (a0 + 24) j34_6)), (3, .int (r17_3.2 (a0 + 24) j22_4)), (2, .int (r5_1.2 (a0 + 24) j10_2)), (0, .ref a0), (1, .int i1)], [.int (0 : Int32)]))) rfl ?_
        refine go_le (lv1 := [(0, .ref a0), (1, .int i1), (2, .int (r5_1.2 (a0 + 24) j10_2)), (3, .int (r17_3.2 (a0 + 24) j22_4)), (4, .int (r29_5.2 (a0 + 24) j34_6))]) (aLe_of (show (List.map (fun q => q.1) ([(0, .ref a0), (1, .int i1), (2, .int (r5_1.2 (a0 + 24) j10_2)), (3, .int (r17_3.2 (a0 + 24) j22_4)), (4, .int (r29_5.2 (a0 + 24) j34_6))] : ALv)).Nodup from (by show ([0, 1, 2, 3, 4] : List Nat).Nodup; decide)) (aSubL_cons rfl (aSubL_cons rfl (aSubL_cons rfl (aSubL_cons rfl (aSubL_cons rfl aSubL_nil)))))) ?_
        exact Tf293_b83 hd a0 ha0 i1 (r5_1.2 (a0 + 24) j10_2) (r17_3.2 (a0 + 24) j22_4) (r29_5.2 (a0 + 24) j34_6) (0 : Int32) r42_7.2 _ h
      · rw [if_neg (of_decide_eq_false hb)] at h
        refine go_ops aMi293 2 _ (f1 := (83, ([(4, .int (r29_5.2 (a0 + 24) j34_6)), (3, .int (r17_3.2 (a0 + 24) j22_4)), (2, .int (r5_1.2 (a0 + 24) j10_2)), (0, .ref a0), (1, .int i1)], [.int (1 : Int32)]))) rfl ?_
        refine go_le (lv1 := [(0, .ref a0), (1, .int i1), (2, .int (r5_1.2 (a0 + 24) j10_2)), (3, .int (r17_3.2 (a0 + 24) j22_4)), (4, .int (r29_5.2 (a0 + 24) j34_6))]) (aLe_of (show (List.map (fun q => q.1) ([(0, .ref a0), (1, .int i1), (2, .int (r5_1.2 (a0 + 24) j10_2)), (3, .int (r17_3.2 (a0 + 24) j22_4)), (4, .int (r29_5.2 (a0 + 24) j34_6))] : ALv)).Nodup from (by show ([0, 1, 2, 3, 4] : List Nat).Nodup; decide)) (aSubL_cons rfl (aSubL_cons rfl (aSubL_cons rfl (aSubL_cons rfl (aSubL_cons rfl aSubL_nil)))))) ?_
        exact Tf293_b83 hd a0 ha0 i1 (r5_1.2 (a0 + 24) j10_2) (r17_3.2 (a0 + 24) j22_4) (r29_5.2 (a0 + 24) j34_6) (1 : Int32) r42_7.2 _ h
  · rw [if_neg (of_decide_eq_false hb)] at h
    refine go_ops aMi293 1 _ (f1 := (50, ([(4, .int (r29_5.2 (a0 + 24) j34_6)), (3, .int (r17_3.2 (a0 + 24) j22_4)), (2, .int (r5_1.2 (a0 + 24) j10_2)), (0, .ref a0), (1, .int i1)], [.int (r5_1.2 (a0 + 24) j10_2)]))) rfl ?_
    refine gg_br (b := decide (¬ (r5_1.2 (a0 + 24) j10_2) = 0)) (tg := 66) (off := 16) aMi293 rfl rfl rfl rfl (fun hb => ?_) (fun hb => ?_)
    · rw [if_pos (of_decide_eq_true hb)] at h
      refine go_le (lv1 := []) (aLe_of (show (List.map (fun q => q.1) ([] : ALv)).Nodup from (by show ([] : List Nat).Nodup; decide)) aSubL_nil) ?_
      exact Tf293_b66 hd a0 ha0 r42_7.2 _ h
    · rw [if_neg (of_decide_eq_false hb)] at h
      refine go_ops aMi293 1 _ (f1 := (54, ([(4, .int (r29_5.2 (a0 + 24) j34_6)), (3, .int (r17_3.2 (a0 + 24) j22_4)), (2, .int (r5_1.2 (a0 + 24) j10_2)), (0, .ref a0), (1, .int i1)], [.int (r17_3.2 (a0 + 24) j22_4)]))) rfl ?_
      refine gg_br (b := decide (¬ (r17_3.2 (a0 + 24) j22_4) = 0)) (tg := 66) (off := 12) aMi293 rfl rfl rfl rfl (fun hb => ?_) (fun hb => ?_)
      · rw [if_pos (of_decide_eq_true hb)] at h
        refine go_le (lv1 := []) (aLe_of (show (List.map (fun q => q.1) ([] : ALv)).Nodup from (by show ([] : List Nat).Nodup; decide)) aSubL_nil) ?_
        exact Tf293_b66 hd a0 ha0 r42_7.2 _ h
      · rw [if_neg (of_decide_eq_false hb)] at h
        refine go_ops aMi293 1 _ (f1 := (59, ([(4, .int (r29_5.2 (a0 + 24) j34_6)), (3, .int (r17_3.2 (a0 + 24) j22_4)), (2, .int (r5_1.2 (a0 + 24) j10_2)), (0, .ref a0), (1, .int i1)], [.int (r29_5.2 (a0 + 24) j34_6)]))) rfl ?_
        refine gg_br (b := decide (¬ (r29_5.2 (a0 + 24) j34_6) = 0)) (tg := 66) (off := 7) aMi293 rfl rfl rfl rfl (fun hb => ?_) (fun hb => ?_)
        · rw [if_pos (of_decide_eq_true hb)] at h
          refine go_le (lv1 := []) (aLe_of (show (List.map (fun q => q.1) ([] : ALv)).Nodup from (by show ([] : List Nat).Nodup; decide)) aSubL_nil) ?_
          exact Tf293_b66 hd a0 ha0 r42_7.2 _ h
        · rw [if_neg (of_decide_eq_false hb)] at h
          refine go_ops aMi293 2 _ (f1 := (67, ([(4, .int (r29_5.2 (a0 + 24) j34_6)), (3, .int (r17_3.2 (a0 + 24) j22_4)), (2, .int (r5_1.2 (a0 + 24) j10_2)), (0, .ref a0), (1, .int i1)], [.int (1 : Int32)]))) rfl ?_
          refine go_le (lv1 := []) (aLe_of (show (List.map (fun q => q.1) ([] : ALv)).Nodup from (by show ([] : List Nat).Nodup; decide)) aSubL_nil) ?_
          exact Tf293_b67 hd a0 ha0 (1 : Int32) r42_7.2 _ h
