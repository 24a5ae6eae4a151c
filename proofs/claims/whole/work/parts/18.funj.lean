-- KernelGymModel.turns ([II)V
def f238 (kad : Nat → Nat) (N : Nat) (Z : AZ) (a0 : Nat) (i1 : Int32) (I : AI) : Option (Unit × AI) :=
  (lI Z I 100 a0 ((32 : Int32) + (i1 / (16 : Int32)))).bind fun x9_1 =>
  (sI Z I 100 a0 ((32 : Int32) + (i1 / (16 : Int32))) (x9_1 ^^^ ((1 : Int32) <<< ((i1 - i1 / (16 : Int32) * (16 : Int32)) &&& 31)))).bind fun I17_2 =>
  some ((), I17_2)
theorem Tf238 {kad : Nat → Nat} {N : Nat} {Z : AZ} {d : Nat} {t : Option Nat × (Nat × Nat)} (hd : 0 ≤ d) : ∀ (a0 : Nat) (i1 : Int32) (I : AI) (r : Unit × AI), f238 kad N Z a0 i1 I = some r → aGo kad d 238 (0, ([(0, .ref a0), (1, .int i1)], [])) (aMem Z I, t) (qV Z t r) := by
  intro a0 i1 I r h
  unfold f238 at h
  refine go_ops aMi238 7 _ (f1 := (9, ([(0, .ref a0), (1, .int i1)], [.int ((32 : Int32) + (i1 / (16 : Int32))), .ref a0, .int ((32 : Int32) + (i1 / (16 : Int32))), .ref a0]))) rfl ?_
  obtain ⟨x9_1, hxx9_1, h⟩ := Option.bind_eq_some_iff.mp h
  refine gg_lI (Or.inl ⟨rfl, rfl⟩) aMi238 rfl hxx9_1 ?_
  refine go_ops aMi238 6 _ (f1 := (17, ([(0, .ref a0), (1, .int i1)], [.int (x9_1 ^^^ ((1 : Int32) <<< ((i1 - i1 / (16 : Int32) * (16 : Int32)) &&& 31))), .int ((32 : Int32) + (i1 / (16 : Int32))), .ref a0]))) rfl ?_
  obtain ⟨I17_2, hxI17_2, h⟩ := Option.bind_eq_some_iff.mp h
  refine gg_sI (Or.inl ⟨rfl, rfl⟩) aMi238 rfl hxI17_2 ?_
  cases h
  exact go_ret aMi238 rfl rfl ⟨rfl, rfl⟩
-- KernelGymModel.appends (I)I
def f245_b92 (kad : Nat → Nat) (N : Nat) (Z : AZ) (a0 : Nat) (i1 : Int32) (i2 : Int32) (i3 : Int32) (I : AI) : Option (Int32 × AI) :=
  (gR Z I 11 51 a0).bind fun b94_1 =>
  (isK Z a0 11).bind fun u99_2 =>
  (f241 kad N Z a0 b94_1 i1 i2 I).bind fun r99_3 =>
  (gR Z r99_3.2 11 51 a0).bind fun b105_4 =>
  (gR Z r99_3.2 11 26 a0).bind fun b119_5 =>
  (lI Z r99_3.2 100 b119_5 (1 : Int32)).bind fun x123_6 =>
  (sI Z r99_3.2 100 b105_4 (((8 : Int32) * r99_3.1) + (i2 - i2 / (8 : Int32) * (8 : Int32))) x123_6).bind fun I124_7 =>
  (gR Z I124_7 11 51 a0).bind fun b126_8 =>
  (f235 kad N Z i1 I124_7).bind fun r130_9 =>
  (sI Z r130_9.2 100 b126_8 (r130_9.1 + (1 : Int32)) (i2 + (1 : Int32))).bind fun I138_10 =>
  some ((i3 ||| ((1 : Int32) <<< (r99_3.1 &&& 31))), I138_10)
theorem Tf245_b92 {kad : Nat → Nat} {N : Nat} {Z : AZ} {d : Nat} {t : Option Nat × (Nat × Nat)} (hd : 2 ≤ d) : ∀ (a0 : Nat) (i1 : Int32) (i2 : Int32) (i3 : Int32) (I : AI) (r : Int32 × AI), f245_b92 kad N Z a0 i1 i2 i3 I = some r → aGo kad d 245 (92, ([(0, .ref a0), (1, .int i1), (2, .int i2), (3, .int i3)], [])) (aMem Z I, t) (qI Z t r) := by
  intro a0 i1 i2 i3 I r h
  unfold f245_b92 at h
  refine go_ops aMi245 2 _ (f1 := (94, ([(0, .ref a0), (1, .int i1), (2, .int i2), (3, .int i3)], [.ref a0, .ref a0]))) rfl ?_
  obtain ⟨b94_1, hxb94_1, h⟩ := Option.bind_eq_some_iff.mp h
  refine gg_gR aMi245 rfl rfl rfl hxb94_1 ?_
  refine go_ops aMi245 2 _ (f1 := (99, ([(0, .ref a0), (1, .int i1), (2, .int i2), (3, .int i3)], [.int i2, .int i1, .ref b94_1, .ref a0]))) rfl ?_
  obtain ⟨u99_2, hxu99_2, h⟩ := Option.bind_eq_some_iff.mp h
  obtain ⟨r99_3, hxr99_3, h⟩ := Option.bind_eq_some_iff.mp h
  refine gg_cv (as := [.ref b94_1, .int i1, .int i2]) (r := []) aMi245 rfl rfl rfl aMi241 (Nat.le_of_ble_eq_true rfl) rfl (Nat.le_of_ble_eq_true rfl) (Nat.le_of_ble_eq_true rfl) (by omega) hxu99_2 (Tf241 (by omega) a0 b94_1 i1 i2 I _ hxr99_3) ?_
  show aGo kad d 245 (102, ([(0, .ref a0), (1, .int i1), (2, .int i2), (3, .int i3)], [.int r99_3.1])) (aMem Z r99_3.2, t) _
  refine go_ops aMi245 2 _ (f1 := (105, ([(4, .int r99_3.1), (0, .ref a0), (1, .int i1), (2, .int i2), (3, .int i3)], [.ref a0]))) rfl ?_
  obtain ⟨b105_4, hxb105_4, h⟩ := Option.bind_eq_some_iff.mp h
  refine gg_gR aMi245 rfl rfl rfl hxb105_4 ?_
  refine go_ops aMi245 8 _ (f1 := (119, ([(4, .int r99_3.1), (0, .ref a0), (1, .int i1), (2, .int i2), (3, .int i3)], [.ref a0, .int (((8 : Int32) * r99_3.1) + (i2 - i2 / (8 : Int32) * (8 : Int32))), .ref b105_4]))) rfl ?_
  obtain ⟨b119_5, hxb119_5, h⟩ := Option.bind_eq_some_iff.mp h
  refine gg_gR aMi245 rfl rfl rfl hxb119_5 ?_
  refine go_ops aMi245 1 _ (f1 := (123, ([(4, .int r99_3.1), (0, .ref a0), (1, .int i1), (2, .int i2), (3, .int i3)], [.int (1 : Int32), .ref b119_5, .int (((8 : Int32) * r99_3.1) + (i2 - i2 / (8 : Int32) * (8 : Int32))), .ref b105_4]))) rfl ?_
  obtain ⟨x123_6, hxx123_6, h⟩ := Option.bind_eq_some_iff.mp h
  refine gg_lI (Or.inl ⟨rfl, rfl⟩) aMi245 rfl hxx123_6 ?_
  obtain ⟨I124_7, hxI124_7, h⟩ := Option.bind_eq_some_iff.mp h
  refine gg_sI (Or.inl ⟨rfl, rfl⟩) aMi245 rfl hxI124_7 ?_
  refine go_ops aMi245 1 _ (f1 := (126, ([(4, .int r99_3.1), (0, .ref a0), (1, .int i1), (2, .int i2), (3, .int i3)], [.ref a0]))) rfl ?_
  obtain ⟨b126_8, hxb126_8, h⟩ := Option.bind_eq_some_iff.mp h
  refine gg_gR aMi245 rfl rfl rfl hxb126_8 ?_
  refine go_ops aMi245 1 _ (f1 := (130, ([(4, .int r99_3.1), (0, .ref a0), (1, .int i1), (2, .int i2), (3, .int i3)], [.int i1, .ref b126_8]))) rfl ?_
  obtain ⟨r130_9, hxr130_9, h⟩ := Option.bind_eq_some_iff.mp h
  refine gg_cs (as := [.int i1]) (r := [.ref b126_8]) aMi245 rfl rfl rfl aMi235 rfl (Nat.le_of_ble_eq_true rfl) (Nat.le_of_ble_eq_true rfl) (by omega) (Tf235 (by omega) i1 I124_7 _ hxr130_9) ?_
  show aGo kad d 245 (133, ([(4, .int r99_3.1), (0, .ref a0), (1, .int i1), (2, .int i2), (3, .int i3)], [.int r130_9.1, .ref b126_8])) (aMem Z r130_9.2, t) _
  refine go_ops aMi245 5 _ (f1 := (138, ([(4, .int r99_3.1), (0, .ref a0), (1, .int i1), (2, .int i2), (3, .int i3)], [.int (i2 + (1 : Int32)), .int (r130_9.1 + (1 : Int32)), .ref b126_8]))) rfl ?_
  obtain ⟨I138_10, hxI138_10, h⟩ := Option.bind_eq_some_iff.mp h
  refine gg_sI (Or.inl ⟨rfl, rfl⟩) aMi245 rfl hxI138_10 ?_
  refine go_ops aMi245 5 _ (f1 := (145, ([(4, .int r99_3.1), (0, .ref a0), (1, .int i1), (2, .int i2), (3, .int i3)], [.int (i3 ||| ((1 : Int32) <<< (r99_3.1 &&& 31)))]))) rfl ?_
  cases h
  exact go_ret aMi245 rfl aRetI ⟨rfl, rfl⟩
def f245_b60 (kad : Nat → Nat) (N : Nat) (Z : AZ) : Nat → Nat → Int32 → Int32 → Int32 → Int32 → Int32 → AI → Option (Int32 × AI)
  | 0, _, _, _, _, _, _, _ => none
  | F + 1, a0, i1, i2, i3, i4, i5, I =>
    if (8 : Int32) ≤ i5 then
      f245_b92 kad N Z a0 i1 i2 (i3 ||| (16 : Int32)) I
    else
      (gR Z I 11 51 a0).bind fun b68_1 =>
      (sI Z I 100 b68_1 (((8 : Int32) * i4) + i5) (0 : Int32)).bind fun I80_2 =>
      f245_b60 kad N Z F a0 i1 i2 i3 i4 (i5 + (1 : Int32)) I80_2
theorem Tf245_b60 {kad : Nat → Nat} {N : Nat} {Z : AZ} {d : Nat} {t : Option Nat × (Nat × Nat)} (hd : 2 ≤ d) : ∀ (F : Nat) (a0 : Nat) (i1 : Int32) (i2 : Int32) (i3 : Int32) (i4 : Int32) (i5 : Int32) (I : AI) (r : Int32 × AI), f245_b60 kad N Z F a0 i1 i2 i3 i4 i5 I = some r → aGo kad d 245 (60, ([(0, .ref a0), (1, .int i1), (2, .int i2), (3, .int i3), (4, .int i4), (5, .int i5)], [])) (aMem Z I, t) (qI Z t r) := by
  intro F
  induction F with
  | zero => intro a0 i1 i2 i3 i4 i5 I r h; cases h
  | succ F ih =>
    intro a0 i1 i2 i3 i4 i5 I r h
    unfold f245_b60 at h
    refine go_ops aMi245 2 _ (f1 := (64, ([(0, .ref a0), (1, .int i1), (2, .int i2), (3, .int i3), (4, .int i4), (5, .int i5)], [.int (8 : Int32), .int i5]))) rfl ?_
    refine gg_br (b := decide ((8 : Int32) ≤ i5)) (tg := 87) (off := 23) aMi245 rfl rfl rfl rfl (fun hb => ?_) (fun hb => ?_)
    · rw [if_pos (of_decide_eq_true hb)] at h
      refine go_ops aMi245 4 _ (f1 := (92, ([(3, .int (i3 ||| (16 : Int32))), (0, .ref a0), (1, .int i1), (2, .int i2), (4, .int i4), (5, .int i5)], []))) rfl ?_
      refine go_le (lv1 := [(0, .ref a0), (1, .int i1), (2, .int i2), (3, .int (i3 ||| (16 : Int32)))]) (aLe_of (show (List.map (fun q => q.1) ([(0, .ref a0), (1, .int i1), (2, .int i2), (3, .int (i3 ||| (16 : Int32)))] : ALv)).Nodup from (by show ([0, 1, 2, 3] : List Nat).Nodup; decide)) (aSubL_cons rfl (aSubL_cons rfl (aSubL_cons rfl (aSubL_cons rfl aSubL_nil))))) ?_
      exact Tf245_b92 hd a0 i1 i2 (i3 ||| (16 : Int32)) I _ h
    · rw [if_neg (of_decide_eq_false hb)] at h
      refine go_ops aMi245 1 _ (f1 := (68, ([(0, .ref a0), (1, .int i1), (2, .int i2), (3, .int i3), (4, .int i4), (5, .int i5)], [.ref a0]))) rfl ?_
      obtain ⟨b68_1, hxb68_1, h⟩ := Option.bind_eq_some_iff.mp h
      refine gg_gR aMi245 rfl rfl rfl hxb68_1 ?_
      refine go_ops aMi245 6 _ (f1 := (80, ([(0, .ref a0), (1, .int i1), (2, .int i2), (3, .int i3), (4, .int i4), (5, .int i5)], [.int (0 : Int32), .int (((8 : Int32) * i4) + i5), .ref b68_1]))) rfl ?_
      obtain ⟨I80_2, hxI80_2, h⟩ := Option.bind_eq_some_iff.mp h
      refine gg_sI (Or.inl ⟨rfl, rfl⟩) aMi245 rfl hxI80_2 ?_
      refine go_ops aMi245 2 _ (f1 := (60, ([(5, .int (i5 + (1 : Int32))), (0, .ref a0), (1, .int i1), (2, .int i2), (3, .int i3), (4, .int i4)], []))) rfl ?_
      refine go_le (lv1 := [(0, .ref a0), (1, .int i1), (2, .int i2), (3, .int i3), (4, .int i4), (5, .int (i5 + (1 : Int32)))]) (aLe_of (show (List.map (fun q => q.1) ([(0, .ref a0), (1, .int i1), (2, .int i2), (3, .int i3), (4, .int i4), (5, .int (i5 + (1 : Int32)))] : ALv)).Nodup from (by show ([0, 1, 2, 3, 4, 5] : List Nat).Nodup; decide)) (aSubL_cons rfl (aSubL_cons rfl (aSubL_cons rfl (aSubL_cons rfl (aSubL_cons rfl (aSubL_cons rfl aSubL_nil))))))) ?_
      exact ih a0 i1 i2 i3 i4 (i5 + (1 : Int32)) I80_2 _ h
def f245 (kad : Nat → Nat) (N : Nat) (Z : AZ) (a0 : Nat) (i1 : Int32) (I : AI) : Option (Int32 × AI) :=
  (gR Z I 11 51 a0).bind fun b1_1 =>
  (f235 kad N Z i1 I).bind fun r5_2 =>
  (lI Z r5_2.2 100 b1_1 (r5_2.1 + (1 : Int32))).bind fun x10_3 =>
  (f243 kad N Z i1 r5_2.2).bind fun r13_4 =>
  if ¬ (x10_3 - x10_3 / (8 : Int32) * (8 : Int32)) = 0 then
    f245_b92 kad N Z a0 i1 x10_3 r13_4.1 r13_4.2
  else
    (isK Z a0 11).bind fun u25_5 =>
    (f239 kad N Z a0 r13_4.2).bind fun r25_6 =>
    (gR Z r25_6.2 11 51 a0).bind fun b31_7 =>
    (f238 kad N Z b31_7 r25_6.1 r25_6.2).bind fun r36_8 =>
    (gR Z r36_8.2 11 51 a0).bind fun b40_9 =>
    (f235 kad N Z i1 r36_8.2).bind fun r44_10 =>
    (sI Z r44_10.2 100 b40_9 ((r44_10.1 + (2 : Int32)) + (x10_3 / (8 : Int32))) r25_6.1).bind fun I56_11 =>
    f245_b60 kad N Z N a0 i1 x10_3 r13_4.1 r25_6.1 (0 : Int32) I56_11
theorem Tf245 {kad : Nat → Nat} {N : Nat} {Z : AZ} {d : Nat} {t : Option Nat × (Nat × Nat)} (hd : 2 ≤ d) : ∀ (a0 : Nat) (i1 : Int32) (I : AI) (r : Int32 × AI), f245 kad N Z a0 i1 I = some r → aGo kad d 245 (0, ([(0, .ref a0), (1, .int i1)], [])) (aMem Z I, t) (qI Z t r) := by
  intro a0 i1 I r h
  unfold f245 at h
  refine go_ops aMi245 1 _ (f1 := (1, ([(0, .ref a0), (1, .int i1)], [.ref a0]))) rfl ?_
  obtain ⟨b1_1, hxb1_1, h⟩ := Option.bind_eq_some_iff.mp h
  refine gg_gR aMi245 rfl rfl rfl hxb1_1 ?_
  refine go_ops aMi245 1 _ (f1 := (5, ([(0, .ref a0), (1, .int i1)], [.int i1, .ref b1_1]))) rfl ?_
  obtain ⟨r5_2, hxr5_2, h⟩ := Option.bind_eq_some_iff.mp h
  refine gg_cs (as := [.int i1]) (r := [.ref b1_1]) aMi245 rfl rfl rfl aMi235 rfl (Nat.le_of_ble_eq_true rfl) (Nat.le_of_ble_eq_true rfl) (by omega) (Tf235 (by omega) i1 I _ hxr5_2) ?_
  show aGo kad d 245 (8, ([(0, .ref a0), (1, .int i1)], [.int r5_2.1, .ref b1_1])) (aMem Z r5_2.2, t) _
  refine go_ops aMi245 2 _ (f1 := (10, ([(0, .ref a0), (1, .int i1)], [.int (r5_2.1 + (1 : Int32)), .ref b1_1]))) rfl ?_
  obtain ⟨x10_3, hxx10_3, h⟩ := Option.bind_eq_some_iff.mp h
  refine gg_lI (Or.inl ⟨rfl, rfl⟩) aMi245 rfl hxx10_3 ?_
  refine go_ops aMi245 2 _ (f1 := (13, ([(2, .int x10_3), (0, .ref a0), (1, .int i1)], [.int i1]))) rfl ?_
  obtain ⟨r13_4, hxr13_4, h⟩ := Option.bind_eq_some_iff.mp h
  refine gg_cs (as := [.int i1]) (r := []) aMi245 rfl rfl rfl aMi243 rfl (Nat.le_of_ble_eq_true rfl) (Nat.le_of_ble_eq_true rfl) (by omega) (Tf243 (by omega) i1 r5_2.2 _ hxr13_4) ?_
  show aGo kad d 245 (16, ([(2, .int x10_3), (0, .ref a0), (1, .int i1)], [.int r13_4.1])) (aMem Z r13_4.2, t) _
  refine go_ops aMi245 4 _ (f1 := (21, ([(3, .int r13_4.1), (2, .int x10_3), (0, .ref a0), (1, .int i1)], [.int (x10_3 - x10_3 / (8 : Int32) * (8 : Int32))]))) rfl ?_
  refine gg_br (b := decide (¬ (x10_3 - x10_3 / (8 : Int32) * (8 : Int32)) = 0)) (tg := 92) (off := 71) aMi245 rfl rfl rfl rfl (fun hb => ?_) (fun hb => ?_)
  · rw [if_pos (of_decide_eq_true hb)] at h
    refine go_le (lv1 := [(0, .ref a0), (1, .int i1), (2, .int x10_3), (3, .int r13_4.1)]) (aLe_of (show (List.map (fun q => q.1) ([(0, .ref a0), (1, .int i1), (2, .int x10_3), (3, .int r13_4.1)] : ALv)).Nodup from (by show ([0, 1, 2, 3] : List Nat).Nodup; decide)) (aSubL_cons rfl (aSubL_cons rfl (aSubL_cons rfl (aSubL_cons rfl aSubL_nil))))) ?_
    exact Tf245_b92 hd a0 i1 x10_3 r13_4.1 r13_4.2 _ h
  · rw [if_neg (of_decide_eq_false hb)] at h
    refine go_ops aMi245 1 _ (f1 := (25, ([(3, .int r13_4.1), (2, .int x10_3), (0, .ref a0), (1, .int i1)], [.ref a0]))) rfl ?_
    obtain ⟨u25_5, hxu25_5, h⟩ := Option.bind_eq_some_iff.mp h
    obtain ⟨r25_6, hxr25_6, h⟩ := Option.bind_eq_some_iff.mp h
    refine gg_cv (as := []) (r := []) aMi245 rfl rfl rfl aMi239 (Nat.le_of_ble_eq_true rfl) rfl (Nat.le_of_ble_eq_true rfl) (Nat.le_of_ble_eq_true rfl) (by omega) hxu25_5 (Tf239 (by omega) a0 r13_4.2 _ hxr25_6) ?_
    show aGo kad d 245 (28, ([(3, .int r13_4.1), (2, .int x10_3), (0, .ref a0), (1, .int i1)], [.int r25_6.1])) (aMem Z r25_6.2, t) _
    refine go_ops aMi245 2 _ (f1 := (31, ([(4, .int r25_6.1), (3, .int r13_4.1), (2, .int x10_3), (0, .ref a0), (1, .int i1)], [.ref a0]))) rfl ?_
    obtain ⟨b31_7, hxb31_7, h⟩ := Option.bind_eq_some_iff.mp h
    refine gg_gR aMi245 rfl rfl rfl hxb31_7 ?_
    refine go_ops aMi245 1 _ (f1 := (36, ([(4, .int r25_6.1), (3, .int r13_4.1), (2, .int x10_3), (0, .ref a0), (1, .int i1)], [.int r25_6.1, .ref b31_7]))) rfl ?_
    obtain ⟨r36_8, hxr36_8, h⟩ := Option.bind_eq_some_iff.mp h
    refine gg_cs (as := [.ref b31_7, .int r25_6.1]) (r := []) aMi245 rfl rfl rfl aMi238 rfl (Nat.le_of_ble_eq_true rfl) (Nat.le_of_ble_eq_true rfl) (by omega) (Tf238 (by omega) b31_7 r25_6.1 r25_6.2 _ hxr36_8) ?_
    show aGo kad d 245 (39, ([(4, .int r25_6.1), (3, .int r13_4.1), (2, .int x10_3), (0, .ref a0), (1, .int i1)], [])) (aMem Z r36_8.2, t) _
    refine go_ops aMi245 1 _ (f1 := (40, ([(4, .int r25_6.1), (3, .int r13_4.1), (2, .int x10_3), (0, .ref a0), (1, .int i1)], [.ref a0]))) rfl ?_
    obtain ⟨b40_9, hxb40_9, h⟩ := Option.bind_eq_some_iff.mp h
    refine gg_gR aMi245 rfl rfl rfl hxb40_9 ?_
    refine go_ops aMi245 1 _ (f1 := (44, ([(4, .int r25_6.1), (3, .int r13_4.1), (2, .int x10_3), (0, .ref a0), (1, .int i1)], [.int i1, .ref b40_9]))) rfl ?_
    obtain ⟨r44_10, hxr44_10, h⟩ := Option.bind_eq_some_iff.mp h
    refine gg_cs (as := [.int i1]) (r := [.ref b40_9]) aMi245 rfl rfl rfl aMi235 rfl (Nat.le_of_ble_eq_true rfl) (Nat.le_of_ble_eq_true rfl) (by omega) (Tf235 (by omega) i1 r36_8.2 _ hxr44_10) ?_
    show aGo kad d 245 (47, ([(4, .int r25_6.1), (3, .int r13_4.1), (2, .int x10_3), (0, .ref a0), (1, .int i1)], [.int r44_10.1, .ref b40_9])) (aMem Z r44_10.2, t) _
    refine go_ops aMi245 7 _ (f1 := (56, ([(4, .int r25_6.1), (3, .int r13_4.1), (2, .int x10_3), (0, .ref a0), (1, .int i1)], [.int r25_6.1, .int ((r44_10.1 + (2 : Int32)) + (x10_3 / (8 : Int32))), .ref b40_9]))) rfl ?_
    obtain ⟨I56_11, hxI56_11, h⟩ := Option.bind_eq_some_iff.mp h
    refine gg_sI (Or.inl ⟨rfl, rfl⟩) aMi245 rfl hxI56_11 ?_
    refine go_ops aMi245 2 _ (f1 := (60, ([(5, .int (0 : Int32)), (4, .int r25_6.1), (3, .int r13_4.1), (2, .int x10_3), (0, .ref a0), (1, .int i1)], []))) rfl ?_
    refine go_le (lv1 := [(0, .ref a0), (1, .int i1), (2, .int x10_3), (3, .int r13_4.1), (4, .int r25_6.1), (5, .int (0 : Int32))]) (aLe_of (show (List.map (fun q => q.1) ([(0, .ref a0), (1, .int i1), (2, .int x10_3), (3, .int r13_4.1), (4, .int r25_6.1), (5, .int (0 : Int32))] : ALv)).Nodup from (by show ([0, 1, 2, 3, 4, 5] : List Nat).Nodup; decide)) (aSubL_cons rfl (aSubL_cons rfl (aSubL_cons rfl (aSubL_cons rfl (aSubL_cons rfl (aSubL_cons rfl aSubL_nil))))))) ?_
    exact Tf245_b60 hd N a0 i1 x10_3 r13_4.1 r25_6.1 (0 : Int32) I56_11 _ h
-- KernelGymModel.replaces (I)I
def f246 (kad : Nat → Nat) (N : Nat) (Z : AZ) (a0 : Nat) (i1 : Int32) (I : AI) : Option (Int32 × AI) :=
  (gR Z I 11 51 a0).bind fun b2_1 =>
  (gR Z I 11 26 a0).bind fun b7_2 =>
  (lI Z I 100 b7_2 (1 : Int32)).bind fun x11_3 =>
  (isK Z a0 11).bind fun u12_4 =>
  (f241 kad N Z a0 b2_1 i1 x11_3 I).bind fun r12_5 =>
  (gR Z r12_5.2 11 51 a0).bind fun b17_6 =>
  (gR Z r12_5.2 11 26 a0).bind fun b25_7 =>
  (lI Z r12_5.2 100 b25_7 (1 : Int32)).bind fun x29_8 =>
  (gR Z r12_5.2 11 26 a0).bind fun b35_9 =>
  (lI Z r12_5.2 100 b35_9 (2 : Int32)).bind fun x39_10 =>
  (sI Z r12_5.2 100 b17_6 (((8 : Int32) * r12_5.1) + (x29_8 - x29_8 / (8 : Int32) * (8 : Int32))) x39_10).bind fun I40_11 =>
  some (((1 : Int32) <<< (r12_5.1 &&& 31)), I40_11)
theorem Tf246 {kad : Nat → Nat} {N : Nat} {Z : AZ} {d : Nat} {t : Option Nat × (Nat × Nat)} (hd : 2 ≤ d) : ∀ (a0 : Nat) (i1 : Int32) (I : AI) (r : Int32 × AI), f246 kad N Z a0 i1 I = some r → aGo kad d 246 (0, ([(0, .ref a0), (1, .int i1)], [])) (aMem Z I, t) (qI Z t r) := by
  intro a0 i1 I r h
  unfold f246 at h
  refine go_ops aMi246 2 _ (f1 := (2, ([(0, .ref a0), (1, .int i1)], [.ref a0, .ref a0]))) rfl ?_
  obtain ⟨b2_1, hxb2_1, h⟩ := Option.bind_eq_some_iff.mp h
  refine gg_gR aMi246 rfl rfl rfl hxb2_1 ?_
  refine go_ops aMi246 2 _ (f1 := (7, ([(0, .ref a0), (1, .int i1)], [.ref a0, .int i1, .ref b2_1, .ref a0]))) rfl ?_
  obtain ⟨b7_2, hxb7_2, h⟩ := Option.bind_eq_some_iff.mp h
  refine gg_gR aMi246 rfl rfl rfl hxb7_2 ?_
  refine go_ops aMi246 1 _ (f1 := (11, ([(0, .ref a0), (1, .int i1)], [.int (1 : Int32), .ref b7_2, .int i1, .ref b2_1, .ref a0]))) rfl ?_
  obtain ⟨x11_3, hxx11_3, h⟩ := Option.bind_eq_some_iff.mp h
  refine gg_lI (Or.inl ⟨rfl, rfl⟩) aMi246 rfl hxx11_3 ?_
  obtain ⟨u12_4, hxu12_4, h⟩ := Option.bind_eq_some_iff.mp h
  obtain ⟨r12_5, hxr12_5, h⟩ := Option.bind_eq_some_iff.mp h
  refine gg_cv (as := [.ref b2_1, .int i1, .int x11_3]) (r := []) aMi246 rfl rfl rfl aMi241 (Nat.le_of_ble_eq_true rfl) rfl (Nat.le_of_ble_eq_true rfl) (Nat.le_of_ble_eq_true rfl) (by omega) hxu12_4 (Tf241 (by omega) a0 b2_1 i1 x11_3 I _ hxr12_5) ?_
  show aGo kad d 246 (15, ([(0, .ref a0), (1, .int i1)], [.int r12_5.1])) (aMem Z r12_5.2, t) _
  refine go_ops aMi246 2 _ (f1 := (17, ([(2, .int r12_5.1), (0, .ref a0), (1, .int i1)], [.ref a0]))) rfl ?_
  obtain ⟨b17_6, hxb17_6, h⟩ := Option.bind_eq_some_iff.mp h
  refine gg_gR aMi246 rfl rfl rfl hxb17_6 ?_
  refine go_ops aMi246 4 _ (f1 := (25, ([(2, .int r12_5.1), (0, .ref a0), (1, .int i1)], [.ref a0, .int ((8 : Int32) * r12_5.1), .ref b17_6]))) rfl ?_
  obtain ⟨b25_7, hxb25_7, h⟩ := Option.bind_eq_some_iff.mp h
  refine gg_gR aMi246 rfl rfl rfl hxb25_7 ?_
  refine go_ops aMi246 1 _ (f1 := (29, ([(2, .int r12_5.1), (0, .ref a0), (1, .int i1)], [.int (1 : Int32), .ref b25_7, .int ((8 : Int32) * r12_5.1), .ref b17_6]))) rfl ?_
  obtain ⟨x29_8, hxx29_8, h⟩ := Option.bind_eq_some_iff.mp h
  refine gg_lI (Or.inl ⟨rfl, rfl⟩) aMi246 rfl hxx29_8 ?_
  refine go_ops aMi246 4 _ (f1 := (35, ([(2, .int r12_5.1), (0, .ref a0), (1, .int i1)], [.ref a0, .int (((8 : Int32) * r12_5.1) + (x29_8 - x29_8 / (8 : Int32) * (8 : Int32))), .ref b17_6]))) rfl ?_
  obtain ⟨b35_9, hxb35_9, h⟩ := Option.bind_eq_some_iff.mp h
  refine gg_gR aMi246 rfl rfl rfl hxb35_9 ?_
  refine go_ops aMi246 1 _ (f1 := (39, ([(2, .int r12_5.1), (0, .ref a0), (1, .int i1)], [.int (2 : Int32), .ref b35_9, .int (((8 : Int32) * r12_5.1) + (x29_8 - x29_8 / (8 : Int32) * (8 : Int32))), .ref b17_6]))) rfl ?_
  obtain ⟨x39_10, hxx39_10, h⟩ := Option.bind_eq_some_iff.mp h
  refine gg_lI (Or.inl ⟨rfl, rfl⟩) aMi246 rfl hxx39_10 ?_
  obtain ⟨I40_11, hxI40_11, h⟩ := Option.bind_eq_some_iff.mp h
  refine gg_sI (Or.inl ⟨rfl, rfl⟩) aMi246 rfl hxI40_11 ?_
  refine go_ops aMi246 3 _ (f1 := (44, ([(2, .int r12_5.1), (0, .ref a0), (1, .int i1)], [.int ((1 : Int32) <<< (r12_5.1 &&& 31))]))) rfl ?_
  cases h
  exact go_ret aMi246 rfl aRetI ⟨rfl, rfl⟩
-- KernelGymModel.removes (I)I
def f247_b44 (kad : Nat → Nat) (N : Nat) (Z : AZ) (k7 : Nat → Int32 → Int32 → Int32 → AI → Option (Int32 × AI)) (a0 : Nat) (i1 : Int32) (i2 : Int32) (i3 : Int32) (I : AI) : Option (Int32 × AI) :=
  k7 a0 i1 i2 (i3 + (1 : Int32)) I
theorem Tf247_b44 {kad : Nat → Nat} {N : Nat} {Z : AZ} {d : Nat} {t : Option Nat × (Nat × Nat)} (hd : 1 ≤ d) (k7 : Nat → Int32 → Int32 → Int32 → AI → Option (Int32 × AI))  (hk7 : ∀ (a0 : Nat) (i1 : Int32) (i2 : Int32) (i3 : Int32)  (I : AI) (r : Int32 × AI), k7 a0 i1 i2 i3 I = some r → aGo kad d 247 (7, ([(0, .ref a0), (1, .int i1), (2, .int i2), (3, .int i3)], [])) (aMem Z I, t) (qI Z t r)) : ∀ (a0 : Nat) (i1 : Int32) (i2 : Int32) (i3 : Int32) (I : AI) (r : Int32 × AI), f247_b44 kad N Z k7 a0 i1 i2 i3 I = some r → aGo kad d 247 (44, ([(0, .ref a0), (1, .int i1), (2, .int i2), (3, .int i3)], [])) (aMem Z I, t) (qI Z t r) := by
  intro a0 i1 i2 i3 I r h
  unfold f247_b44 at h
  refine go_ops aMi247 2 _ (f1 := (7, ([(3, .int (i3 + (1 : Int32))), (0, .ref a0), (1, .int i1), (2, .int i2)], []))) rfl ?_
  refine go_le (lv1 := [(0, .ref a0), (1, .int i1), (2, .int i2), (3, .int (i3 + (1 : Int32)))]) (aLe_of (show (List.map (fun q => q.1) ([(0, .ref a0), (1, .int i1), (2, .int i2), (3, .int (i3 + (1 : Int32)))] : ALv)).Nodup from (by show ([0, 1, 2, 3] : List Nat).Nodup; decide)) (aSubL_cons rfl (aSubL_cons rfl (aSubL_cons rfl (aSubL_cons rfl aSubL_nil))))) ?_
  exact hk7 a0 i1 i2 (i3 + (1 : Int32)) I _ h
def f247_b52 (kad : Nat → Nat) (N : Nat) (Z : AZ) : Nat → Nat → Int32 → Int32 → Int32 → AI → Option (Int32 × AI)
  | 0, _, _, _, _, _ => none
  | F + 1, a0, i1, i2, i3, I =>
    if (4 : Int32) ≤ i3 then
      some (i2, I)
    else
      (gR Z I 11 51 a0).bind fun b58_1 =>
      (f235 kad N Z i1 I).bind fun r62_2 =>
      (sI Z r62_2.2 100 b58_1 (r62_2.1 + i3) (0 : Int32)).bind fun I68_3 =>
      f247_b52 kad N Z F a0 i1 i2 (i3 + (1 : Int32)) I68_3
theorem Tf247_b52 {kad : Nat → Nat} {N : Nat} {Z : AZ} {d : Nat} {t : Option Nat × (Nat × Nat)} (hd : 1 ≤ d) : ∀ (F : Nat) (a0 : Nat) (i1 : Int32) (i2 : Int32) (i3 : Int32) (I : AI) (r : Int32 × AI), f247_b52 kad N Z F a0 i1 i2 i3 I = some r → aGo kad d 247 (52, ([(0, .ref a0), (1, .int i1), (2, .int i2), (3, .int i3)], [])) (aMem Z I, t) (qI Z t r) := by
  intro F
  induction F with
  | zero => intro a0 i1 i2 i3 I r h; cases h
  | succ F ih =>
    intro a0 i1 i2 i3 I r h
    unfold f247_b52 at h
    refine go_ops aMi247 2 _ (f1 := (54, ([(0, .ref a0), (1, .int i1), (2, .int i2), (3, .int i3)], [.int (4 : Int32), .int i3]))) rfl ?_
    refine gg_br (b := decide ((4 : Int32) ≤ i3)) (tg := 75) (off := 21) aMi247 rfl rfl rfl rfl (fun hb => ?_) (fun hb => ?_)
    · rw [if_pos (of_decide_eq_true hb)] at h
      refine go_ops aMi247 1 _ (f1 := (76, ([(0, .ref a0), (1, .int i1), (2, .int i2), (3, .int i3)], [.int i2]))) rfl ?_
      cases h
      exact go_ret aMi247 rfl aRetI ⟨rfl, rfl⟩
    · rw [if_neg (of_decide_eq_false hb)] at h
      refine go_ops aMi247 1 _ (f1 := (58, ([(0, .ref a0), (1, .int i1), (2, .int i2), (3, .int i3)], [.ref a0]))) rfl ?_
      obtain ⟨b58_1, hxb58_1, h⟩ := Option.bind_eq_some_iff.mp h
      refine gg_gR aMi247 rfl rfl rfl hxb58_1 ?_
      refine go_ops aMi247 1 _ (f1 := (62, ([(0, .ref a0), (1, .int i1), (2, .int i2), (3, .int i3)], [.int i1, .ref b58_1]))) rfl ?_
      obtain ⟨r62_2, hxr62_2, h⟩ := Option.bind_eq_some_iff.mp h
      refine gg_cs (as := [.int i1]) (r := [.ref b58_1]) aMi247 rfl rfl rfl aMi235 rfl (Nat.le_of_ble_eq_true rfl) (Nat.le_of_ble_eq_true rfl) (by omega) (Tf235 (by omega) i1 I _ hxr62_2) ?_
      show aGo kad d 247 (65, ([(0, .ref a0), (1, .int i1), (2, .int i2), (3, .int i3)], [.int r62_2.1, .ref b58_1])) (aMem Z r62_2.2, t) _
      refine go_ops aMi247 3 _ (f1 := (68, ([(0, .ref a0), (1, .int i1), (2, .int i2), (3, .int i3)], [.int (0 : Int32), .int (r62_2.1 + i3), .ref b58_1]))) rfl ?_
      obtain ⟨I68_3, hxI68_3, h⟩ := Option.bind_eq_some_iff.mp h
      refine gg_sI (Or.inl ⟨rfl, rfl⟩) aMi247 rfl hxI68_3 ?_
      refine go_ops aMi247 2 _ (f1 := (52, ([(3, .int (i3 + (1 : Int32))), (0, .ref a0), (1, .int i1), (2, .int i2)], []))) rfl ?_
      refine go_le (lv1 := [(0, .ref a0), (1, .int i1), (2, .int i2), (3, .int (i3 + (1 : Int32)))]) (aLe_of (show (List.map (fun q => q.1) ([(0, .ref a0), (1, .int i1), (2, .int i2), (3, .int (i3 + (1 : Int32)))] : ALv)).Nodup from (by show ([0, 1, 2, 3] : List Nat).Nodup; decide)) (aSubL_cons rfl (aSubL_cons rfl (aSubL_cons rfl (aSubL_cons rfl aSubL_nil))))) ?_
      exact ih a0 i1 i2 (i3 + (1 : Int32)) I68_3 _ h
def f247_b7 (kad : Nat → Nat) (N : Nat) (Z : AZ) : Nat → Nat → Int32 → Int32 → Int32 → AI → Option (Int32 × AI)
  | 0, _, _, _, _, _ => none
  | F + 1, a0, i1, i2, i3, I =>
    if (4 : Int32) ≤ i3 then
      f247_b52 kad N Z N a0 i1 i2 (0 : Int32) I
    else
      (gR Z I 11 51 a0).bind fun b13_1 =>
      (f235 kad N Z i1 I).bind fun r17_2 =>
      (lI Z r17_2.2 100 b13_1 (r17_2.1 + i3)).bind fun x22_3 =>
      if x22_3 = 0 then
        f247_b44 kad N Z (fun p0 p1 p2 p3 I => f247_b7 kad N Z F p0 p1 p2 p3 I) a0 i1 i2 i3 r17_2.2
      else
        (gR Z r17_2.2 11 51 a0).bind fun b31_4 =>
        (f238 kad N Z b31_4 x22_3 r17_2.2).bind fun r36_5 =>
        f247_b44 kad N Z (fun p0 p1 p2 p3 I => f247_b7 kad N Z F p0 p1 p2 p3 I) a0 i1 (i2 ||| (16 : Int32)) i3 r36_5.2
theorem Tf247_b7 {kad : Nat → Nat} {N : Nat} {Z : AZ} {d : Nat} {t : Option Nat × (Nat × Nat)} (hd : 1 ≤ d) : ∀ (F : Nat) (a0 : Nat) (i1 : Int32) (i2 : Int32) (i3 : Int32) (I : AI) (r : Int32 × AI), f247_b7 kad N Z F a0 i1 i2 i3 I = some r → aGo kad d 247 (7, ([(0, .ref a0), (1, .int i1), (2, .int i2), (3, .int i3)], [])) (aMem Z I, t) (qI Z t r) := by
  intro F
  induction F with
  | zero => intro a0 i1 i2 i3 I r h; cases h
  | succ F ih =>
    intro a0 i1 i2 i3 I r h
    unfold f247_b7 at h
    refine go_ops aMi247 2 _ (f1 := (9, ([(0, .ref a0), (1, .int i1), (2, .int i2), (3, .int i3)], [.int (4 : Int32), .int i3]))) rfl ?_
    refine gg_br (b := decide ((4 : Int32) ≤ i3)) (tg := 50) (off := 41) aMi247 rfl rfl rfl rfl (fun hb => ?_) (fun hb => ?_)
    · rw [if_pos (of_decide_eq_true hb)] at h
      refine go_ops aMi247 2 _ (f1 := (52, ([(3, .int (0 : Int32)), (0, .ref a0), (1, .int i1), (2, .int i2)], []))) rfl ?_
      refine go_le (lv1 := [(0, .ref a0), (1, .int i1), (2, .int i2), (3, .int (0 : Int32))]) (aLe_of (show (List.map (fun q => q.1) ([(0, .ref a0), (1, .int i1), (2, .int i2), (3, .int (0 : Int32))] : ALv)).Nodup from (by show ([0, 1, 2, 3] : List Nat).Nodup; decide)) (aSubL_cons rfl (aSubL_cons rfl (aSubL_cons rfl (aSubL_cons rfl aSubL_nil))))) ?_
      exact Tf247_b52 hd N a0 i1 i2 (0 : Int32) I _ h
    · rw [if_neg (of_decide_eq_false hb)] at h
      refine go_ops aMi247 1 _ (f1 := (13, ([(0, .ref a0), (1, .int i1), (2, .int i2), (3, .int i3)], [.ref a0]))) rfl ?_
      obtain ⟨b13_1, hxb13_1, h⟩ := Option.bind_eq_some_iff.mp h
      refine gg_gR aMi247 rfl rfl rfl hxb13_1 ?_
      refine go_ops aMi247 1 _ (f1 := (17, ([(0, .ref a0), (1, .int i1), (2, .int i2), (3, .int i3)], [.int i1, .ref b13_1]))) rfl ?_
      obtain ⟨r17_2, hxr17_2, h⟩ := Option.bind_eq_some_iff.mp h
      refine gg_cs (as := [.int i1]) (r := [.ref b13_1]) aMi247 rfl rfl rfl aMi235 rfl (Nat.le_of_ble_eq_true rfl) (Nat.le_of_ble_eq_true rfl) (by omega) (Tf235 (by omega) i1 I _ hxr17_2) ?_
      show aGo kad d 247 (20, ([(0, .ref a0), (1, .int i1), (2, .int i2), (3, .int i3)], [.int r17_2.1, .ref b13_1])) (aMem Z r17_2.2, t) _
      refine go_ops aMi247 2 _ (f1 := (22, ([(0, .ref a0), (1, .int i1), (2, .int i2), (3, .int i3)], [.int (r17_2.1 + i3), .ref b13_1]))) rfl ?_
      obtain ⟨x22_3, hxx22_3, h⟩ := Option.bind_eq_some_iff.mp h
      refine gg_lI (Or.inl ⟨rfl, rfl⟩) aMi247 rfl hxx22_3 ?_
      refine go_ops aMi247 2 _ (f1 := (27, ([(4, .int x22_3), (0, .ref a0), (1, .int i1), (2, .int i2), (3, .int i3)], [.int x22_3]))) rfl ?_
      refine gg_br (b := decide (x22_3 = 0)) (tg := 44) (off := 17) aMi247 rfl rfl rfl rfl (fun hb => ?_) (fun hb => ?_)
      · rw [if_pos (of_decide_eq_true hb)] at h
        refine go_le (lv1 := [(0, .ref a0), (1, .int i1), (2, .int i2), (3, .int i3)]) (aLe_of (show (List.map (fun q => q.1) ([(0, .ref a0), (1, .int i1), (2, .int i2), (3, .int i3)] : ALv)).Nodup from (by show ([0, 1, 2, 3] : List Nat).Nodup; decide)) (aSubL_cons rfl (aSubL_cons rfl (aSubL_cons rfl (aSubL_cons rfl aSubL_nil))))) ?_
        exact Tf247_b44 hd (fun p0 p1 p2 p3 I => f247_b7 kad N Z F p0 p1 p2 p3 I) (fun p0 p1 p2 p3 I r hh => ih p0 p1 p2 p3 I r hh) a0 i1 i2 i3 r17_2.2 _ h
      · rw [if_neg (of_decide_eq_false hb)] at h
        refine go_ops aMi247 1 _ (f1 := (31, ([(4, .int x22_3), (0, .ref a0), (1, .int i1), (2, .int i2), (3, .int i3)], [.ref a0]))) rfl ?_
        obtain ⟨b31_4, hxb31_4, h⟩ := Option.bind_eq_some_iff.mp h
        refine gg_gR aMi247 rfl rfl rfl hxb31_4 ?_
        refine go_ops aMi247 1 _ (f1 := (36, ([(4, .int x22_3), (0, .ref a0), (1, .int i1), (2, .int i2), (3, .int i3)], [.int x22_3, .ref b31_4]))) rfl ?_
        obtain ⟨r36_5, hxr36_5, h⟩ := Option.bind_eq_some_iff.mp h
        refine gg_cs (as := [.ref b31_4, .int x22_3]) (r := []) aMi247 rfl rfl rfl aMi238 rfl (Nat.le_of_ble_eq_true rfl) (Nat.le_of_ble_eq_true rfl) (by omega) (Tf238 (by omega) b31_4 x22_3 r17_2.2 _ hxr36_5) ?_
        show aGo kad d 247 (39, ([(4, .int x22_3), (0, .ref a0), (1, .int i1), (2, .int i2), (3, .int i3)], [])) (aMem Z r36_5.2, t) _
        refine go_ops aMi247 4 _ (f1 := (44, ([(2, .int (i2 ||| (16 : Int32))), (4, .int x22_3), (0, .ref a0), (1, .int i1), (3, .int i3)], []))) rfl ?_
        refine go_le (lv1 := [(0, .ref a0), (1, .int i1), (2, .int (i2 ||| (16 : Int32))), (3, .int i3)]) (aLe_of (show (List.map (fun q => q.1) ([(0, .ref a0), (1, .int i1), (2, .int (i2 ||| (16 : Int32))), (3, .int i3)] : ALv)).Nodup from (by show ([0, 1, 2, 3] : List Nat).Nodup; decide)) (aSubL_cons rfl (aSubL_cons rfl (aSubL_cons rfl (aSubL_cons rfl aSubL_nil))))) ?_
        exact Tf247_b44 hd (fun p0 p1 p2 p3 I => f247_b7 kad N Z F p0 p1 p2 p3 I) (fun p0 p1 p2 p3 I r hh => ih p0 p1 p2 p3 I r hh) a0 i1 (i2 ||| (16 : Int32)) i3 r36_5.2 _ h
def f247 (kad : Nat → Nat) (N : Nat) (Z : AZ) (a0 : Nat) (i1 : Int32) (I : AI) : Option (Int32 × AI) :=
  (f243 kad N Z i1 I).bind fun r1_1 =>
  f247_b7 kad N Z N a0 i1 r1_1.1 (2 : Int32) r1_1.2
theorem Tf247 {kad : Nat → Nat} {N : Nat} {Z : AZ} {d : Nat} {t : Option Nat × (Nat × Nat)} (hd : 1 ≤ d) : ∀ (a0 : Nat) (i1 : Int32) (I : AI) (r : Int32 × AI), f247 kad N Z a0 i1 I = some r → aGo kad d 247 (0, ([(0, .ref a0), (1, .int i1)], [])) (aMem Z I, t) (qI Z t r) := by
  intro a0 i1 I r h
  unfold f247 at h
  refine go_ops aMi247 1 _ (f1 := (1, ([(0, .ref a0), (1, .int i1)], [.int i1]))) rfl ?_
  obtain ⟨r1_1, hxr1_1, h⟩ := Option.bind_eq_some_iff.mp h
  refine gg_cs (as := [.int i1]) (r := []) aMi247 rfl rfl rfl aMi243 rfl (Nat.le_of_ble_eq_true rfl) (Nat.le_of_ble_eq_true rfl) (by omega) (Tf243 (by omega) i1 I _ hxr1_1) ?_
  show aGo kad d 247 (4, ([(0, .ref a0), (1, .int i1)], [.int r1_1.1])) (aMem Z r1_1.2, t) _
  refine go_ops aMi247 3 _ (f1 := (7, ([(3, .int (2 : Int32)), (2, .int r1_1.1), (0, .ref a0), (1, .int i1)], []))) rfl ?_
  refine go_le (lv1 := [(0, .ref a0), (1, .int i1), (2, .int r1_1.1), (3, .int (2 : Int32))]) (aLe_of (show (List.map (fun q => q.1) ([(0, .ref a0), (1, .int i1), (2, .int r1_1.1), (3, .int (2 : Int32))] : ALv)).Nodup from (by show ([0, 1, 2, 3] : List Nat).Nodup; decide)) (aSubL_cons rfl (aSubL_cons rfl (aSubL_cons rfl (aSubL_cons rfl aSubL_nil))))) ?_
  exact Tf247_b7 hd N a0 i1 r1_1.1 (2 : Int32) r1_1.2 _ h
-- KernelGymModel.renames (I)I
def f248_b28 (kad : Nat → Nat) (N : Nat) (Z : AZ) (a0 : Nat) (i1 : Int32) (s0 : Int32) (I : AI) : Option (Int32 × AI) :=
  (gR Z I 11 51 a0).bind fun b30_1 =>
  (f235 kad N Z i1 I).bind fun r34_2 =>
  (gR Z r34_2.2 11 26 a0).bind fun b38_3 =>
  (lI Z r34_2.2 100 b38_3 (1 : Int32)).bind fun x42_4 =>
  (sI Z r34_2.2 100 b30_1 r34_2.1 x42_4).bind fun I43_5 =>
  (f243 kad N Z i1 I43_5).bind fun r46_6 =>
  some ((s0 ||| r46_6.1), r46_6.2)
theorem Tf248_b28 {kad : Nat → Nat} {N : Nat} {Z : AZ} {d : Nat} {t : Option Nat × (Nat × Nat)} (hd : 2 ≤ d) : ∀ (a0 : Nat) (i1 : Int32) (s0 : Int32) (I : AI) (r : Int32 × AI), f248_b28 kad N Z a0 i1 s0 I = some r → aGo kad d 248 (28, ([(0, .ref a0), (1, .int i1)], [.int s0])) (aMem Z I, t) (qI Z t r) := by
  intro a0 i1 s0 I r h
  unfold f248_b28 at h
  refine go_ops aMi248 2 _ (f1 := (30, ([(3, .int s0), (0, .ref a0), (1, .int i1)], [.ref a0]))) rfl ?_
  obtain ⟨b30_1, hxb30_1, h⟩ := Option.bind_eq_some_iff.mp h
  refine gg_gR aMi248 rfl rfl rfl hxb30_1 ?_
  refine go_ops aMi248 1 _ (f1 := (34, ([(3, .int s0), (0, .ref a0), (1, .int i1)], [.int i1, .ref b30_1]))) rfl ?_
  obtain ⟨r34_2, hxr34_2, h⟩ := Option.bind_eq_some_iff.mp h
  refine gg_cs (as := [.int i1]) (r := [.ref b30_1]) aMi248 rfl rfl rfl aMi235 rfl (Nat.le_of_ble_eq_true rfl) (Nat.le_of_ble_eq_true rfl) (by omega) (Tf235 (by omega) i1 I _ hxr34_2) ?_
  show aGo kad d 248 (37, ([(3, .int s0), (0, .ref a0), (1, .int i1)], [.int r34_2.1, .ref b30_1])) (aMem Z r34_2.2, t) _
  refine go_ops aMi248 1 _ (f1 := (38, ([(3, .int s0), (0, .ref a0), (1, .int i1)], [.ref a0, .int r34_2.1, .ref b30_1]))) rfl ?_
  obtain ⟨b38_3, hxb38_3, h⟩ := Option.bind_eq_some_iff.mp h
  refine gg_gR aMi248 rfl rfl rfl hxb38_3 ?_
  refine go_ops aMi248 1 _ (f1 := (42, ([(3, .int s0), (0, .ref a0), (1, .int i1)], [.int (1 : Int32), .ref b38_3, .int r34_2.1, .ref b30_1]))) rfl ?_
  obtain ⟨x42_4, hxx42_4, h⟩ := Option.bind_eq_some_iff.mp h
  refine gg_lI (Or.inl ⟨rfl, rfl⟩) aMi248 rfl hxx42_4 ?_
  obtain ⟨I43_5, hxI43_5, h⟩ := Option.bind_eq_some_iff.mp h
  refine gg_sI (Or.inl ⟨rfl, rfl⟩) aMi248 rfl hxI43_5 ?_
  refine go_ops aMi248 2 _ (f1 := (46, ([(3, .int s0), (0, .ref a0), (1, .int i1)], [.int i1, .int s0]))) rfl ?_
  obtain ⟨r46_6, hxr46_6, h⟩ := Option.bind_eq_some_iff.mp h
  refine gg_cs (as := [.int i1]) (r := [.int s0]) aMi248 rfl rfl rfl aMi243 rfl (Nat.le_of_ble_eq_true rfl) (Nat.le_of_ble_eq_true rfl) (by omega) (Tf243 (by omega) i1 I43_5 _ hxr46_6) ?_
  show aGo kad d 248 (49, ([(3, .int s0), (0, .ref a0), (1, .int i1)], [.int r46_6.1, .int s0])) (aMem Z r46_6.2, t) _
  refine go_ops aMi248 1 _ (f1 := (50, ([(3, .int s0), (0, .ref a0), (1, .int i1)], [.int (s0 ||| r46_6.1)]))) rfl ?_
  cases h
  exact go_ret aMi248 rfl aRetI ⟨rfl, rfl⟩
def f248 (kad : Nat → Nat) (N : Nat) (Z : AZ) (a0 : Nat) (i1 : Int32) (I : AI) : Option (Int32 × AI) :=
  (gR Z I 11 50 a0).bind fun b1_1 =>
  (gR Z I 11 26 a0).bind fun b5_2 =>
  (lI Z I 100 b5_2 (1 : Int32)).bind fun x9_3 =>
  (f236 kad N Z b1_1 x9_3 I).bind fun r10_4 =>
  if ¬ r10_4.1 = (Int32.ofInt (-1)) then
    (isK Z a0 11).bind fun u25_5 =>
    (f247 kad N Z a0 r10_4.1 r10_4.2).bind fun r25_6 =>
    f248_b28 kad N Z a0 i1 r25_6.1 r25_6.2
  else
    f248_b28 kad N Z a0 i1 (0 : Int32) r10_4.2
theorem Tf248 {kad : Nat → Nat} {N : Nat} {Z : AZ} {d : Nat} {t : Option Nat × (Nat × Nat)} (hd : 2 ≤ d) : ∀ (a0 : Nat) (i1 : Int32) (I : AI) (r : Int32 × AI), f248 kad N Z a0 i1 I = some r → aGo kad d 248 (0, ([(0, .ref a0), (1, .int i1)], [])) (aMem Z I, t) (qI Z t r) := by
  intro a0 i1 I r h
  unfold f248 at h
  refine go_ops aMi248 1 _ (f1 := (1, ([(0, .ref a0), (1, .int i1)], [.ref a0]))) rfl ?_
  obtain ⟨b1_1, hxb1_1, h⟩ := Option.bind_eq_some_iff.mp h
  refine gg_gR aMi248 rfl rfl rfl hxb1_1 ?_
  refine go_ops aMi248 1 _ (f1 := (5, ([(0, .ref a0), (1, .int i1)], [.ref a0, .ref b1_1]))) rfl ?_
  obtain ⟨b5_2, hxb5_2, h⟩ := Option.bind_eq_some_iff.mp h
  refine gg_gR aMi248 rfl rfl rfl hxb5_2 ?_
  refine go_ops aMi248 1 _ (f1 := (9, ([(0, .ref a0), (1, .int i1)], [.int (1 : Int32), .ref b5_2, .ref b1_1]))) rfl ?_
  obtain ⟨x9_3, hxx9_3, h⟩ := Option.bind_eq_some_iff.mp h
  refine gg_lI (Or.inl ⟨rfl, rfl⟩) aMi248 rfl hxx9_3 ?_
  obtain ⟨r10_4, hxr10_4, h⟩ := Option.bind_eq_some_iff.mp h
  refine gg_cs (as := [.ref b1_1, .int x9_3]) (r := []) aMi248 rfl rfl rfl aMi236 rfl (Nat.le_of_ble_eq_true rfl) (Nat.le_of_ble_eq_true rfl) (by omega) (Tf236 (by omega) b1_1 x9_3 I _ hxr10_4) ?_
  show aGo kad d 248 (13, ([(0, .ref a0), (1, .int i1)], [.int r10_4.1])) (aMem Z r10_4.2, t) _
  refine go_ops aMi248 3 _ (f1 := (16, ([(2, .int r10_4.1), (0, .ref a0), (1, .int i1)], [.int (Int32.ofInt (-1)), .int r10_4.1]))) rfl ?_
  refine gg_br (b := decide (¬ r10_4.1 = (Int32.ofInt (-1)))) (tg := 23) (off := 7) aMi248 rfl rfl rfl rfl (fun hb => ?_) (fun hb => ?_)
  · rw [if_pos (of_decide_eq_true hb)] at h
    refine go_ops aMi248 2 _ (f1 := (25, ([(2, .int r10_4.1), (0, .ref a0), (1, .int i1)], [.int r10_4.1, .ref a0]))) rfl ?_
    obtain ⟨u25_5, hxu25_5, h⟩ := Option.bind_eq_some_iff.mp h
    obtain ⟨r25_6, hxr25_6, h⟩ := Option.bind_eq_some_iff.mp h
    refine gg_cv (as := [.int r10_4.1]) (r := []) aMi248 rfl rfl rfl aMi247 (Nat.le_of_ble_eq_true rfl) rfl (Nat.le_of_ble_eq_true rfl) (Nat.le_of_ble_eq_true rfl) (by omega) hxu25_5 (Tf247 (by omega) a0 r10_4.1 r10_4.2 _ hxr25_6) ?_
    show aGo kad d 248 (28, ([(2, .int r10_4.1), (0, .ref a0), (1, .int i1)], [.int r25_6.1])) (aMem Z r25_6.2, t) _
    refine go_le (lv1 := [(0, .ref a0), (1, .int i1)]) (aLe_of (show (List.map (fun q => q.1) ([(0, .ref a0), (1, .int i1)] : ALv)).Nodup from (by show ([0, 1] : List Nat).Nodup; decide)) (aSubL_cons rfl (aSubL_cons rfl aSubL_nil))) ?_
    exact Tf248_b28 hd a0 i1 r25_6.1 r25_6.2 _ h
  · rw [if_neg (of_decide_eq_false hb)] at h
    refine go_ops aMi248 2 _ (f1 := (28, ([(2, .int r10_4.1), (0, .ref a0), (1, .int i1)], [.int (0 : Int32)]))) rfl ?_
    refine go_le (lv1 := [(0, .ref a0), (1, .int i1)]) (aLe_of (show (List.map (fun q => q.1) ([(0, .ref a0), (1, .int i1)] : ALv)).Nodup from (by show ([0, 1] : List Nat).Nodup; decide)) (aSubL_cons rfl (aSubL_cons rfl aSubL_nil))) ?_
    exact Tf248_b28 hd a0 i1 (0 : Int32) r10_4.2 _ h
-- KernelGymModel.prepares (I)V
def f249_b81 (kad : Nat → Nat) (N : Nat) (Z : AZ) (k7 : Nat → Int32 → Int32 → AI → Option (Unit × AI)) (a0 : Nat) (i1 : Int32) (i2 : Int32) (I : AI) : Option (Unit × AI) :=
  k7 a0 i1 (i2 + (1 : Int32)) I
theorem Tf249_b81 {kad : Nat → Nat} {N : Nat} {Z : AZ} {d : Nat} {t : Option Nat × (Nat × Nat)} (hd : 0 ≤ d) (k7 : Nat → Int32 → Int32 → AI → Option (Unit × AI))  (hk7 : ∀ (a0 : Nat) (i1 : Int32) (i2 : Int32)  (I : AI) (r : Unit × AI), k7 a0 i1 i2 I = some r → aGo kad d 249 (7, ([(0, .ref a0), (1, .int i1), (2, .int i2)], [])) (aMem Z I, t) (qV Z t r)) : ∀ (a0 : Nat) (i1 : Int32) (i2 : Int32) (I : AI) (r : Unit × AI), f249_b81 kad N Z k7 a0 i1 i2 I = some r → aGo kad d 249 (81, ([(0, .ref a0), (1, .int i1), (2, .int i2)], [])) (aMem Z I, t) (qV Z t r) := by
  intro a0 i1 i2 I r h
  unfold f249_b81 at h
  refine go_ops aMi249 2 _ (f1 := (7, ([(2, .int (i2 + (1 : Int32))), (0, .ref a0), (1, .int i1)], []))) rfl ?_
  refine go_le (lv1 := [(0, .ref a0), (1, .int i1), (2, .int (i2 + (1 : Int32)))]) (aLe_of (show (List.map (fun q => q.1) ([(0, .ref a0), (1, .int i1), (2, .int (i2 + (1 : Int32)))] : ALv)).Nodup from (by show ([0, 1, 2] : List Nat).Nodup; decide)) (aSubL_cons rfl (aSubL_cons rfl (aSubL_cons rfl aSubL_nil)))) ?_
  exact hk7 a0 i1 (i2 + (1 : Int32)) I _ h
def f249_b34 (kad : Nat → Nat) (N : Nat) (Z : AZ) (k7 : Nat → Int32 → Int32 → AI → Option (Unit × AI)) : Nat → Nat → Int32 → Int32 → Int32 → AI → Option (Unit × AI)
  | 0, _, _, _, _, _ => none
  | F + 1, a0, i1, i2, i3, I =>
    if (8 : Int32) ≤ i3 then
      (gI Z I 11 47 a0).bind fun x73_1 =>
      (pI Z I 11 47 a0 (x73_1 + (1 : Int32))).bind fun I78_2 =>
      f249_b81 kad N Z k7 a0 i1 i2 I78_2
    else
      (gR Z I 11 49 a0).bind fun b41_3 =>
      (gI Z I 11 47 a0).bind fun x47_4 =>
      (gR Z I 11 51 a0).bind fun b54_5 =>
      (lI Z I 100 b54_5 (((8 : Int32) * i2) + i3)).bind fun x63_6 =>
      (sI Z I 100 b41_3 (((8 : Int32) * x47_4) + i3) x63_6).bind fun I64_7 =>
      f249_b34 kad N Z k7 F a0 i1 i2 (i3 + (1 : Int32)) I64_7
theorem Tf249_b34 {kad : Nat → Nat} {N : Nat} {Z : AZ} {d : Nat} {t : Option Nat × (Nat × Nat)} (hd : 0 ≤ d) (k7 : Nat → Int32 → Int32 → AI → Option (Unit × AI))  (hk7 : ∀ (a0 : Nat) (i1 : Int32) (i2 : Int32)  (I : AI) (r : Unit × AI), k7 a0 i1 i2 I = some r → aGo kad d 249 (7, ([(0, .ref a0), (1, .int i1), (2, .int i2)], [])) (aMem Z I, t) (qV Z t r)) : ∀ (F : Nat) (a0 : Nat) (i1 : Int32) (i2 : Int32) (i3 : Int32) (I : AI) (r : Unit × AI), f249_b34 kad N Z k7 F a0 i1 i2 i3 I = some r → aGo kad d 249 (34, ([(0, .ref a0), (1, .int i1), (2, .int i2), (3, .int i3)], [])) (aMem Z I, t) (qV Z t r) := by
  intro F
  induction F with
  | zero => intro a0 i1 i2 i3 I r h; cases h
  | succ F ih =>
    intro a0 i1 i2 i3 I r h
    unfold f249_b34 at h
    refine go_ops aMi249 2 _ (f1 := (37, ([(0, .ref a0), (1, .int i1), (2, .int i2), (3, .int i3)], [.int (8 : Int32), .int i3]))) rfl ?_
    refine gg_br (b := decide ((8 : Int32) ≤ i3)) (tg := 71) (off := 34) aMi249 rfl rfl rfl rfl (fun hb => ?_) (fun hb => ?_)
    · rw [if_pos (of_decide_eq_true hb)] at h
      refine go_ops aMi249 2 _ (f1 := (73, ([(0, .ref a0), (1, .int i1), (2, .int i2), (3, .int i3)], [.ref a0, .ref a0]))) rfl ?_
      obtain ⟨x73_1, hxx73_1, h⟩ := Option.bind_eq_some_iff.mp h
      refine gg_gI aMi249 rfl rfl rfl hxx73_1 ?_
      refine go_ops aMi249 2 _ (f1 := (78, ([(0, .ref a0), (1, .int i1), (2, .int i2), (3, .int i3)], [.int (x73_1 + (1 : Int32)), .ref a0]))) rfl ?_
      obtain ⟨I78_2, hxI78_2, h⟩ := Option.bind_eq_some_iff.mp h
      refine gg_pI aMi249 rfl rfl rfl rfl (by decide) hxI78_2 ?_
      refine go_le (lv1 := [(0, .ref a0), (1, .int i1), (2, .int i2)]) (aLe_of (show (List.map (fun q => q.1) ([(0, .ref a0), (1, .int i1), (2, .int i2)] : ALv)).Nodup from (by show ([0, 1, 2] : List Nat).Nodup; decide)) (aSubL_cons rfl (aSubL_cons rfl (aSubL_cons rfl aSubL_nil)))) ?_
      exact Tf249_b81 hd k7 hk7 a0 i1 i2 I78_2 _ h
    · rw [if_neg (of_decide_eq_false hb)] at h
      refine go_ops aMi249 1 _ (f1 := (41, ([(0, .ref a0), (1, .int i1), (2, .int i2), (3, .int i3)], [.ref a0]))) rfl ?_
      obtain ⟨b41_3, hxb41_3, h⟩ := Option.bind_eq_some_iff.mp h
      refine gg_gR aMi249 rfl rfl rfl hxb41_3 ?_
      refine go_ops aMi249 2 _ (f1 := (47, ([(0, .ref a0), (1, .int i1), (2, .int i2), (3, .int i3)], [.ref a0, .int (8 : Int32), .ref b41_3]))) rfl ?_
      obtain ⟨x47_4, hxx47_4, h⟩ := Option.bind_eq_some_iff.mp h
      refine gg_gI aMi249 rfl rfl rfl hxx47_4 ?_
      refine go_ops aMi249 4 _ (f1 := (54, ([(0, .ref a0), (1, .int i1), (2, .int i2), (3, .int i3)], [.ref a0, .int (((8 : Int32) * x47_4) + i3), .ref b41_3]))) rfl ?_
      obtain ⟨b54_5, hxb54_5, h⟩ := Option.bind_eq_some_iff.mp h
      refine gg_gR aMi249 rfl rfl rfl hxb54_5 ?_
      refine go_ops aMi249 5 _ (f1 := (63, ([(0, .ref a0), (1, .int i1), (2, .int i2), (3, .int i3)], [.int (((8 : Int32) * i2) + i3), .ref b54_5, .int (((8 : Int32) * x47_4) + i3), .ref b41_3]))) rfl ?_
      obtain ⟨x63_6, hxx63_6, h⟩ := Option.bind_eq_some_iff.mp h
      refine gg_lI (Or.inl ⟨rfl, rfl⟩) aMi249 rfl hxx63_6 ?_
      obtain ⟨I64_7, hxI64_7, h⟩ := Option.bind_eq_some_iff.mp h
      refine gg_sI (Or.inl ⟨rfl, rfl⟩) aMi249 rfl hxI64_7 ?_
      refine go_ops aMi249 2 _ (f1 := (34, ([(3, .int (i3 + (1 : Int32))), (0, .ref a0), (1, .int i1), (2, .int i2)], []))) rfl ?_
      refine go_le (lv1 := [(0, .ref a0), (1, .int i1), (2, .int i2), (3, .int (i3 + (1 : Int32)))]) (aLe_of (show (List.map (fun q => q.1) ([(0, .ref a0), (1, .int i1), (2, .int i2), (3, .int (i3 + (1 : Int32)))] : ALv)).Nodup from (by show ([0, 1, 2, 3] : List Nat).Nodup; decide)) (aSubL_cons rfl (aSubL_cons rfl (aSubL_cons rfl (aSubL_cons rfl aSubL_nil))))) ?_
      exact ih a0 i1 i2 (i3 + (1 : Int32)) I64_7 _ h
def f249_b7 (kad : Nat → Nat) (N : Nat) (Z : AZ) : Nat → Nat → Int32 → Int32 → AI → Option (Unit × AI)
  | 0, _, _, _, _ => none
  | F + 1, a0, i1, i2, I =>
    if (32 : Int32) ≤ i2 then
      (gI Z I 11 47 a0).bind fun x90_1 =>
      (pI Z I 11 46 a0 (((2 : Int32) * x90_1) + (2 : Int32))).bind fun I96_2 =>
      some ((), I96_2)
    else
      if ¬ ((i1 >>> (i2 &&& 31)) &&& (1 : Int32)) = (1 : Int32) then
        f249_b81 kad N Z (fun p0 p1 p2 I => f249_b7 kad N Z F p0 p1 p2 I) a0 i1 i2 I
      else
        (gR Z I 11 48 a0).bind fun b23_3 =>
        (gI Z I 11 47 a0).bind fun x27_4 =>
        (sI Z I 100 b23_3 x27_4 i2).bind fun I31_5 =>
        f249_b34 kad N Z (fun p0 p1 p2 I => f249_b7 kad N Z F p0 p1 p2 I) N a0 i1 i2 (0 : Int32) I31_5
theorem Tf249_b7 {kad : Nat → Nat} {N : Nat} {Z : AZ} {d : Nat} {t : Option Nat × (Nat × Nat)} (hd : 0 ≤ d) : ∀ (F : Nat) (a0 : Nat) (i1 : Int32) (i2 : Int32) (I : AI) (r : Unit × AI), f249_b7 kad N Z F a0 i1 i2 I = some r → aGo kad d 249 (7, ([(0, .ref a0), (1, .int i1), (2, .int i2)], [])) (aMem Z I, t) (qV Z t r) := by
  intro F
  induction F with
  | zero => intro a0 i1 i2 I r h; cases h
  | succ F ih =>
    intro a0 i1 i2 I r h
    unfold f249_b7 at h
    refine go_ops aMi249 2 _ (f1 := (10, ([(0, .ref a0), (1, .int i1), (2, .int i2)], [.int (32 : Int32), .int i2]))) rfl ?_
    refine gg_br (b := decide ((32 : Int32) ≤ i2)) (tg := 87) (off := 77) aMi249 rfl rfl rfl rfl (fun hb => ?_) (fun hb => ?_)
    · rw [if_pos (of_decide_eq_true hb)] at h
      refine go_ops aMi249 3 _ (f1 := (90, ([(0, .ref a0), (1, .int i1), (2, .int i2)], [.ref a0, .int (2 : Int32), .ref a0]))) rfl ?_
      obtain ⟨x90_1, hxx90_1, h⟩ := Option.bind_eq_some_iff.mp h
      refine gg_gI aMi249 rfl rfl rfl hxx90_1 ?_
      refine go_ops aMi249 3 _ (f1 := (96, ([(0, .ref a0), (1, .int i1), (2, .int i2)], [.int (((2 : Int32) * x90_1) + (2 : Int32)), .ref a0]))) rfl ?_
      obtain ⟨I96_2, hxI96_2, h⟩ := Option.bind_eq_some_iff.mp h
      refine gg_pI aMi249 rfl rfl rfl rfl (by decide) hxI96_2 ?_
      cases h
      exact go_ret aMi249 rfl rfl ⟨rfl, rfl⟩
    · rw [if_neg (of_decide_eq_false hb)] at h
      refine go_ops aMi249 6 _ (f1 := (19, ([(0, .ref a0), (1, .int i1), (2, .int i2)], [.int (1 : Int32), .int ((i1 >>> (i2 &&& 31)) &&& (1 : Int32))]))) rfl ?_
      refine gg_br (b := decide (¬ ((i1 >>> (i2 &&& 31)) &&& (1 : Int32)) = (1 : Int32))) (tg := 81) (off := 62) aMi249 rfl rfl rfl rfl (fun hb => ?_) (fun hb => ?_)
      · rw [if_pos (of_decide_eq_true hb)] at h
        exact Tf249_b81 hd (fun p0 p1 p2 I => f249_b7 kad N Z F p0 p1 p2 I) (fun p0 p1 p2 I r hh => ih p0 p1 p2 I r hh) a0 i1 i2 I _ h
      · rw [if_neg (of_decide_eq_false hb)] at h
        refine go_ops aMi249 1 _ (f1 := (23, ([(0, .ref a0), (1, .int i1), (2, .int i2)], [.ref a0]))) rfl ?_
        obtain ⟨b23_3, hxb23_3, h⟩ := Option.bind_eq_some_iff.mp h
        refine gg_gR aMi249 rfl rfl rfl hxb23_3 ?_
        refine go_ops aMi249 1 _ (f1 := (27, ([(0, .ref a0), (1, .int i1), (2, .int i2)], [.ref a0, .ref b23_3]))) rfl ?_
        obtain ⟨x27_4, hxx27_4, h⟩ := Option.bind_eq_some_iff.mp h
        refine gg_gI aMi249 rfl rfl rfl hxx27_4 ?_
        refine go_ops aMi249 1 _ (f1 := (31, ([(0, .ref a0), (1, .int i1), (2, .int i2)], [.int i2, .int x27_4, .ref b23_3]))) rfl ?_
        obtain ⟨I31_5, hxI31_5, h⟩ := Option.bind_eq_some_iff.mp h
        refine gg_sI (Or.inl ⟨rfl, rfl⟩) aMi249 rfl hxI31_5 ?_
        refine go_ops aMi249 2 _ (f1 := (34, ([(3, .int (0 : Int32)), (0, .ref a0), (1, .int i1), (2, .int i2)], []))) rfl ?_
        refine go_le (lv1 := [(0, .ref a0), (1, .int i1), (2, .int i2), (3, .int (0 : Int32))]) (aLe_of (show (List.map (fun q => q.1) ([(0, .ref a0), (1, .int i1), (2, .int i2), (3, .int (0 : Int32))] : ALv)).Nodup from (by show ([0, 1, 2, 3] : List Nat).Nodup; decide)) (aSubL_cons rfl (aSubL_cons rfl (aSubL_cons rfl (aSubL_cons rfl aSubL_nil))))) ?_
        exact Tf249_b34 hd (fun p0 p1 p2 I => f249_b7 kad N Z F p0 p1 p2 I) (fun p0 p1 p2 I r hh => ih p0 p1 p2 I r hh) N a0 i1 i2 (0 : Int32) I31_5 _ h
def f249 (kad : Nat → Nat) (N : Nat) (Z : AZ) (a0 : Nat) (i1 : Int32) (I : AI) : Option (Unit × AI) :=
  (pI Z I 11 47 a0 (0 : Int32)).bind fun I2_1 =>
  f249_b7 kad N Z N a0 i1 (0 : Int32) I2_1
theorem Tf249 {kad : Nat → Nat} {N : Nat} {Z : AZ} {d : Nat} {t : Option Nat × (Nat × Nat)} (hd : 0 ≤ d) : ∀ (a0 : Nat) (i1 : Int32) (I : AI) (r : Unit × AI), f249 kad N Z a0 i1 I = some r → aGo kad d 249 (0, ([(0, .ref a0), (1, .int i1)], [])) (aMem Z I, t) (qV Z t r) := by
  intro a0 i1 I r h
  unfold f249 at h
  refine go_ops aMi249 2 _ (f1 := (2, ([(0, .ref a0), (1, .int i1)], [.int (0 : Int32), .ref a0]))) rfl ?_
  obtain ⟨I2_1, hxI2_1, h⟩ := Option.bind_eq_some_iff.mp h
  refine gg_pI aMi249 rfl rfl rfl rfl (by decide) hxI2_1 ?_
  refine go_ops aMi249 2 _ (f1 := (7, ([(2, .int (0 : Int32)), (0, .ref a0), (1, .int i1)], []))) rfl ?_
  refine go_le (lv1 := [(0, .ref a0), (1, .int i1), (2, .int (0 : Int32))]) (aLe_of (show (List.map (fun q => q.1) ([(0, .ref a0), (1, .int i1), (2, .int (0 : Int32))] : ALv)).Nodup from (by show ([0, 1, 2] : List Nat).Nodup; decide)) (aSubL_cons rfl (aSubL_cons rfl (aSubL_cons rfl aSubL_nil)))) ?_
  exact Tf249_b7 hd N a0 i1 (0 : Int32) I2_1 _ h
-- KernelGymModel.calls (I)V
def f242_b142 (kad : Nat → Nat) (N : Nat) (Z : AZ) (a0 : Nat) (i3 : Int32) (I : AI) : Option (Unit × AI) :=
  (gR Z I 11 26 a0).bind fun b143_1 =>
  (sI Z I 100 b143_1 (3 : Int32) i3).bind fun I148_2 =>
  (gI Z I148_2 11 27 a0).bind fun x151_3 =>
  (pI Z I148_2 11 27 a0 (x151_3 + (2 : Int32))).bind fun I156_4 =>
  some ((), I156_4)
theorem Tf242_b142 {kad : Nat → Nat} {N : Nat} {Z : AZ} {d : Nat} {t : Option Nat × (Nat × Nat)} (hd : 3 ≤ d) : ∀ (a0 : Nat) (i3 : Int32) (I : AI) (r : Unit × AI), f242_b142 kad N Z a0 i3 I = some r → aGo kad d 242 (142, ([(0, .ref a0), (3, .int i3)], [])) (aMem Z I, t) (qV Z t r) := by
  intro a0 i3 I r h
  unfold f242_b142 at h
  refine go_ops aMi242 1 _ (f1 := (143, ([(0, .ref a0), (3, .int i3)], [.ref a0]))) rfl ?_
  obtain ⟨b143_1, hxb143_1, h⟩ := Option.bind_eq_some_iff.mp h
  refine gg_gR aMi242 rfl rfl rfl hxb143_1 ?_
  refine go_ops aMi242 2 _ (f1 := (148, ([(0, .ref a0), (3, .int i3)], [.int i3, .int (3 : Int32), .ref b143_1]))) rfl ?_
  obtain ⟨I148_2, hxI148_2, h⟩ := Option.bind_eq_some_iff.mp h
  refine gg_sI (Or.inl ⟨rfl, rfl⟩) aMi242 rfl hxI148_2 ?_
  refine go_ops aMi242 2 _ (f1 := (151, ([(0, .ref a0), (3, .int i3)], [.ref a0, .ref a0]))) rfl ?_
  obtain ⟨x151_3, hxx151_3, h⟩ := Option.bind_eq_some_iff.mp h
  refine gg_gI aMi242 rfl rfl rfl hxx151_3 ?_
  refine go_ops aMi242 2 _ (f1 := (156, ([(0, .ref a0), (3, .int i3)], [.int (x151_3 + (2 : Int32)), .ref a0]))) rfl ?_
  obtain ⟨I156_4, hxI156_4, h⟩ := Option.bind_eq_some_iff.mp h
  refine gg_pI aMi242 rfl rfl rfl rfl (by decide) hxI156_4 ?_
  cases h
  exact go_ret aMi242 rfl rfl ⟨rfl, rfl⟩
def f242_b116 (kad : Nat → Nat) (N : Nat) (Z : AZ) (a0 : Nat) (i1 : Int32) (i2 : Int32) (i3 : Int32) (I : AI) : Option (Unit × AI) :=
  if ¬ i3 = 0 then
    f242_b142 kad N Z a0 i3 I
  else
    if ¬ i1 = (4 : Int32) then
      f242_b142 kad N Z a0 i3 I
    else
      (gR Z I 11 26 a0).bind fun b126_1 =>
      (gR Z I 11 50 a0).bind fun b131_2 =>
      (f235 kad N Z i2 I).bind fun r135_3 =>
      (lI Z r135_3.2 100 b131_2 (r135_3.1 + (1 : Int32))).bind fun x140_4 =>
      (sI Z r135_3.2 100 b126_1 (1 : Int32) x140_4).bind fun I141_5 =>
      f242_b142 kad N Z a0 i3 I141_5
theorem Tf242_b116 {kad : Nat → Nat} {N : Nat} {Z : AZ} {d : Nat} {t : Option Nat × (Nat × Nat)} (hd : 3 ≤ d) : ∀ (a0 : Nat) (i1 : Int32) (i2 : Int32) (i3 : Int32) (I : AI) (r : Unit × AI), f242_b116 kad N Z a0 i1 i2 i3 I = some r → aGo kad d 242 (116, ([(0, .ref a0), (1, .int i1), (2, .int i2), (3, .int i3)], [])) (aMem Z I, t) (qV Z t r) := by
  intro a0 i1 i2 i3 I r h
  unfold f242_b116 at h
  refine go_ops aMi242 1 _ (f1 := (117, ([(0, .ref a0), (1, .int i1), (2, .int i2), (3, .int i3)], [.int i3]))) rfl ?_
  refine gg_br (b := decide (¬ i3 = 0)) (tg := 142) (off := 25) aMi242 rfl rfl rfl rfl (fun hb => ?_) (fun hb => ?_)
  · rw [if_pos (of_decide_eq_true hb)] at h
    refine go_le (lv1 := [(0, .ref a0), (3, .int i3)]) (aLe_of (show (List.map (fun q => q.1) ([(0, .ref a0), (3, .int i3)] : ALv)).Nodup from (by show ([0, 3] : List Nat).Nodup; decide)) (aSubL_cons rfl (aSubL_cons rfl aSubL_nil))) ?_
    exact Tf242_b142 hd a0 i3 I _ h
  · rw [if_neg (of_decide_eq_false hb)] at h
    refine go_ops aMi242 2 _ (f1 := (122, ([(0, .ref a0), (1, .int i1), (2, .int i2), (3, .int i3)], [.int (4 : Int32), .int i1]))) rfl ?_
    refine gg_br (b := decide (¬ i1 = (4 : Int32))) (tg := 142) (off := 20) aMi242 rfl rfl rfl rfl (fun hb => ?_) (fun hb => ?_)
    · rw [if_pos (of_decide_eq_true hb)] at h
      refine go_le (lv1 := [(0, .ref a0), (3, .int i3)]) (aLe_of (show (List.map (fun q => q.1) ([(0, .ref a0), (3, .int i3)] : ALv)).Nodup from (by show ([0, 3] : List Nat).Nodup; decide)) (aSubL_cons rfl (aSubL_cons rfl aSubL_nil))) ?_
      exact Tf242_b142 hd a0 i3 I _ h
    · rw [if_neg (of_decide_eq_false hb)] at h
      refine go_ops aMi242 1 _ (f1 := (126, ([(0, .ref a0), (1, .int i1), (2, .int i2), (3, .int i3)], [.ref a0]))) rfl ?_
      obtain ⟨b126_1, hxb126_1, h⟩ := Option.bind_eq_some_iff.mp h
      refine gg_gR aMi242 rfl rfl rfl hxb126_1 ?_
      refine go_ops aMi242 2 _ (f1 := (131, ([(0, .ref a0), (1, .int i1), (2, .int i2), (3, .int i3)], [.ref a0, .int (1 : Int32), .ref b126_1]))) rfl ?_
      obtain ⟨b131_2, hxb131_2, h⟩ := Option.bind_eq_some_iff.mp h
      refine gg_gR aMi242 rfl rfl rfl hxb131_2 ?_
      refine go_ops aMi242 1 _ (f1 := (135, ([(0, .ref a0), (1, .int i1), (2, .int i2), (3, .int i3)], [.int i2, .ref b131_2, .int (1 : Int32), .ref b126_1]))) rfl ?_
      obtain ⟨r135_3, hxr135_3, h⟩ := Option.bind_eq_some_iff.mp h
      refine gg_cs (as := [.int i2]) (r := [.ref b131_2, .int (1 : Int32), .ref b126_1]) aMi242 rfl rfl rfl aMi235 rfl (Nat.le_of_ble_eq_true rfl) (Nat.le_of_ble_eq_true rfl) (by omega) (Tf235 (by omega) i2 I _ hxr135_3) ?_
      show aGo kad d 242 (138, ([(0, .ref a0), (1, .int i1), (2, .int i2), (3, .int i3)], [.int r135_3.1, .ref b131_2, .int (1 : Int32), .ref b126_1])) (aMem Z r135_3.2, t) _
      refine go_ops aMi242 2 _ (f1 := (140, ([(0, .ref a0), (1, .int i1), (2, .int i2), (3, .int i3)], [.int (r135_3.1 + (1 : Int32)), .ref b131_2, .int (1 : Int32), .ref b126_1]))) rfl ?_
      obtain ⟨x140_4, hxx140_4, h⟩ := Option.bind_eq_some_iff.mp h
      refine gg_lI (Or.inl ⟨rfl, rfl⟩) aMi242 rfl hxx140_4 ?_
      obtain ⟨I141_5, hxI141_5, h⟩ := Option.bind_eq_some_iff.mp h
      refine gg_sI (Or.inl ⟨rfl, rfl⟩) aMi242 rfl hxI141_5 ?_
      refine go_le (lv1 := [(0, .ref a0), (3, .int i3)]) (aLe_of (show (List.map (fun q => q.1) ([(0, .ref a0), (3, .int i3)] : ALv)).Nodup from (by show ([0, 3] : List Nat).Nodup; decide)) (aSubL_cons rfl (aSubL_cons rfl aSubL_nil))) ?_
      exact Tf242_b142 hd a0 i3 I141_5 _ h
def f242_b246 (kad : Nat → Nat) (N : Nat) (Z : AZ) (a0 : Nat) (s0 : Int32) (I : AI) : Option (Unit × AI) :=
  (isK Z a0 11).bind fun u251_1 =>
  (f249 kad N Z a0 s0 I).bind fun r251_2 =>
  some ((), r251_2.2)
theorem Tf242_b246 {kad : Nat → Nat} {N : Nat} {Z : AZ} {d : Nat} {t : Option Nat × (Nat × Nat)} (hd : 3 ≤ d) : ∀ (a0 : Nat) (s0 : Int32) (I : AI) (r : Unit × AI), f242_b246 kad N Z a0 s0 I = some r → aGo kad d 242 (246, ([(0, .ref a0)], [.int s0])) (aMem Z I, t) (qV Z t r) := by
  intro a0 s0 I r h
  unfold f242_b246 at h
  refine go_ops aMi242 3 _ (f1 := (251, ([(5, .int s0), (0, .ref a0)], [.int s0, .ref a0]))) rfl ?_
  obtain ⟨u251_1, hxu251_1, h⟩ := Option.bind_eq_some_iff.mp h
  obtain ⟨r251_2, hxr251_2, h⟩ := Option.bind_eq_some_iff.mp h
  refine gg_cv (as := [.int s0]) (r := []) aMi242 rfl rfl rfl aMi249 (Nat.le_of_ble_eq_true rfl) rfl (Nat.le_of_ble_eq_true rfl) (Nat.le_of_ble_eq_true rfl) (by omega) hxu251_1 (Tf249 (by omega) a0 s0 I _ hxr251_2) ?_
  show aGo kad d 242 (254, ([(5, .int s0), (0, .ref a0)], [])) (aMem Z r251_2.2, t) _
  cases h
  exact go_ret aMi242 rfl rfl ⟨rfl, rfl⟩
def f242_b163 (kad : Nat → Nat) (N : Nat) (Z : AZ) : Nat → Nat → Int32 → Int32 → Int32 → AI → Option (Unit × AI)
  | 0, _, _, _, _, _ => none
  | F + 1, a0, i1, i2, i5, I =>
    if (256 : Int32) ≤ i5 then
      if ¬ i1 = 0 then
        if ¬ i1 = (1 : Int32) then
          if ¬ i1 = (2 : Int32) then
            if ¬ i1 = (5 : Int32) then
              (isK Z a0 11).bind fun u243_1 =>
              (f248 kad N Z a0 i2 I).bind fun r243_2 =>
              f242_b246 kad N Z a0 r243_2.1 r243_2.2
            else
              (isK Z a0 11).bind fun u235_3 =>
              (f247 kad N Z a0 i2 I).bind fun r235_4 =>
              f242_b246 kad N Z a0 r235_4.1 r235_4.2
          else
            (isK Z a0 11).bind fun u222_5 =>
            (f246 kad N Z a0 i2 I).bind fun r222_6 =>
            f242_b246 kad N Z a0 r222_6.1 r222_6.2
        else
          (isK Z a0 11).bind fun u209_7 =>
          (f245 kad N Z a0 i2 I).bind fun r209_8 =>
          f242_b246 kad N Z a0 r209_8.1 r209_8.2
      else
        (isK Z a0 11).bind fun u196_9 =>
        (f244 kad N Z a0 I).bind fun r196_10 =>
        f242_b246 kad N Z a0 r196_10.1 r196_10.2
    else
      (gR Z I 11 51 a0).bind fun b172_11 =>
      (gR Z I 11 50 a0).bind fun b178_12 =>
      (lI Z I 100 b178_12 i5).bind fun x183_13 =>
      (sI Z I 100 b172_11 i5 x183_13).bind fun I184_14 =>
      f242_b163 kad N Z F a0 i1 i2 (i5 + (1 : Int32)) I184_14
theorem Tf242_b163 {kad : Nat → Nat} {N : Nat} {Z : AZ} {d : Nat} {t : Option Nat × (Nat × Nat)} (hd : 3 ≤ d) : ∀ (F : Nat) (a0 : Nat) (i1 : Int32) (i2 : Int32) (i5 : Int32) (I : AI) (r : Unit × AI), f242_b163 kad N Z F a0 i1 i2 i5 I = some r → aGo kad d 242 (163, ([(0, .ref a0), (1, .int i1), (2, .int i2), (5, .int i5)], [])) (aMem Z I, t) (qV Z t r) := by
  intro F
  induction F with
  | zero => intro a0 i1 i2 i5 I r h; cases h
  | succ F ih =>
    intro a0 i1 i2 i5 I r h
    unfold f242_b163 at h
    refine go_ops aMi242 2 _ (f1 := (168, ([(0, .ref a0), (1, .int i1), (2, .int i2), (5, .int i5)], [.int (256 : Int32), .int i5]))) rfl ?_
    refine gg_br (b := decide ((256 : Int32) ≤ i5)) (tg := 191) (off := 23) aMi242 rfl rfl rfl rfl (fun hb => ?_) (fun hb => ?_)
    · rw [if_pos (of_decide_eq_true hb)] at h
      refine go_ops aMi242 1 _ (f1 := (192, ([(0, .ref a0), (1, .int i1), (2, .int i2), (5, .int i5)], [.int i1]))) rfl ?_
      refine gg_br (b := decide (¬ i1 = 0)) (tg := 202) (off := 10) aMi242 rfl rfl rfl rfl (fun hb => ?_) (fun hb => ?_)
      · rw [if_pos (of_decide_eq_true hb)] at h
        refine go_ops aMi242 2 _ (f1 := (204, ([(0, .ref a0), (1, .int i1), (2, .int i2), (5, .int i5)], [.int (1 : Int32), .int i1]))) rfl ?_
        refine gg_br (b := decide (¬ i1 = (1 : Int32))) (tg := 215) (off := 11) aMi242 rfl rfl rfl rfl (fun hb => ?_) (fun hb => ?_)
        · rw [if_pos (of_decide_eq_true hb)] at h
          refine go_ops aMi242 2 _ (f1 := (217, ([(0, .ref a0), (1, .int i1), (2, .int i2), (5, .int i5)], [.int (2 : Int32), .int i1]))) rfl ?_
          refine gg_br (b := decide (¬ i1 = (2 : Int32))) (tg := 228) (off := 11) aMi242 rfl rfl rfl rfl (fun hb => ?_) (fun hb => ?_)
          · rw [if_pos (of_decide_eq_true hb)] at h
            refine go_ops aMi242 2 _ (f1 := (230, ([(0, .ref a0), (1, .int i1), (2, .int i2), (5, .int i5)], [.int (5 : Int32), .int i1]))) rfl ?_
            refine gg_br (b := decide (¬ i1 = (5 : Int32))) (tg := 241) (off := 11) aMi242 rfl rfl rfl rfl (fun hb => ?_) (fun hb => ?_)
            · rw [if_pos (of_decide_eq_true hb)] at h
              refine go_ops aMi242 2 _ (f1 := (243, ([(0, .ref a0), (1, .int i1), (2, .int i2), (5, .int i5)], [.int i2, .ref a0]))) rfl ?_
              obtain ⟨u243_1, hxu243_1, h⟩ := Option.bind_eq_some_iff.mp h
              obtain ⟨r243_2, hxr243_2, h⟩ := Option.bind_eq_some_iff.mp h
              refine gg_cv (as := [.int i2]) (r := []) aMi242 rfl rfl rfl aMi248 (Nat.le_of_ble_eq_true rfl) rfl (Nat.le_of_ble_eq_true rfl) (Nat.le_of_ble_eq_true rfl) (by omega) hxu243_1 (Tf248 (by omega) a0 i2 I _ hxr243_2) ?_
              show aGo kad d 242 (246, ([(0, .ref a0), (1, .int i1), (2, .int i2), (5, .int i5)], [.int r243_2.1])) (aMem Z r243_2.2, t) _
              refine go_le (lv1 := [(0, .ref a0)]) (aLe_of (show (List.map (fun q => q.1) ([(0, .ref a0)] : ALv)).Nodup from (by show ([0] : List Nat).Nodup; decide)) (aSubL_cons rfl aSubL_nil)) ?_
              exact Tf242_b246 hd a0 r243_2.1 r243_2.2 _ h
            · rw [if_neg (of_decide_eq_false hb)] at h
              refine go_ops aMi242 2 _ (f1 := (235, ([(0, .ref a0), (1, .int i1), (2, .int i2), (5, .int i5)], [.int i2, .ref a0]))) rfl ?_
              obtain ⟨u235_3, hxu235_3, h⟩ := Option.bind_eq_some_iff.mp h
              obtain ⟨r235_4, hxr235_4, h⟩ := Option.bind_eq_some_iff.mp h
              refine gg_cv (as := [.int i2]) (r := []) aMi242 rfl rfl rfl aMi247 (Nat.le_of_ble_eq_true rfl) rfl (Nat.le_of_ble_eq_true rfl) (Nat.le_of_ble_eq_true rfl) (by omega) hxu235_3 (Tf247 (by omega) a0 i2 I _ hxr235_4) ?_
              show aGo kad d 242 (238, ([(0, .ref a0), (1, .int i1), (2, .int i2), (5, .int i5)], [.int r235_4.1])) (aMem Z r235_4.2, t) _
              refine go_ops aMi242 1 _ (f1 := (246, ([(0, .ref a0), (1, .int i1), (2, .int i2), (5, .int i5)], [.int r235_4.1]))) rfl ?_
              refine go_le (lv1 := [(0, .ref a0)]) (aLe_of (show (List.map (fun q => q.1) ([(0, .ref a0)] : ALv)).Nodup from (by show ([0] : List Nat).Nodup; decide)) (aSubL_cons rfl aSubL_nil)) ?_
              exact Tf242_b246 hd a0 r235_4.1 r235_4.2 _ h
          · rw [if_neg (of_decide_eq_false hb)] at h
            refine go_ops aMi242 2 _ (f1 := (222, ([(0, .ref a0), (1, .int i1), (2, .int i2), (5, .int i5)], [.int i2, .ref a0]))) rfl ?_
            obtain ⟨u222_5, hxu222_5, h⟩ := Option.bind_eq_some_iff.mp h
            obtain ⟨r222_6, hxr222_6, h⟩ := Option.bind_eq_some_iff.mp h
            refine gg_cv (as := [.int i2]) (r := []) aMi242 rfl rfl rfl aMi246 (Nat.le_of_ble_eq_true rfl) rfl (Nat.le_of_ble_eq_true rfl) (Nat.le_of_ble_eq_true rfl) (by omega) hxu222_5 (Tf246 (by omega) a0 i2 I _ hxr222_6) ?_
            show aGo kad d 242 (225, ([(0, .ref a0), (1, .int i1), (2, .int i2), (5, .int i5)], [.int r222_6.1])) (aMem Z r222_6.2, t) _
            refine go_ops aMi242 1 _ (f1 := (246, ([(0, .ref a0), (1, .int i1), (2, .int i2), (5, .int i5)], [.int r222_6.1]))) rfl ?_
            refine go_le (lv1 := [(0, .ref a0)]) (aLe_of (show (List.map (fun q => q.1) ([(0, .ref a0)] : ALv)).Nodup from (by show ([0] : List Nat).Nodup; decide)) (aSubL_cons rfl aSubL_nil)) ?_
            exact Tf242_b246 hd a0 r222_6.1 r222_6.2 _ h
        · rw [if_neg (of_decide_eq_false hb)] at h
          refine go_ops aMi242 2 _ (f1 := (209, ([(0, .ref a0), (1, .int i1), (2, .int i2), (5, .int i5)], [.int i2, .ref a0]))) rfl ?_
          obtain ⟨u209_7, hxu209_7, h⟩ := Option.bind_eq_some_iff.mp h
          obtain ⟨r209_8, hxr209_8, h⟩ := Option.bind_eq_some_iff.mp h
          refine gg_cv (as := [.int i2]) (r := []) aMi242 rfl rfl rfl aMi245 (Nat.le_of_ble_eq_true rfl) rfl (Nat.le_of_ble_eq_true rfl) (Nat.le_of_ble_eq_true rfl) (by omega) hxu209_7 (Tf245 (by omega) a0 i2 I _ hxr209_8) ?_
          show aGo kad d 242 (212, ([(0, .ref a0), (1, .int i1), (2, .int i2), (5, .int i5)], [.int r209_8.1])) (aMem Z r209_8.2, t) _
          refine go_ops aMi242 1 _ (f1 := (246, ([(0, .ref a0), (1, .int i1), (2, .int i2), (5, .int i5)], [.int r209_8.1]))) rfl ?_
          refine go_le (lv1 := [(0, .ref a0)]) (aLe_of (show (List.map (fun q => q.1) ([(0, .ref a0)] : ALv)).Nodup from (by show ([0] : List Nat).Nodup; decide)) (aSubL_cons rfl aSubL_nil)) ?_
          exact Tf242_b246 hd a0 r209_8.1 r209_8.2 _ h
      · rw [if_neg (of_decide_eq_false hb)] at h
        refine go_ops aMi242 1 _ (f1 := (196, ([(0, .ref a0), (1, .int i1), (2, .int i2), (5, .int i5)], [.ref a0]))) rfl ?_
        obtain ⟨u196_9, hxu196_9, h⟩ := Option.bind_eq_some_iff.mp h
        obtain ⟨r196_10, hxr196_10, h⟩ := Option.bind_eq_some_iff.mp h
        refine gg_cv (as := []) (r := []) aMi242 rfl rfl rfl aMi244 (Nat.le_of_ble_eq_true rfl) rfl (Nat.le_of_ble_eq_true rfl) (Nat.le_of_ble_eq_true rfl) (by omega) hxu196_9 (Tf244 (by omega) a0 I _ hxr196_10) ?_
        show aGo kad d 242 (199, ([(0, .ref a0), (1, .int i1), (2, .int i2), (5, .int i5)], [.int r196_10.1])) (aMem Z r196_10.2, t) _
        refine go_ops aMi242 1 _ (f1 := (246, ([(0, .ref a0), (1, .int i1), (2, .int i2), (5, .int i5)], [.int r196_10.1]))) rfl ?_
        refine go_le (lv1 := [(0, .ref a0)]) (aLe_of (show (List.map (fun q => q.1) ([(0, .ref a0)] : ALv)).Nodup from (by show ([0] : List Nat).Nodup; decide)) (aSubL_cons rfl aSubL_nil)) ?_
        exact Tf242_b246 hd a0 r196_10.1 r196_10.2 _ h
    · rw [if_neg (of_decide_eq_false hb)] at h
      refine go_ops aMi242 1 _ (f1 := (172, ([(0, .ref a0), (1, .int i1), (2, .int i2), (5, .int i5)], [.ref a0]))) rfl ?_
      obtain ⟨b172_11, hxb172_11, h⟩ := Option.bind_eq_some_iff.mp h
      refine gg_gR aMi242 rfl rfl rfl hxb172_11 ?_
      refine go_ops aMi242 2 _ (f1 := (178, ([(0, .ref a0), (1, .int i1), (2, .int i2), (5, .int i5)], [.ref a0, .int i5, .ref b172_11]))) rfl ?_
      obtain ⟨b178_12, hxb178_12, h⟩ := Option.bind_eq_some_iff.mp h
      refine gg_gR aMi242 rfl rfl rfl hxb178_12 ?_
      refine go_ops aMi242 1 _ (f1 := (183, ([(0, .ref a0), (1, .int i1), (2, .int i2), (5, .int i5)], [.int i5, .ref b178_12, .int i5, .ref b172_11]))) rfl ?_
      obtain ⟨x183_13, hxx183_13, h⟩ := Option.bind_eq_some_iff.mp h
      refine gg_lI (Or.inl ⟨rfl, rfl⟩) aMi242 rfl hxx183_13 ?_
      obtain ⟨I184_14, hxI184_14, h⟩ := Option.bind_eq_some_iff.mp h
      refine gg_sI (Or.inl ⟨rfl, rfl⟩) aMi242 rfl hxI184_14 ?_
      refine go_ops aMi242 2 _ (f1 := (163, ([(5, .int (i5 + (1 : Int32))), (0, .ref a0), (1, .int i1), (2, .int i2)], []))) rfl ?_
      refine go_le (lv1 := [(0, .ref a0), (1, .int i1), (2, .int i2), (5, .int (i5 + (1 : Int32)))]) (aLe_of (show (List.map (fun q => q.1) ([(0, .ref a0), (1, .int i1), (2, .int i2), (5, .int (i5 + (1 : Int32)))] : ALv)).Nodup from (by show ([0, 1, 2, 5] : List Nat).Nodup; decide)) (aSubL_cons rfl (aSubL_cons rfl (aSubL_cons rfl (aSubL_cons rfl aSubL_nil))))) ?_
      exact ih a0 i1 i2 (i5 + (1 : Int32)) I184_14 _ h
def f242_b61 (kad : Nat → Nat) (N : Nat) (Z : AZ) (a0 : Nat) (i1 : Int32) (i2 : Int32) (i3 : Int32) (s0 : Int32) (I : AI) : Option (Unit × AI) :=
  if s0 = 0 then
    f242_b163 kad N Z N a0 i1 i2 (0 : Int32) I
  else
    if ¬ i3 = 0 then
      f242_b116 kad N Z a0 i1 i2 i3 I
    else
      if ¬ i1 = (3 : Int32) then
        f242_b116 kad N Z a0 i1 i2 i3 I
      else
        (gR Z I 11 26 a0).bind fun b78_1 =>
        (gR Z I 11 50 a0).bind fun b83_2 =>
        (gR Z I 11 50 a0).bind fun b90_3 =>
        (gR Z I 11 26 a0).bind fun b95_4 =>
        (lI Z I 100 b95_4 (1 : Int32)).bind fun x99_5 =>
        (isK Z a0 11).bind fun u100_6 =>
        (f241 kad N Z a0 b90_3 i2 x99_5 I).bind fun r100_7 =>
        (gR Z r100_7.2 11 26 a0).bind fun b105_8 =>
        (lI Z r100_7.2 100 b105_8 (1 : Int32)).bind fun x109_9 =>
        (lI Z r100_7.2 100 b83_2 (((8 : Int32) * r100_7.1) + (x109_9 - x109_9 / (8 : Int32) * (8 : Int32)))).bind fun x114_10 =>
        (sI Z r100_7.2 100 b78_1 (2 : Int32) x114_10).bind fun I115_11 =>
        f242_b116 kad N Z a0 i1 i2 i3 I115_11
theorem Tf242_b61 {kad : Nat → Nat} {N : Nat} {Z : AZ} {d : Nat} {t : Option Nat × (Nat × Nat)} (hd : 3 ≤ d) : ∀ (a0 : Nat) (i1 : Int32) (i2 : Int32) (i3 : Int32) (s0 : Int32) (I : AI) (r : Unit × AI), f242_b61 kad N Z a0 i1 i2 i3 s0 I = some r → aGo kad d 242 (61, ([(0, .ref a0), (1, .int i1), (2, .int i2), (3, .int i3)], [.int s0])) (aMem Z I, t) (qV Z t r) := by
  intro a0 i1 i2 i3 s0 I r h
  unfold f242_b61 at h
  refine go_ops aMi242 2 _ (f1 := (65, ([(4, .int s0), (0, .ref a0), (1, .int i1), (2, .int i2), (3, .int i3)], [.int s0]))) rfl ?_
  refine gg_br (b := decide (s0 = 0)) (tg := 160) (off := 95) aMi242 rfl rfl rfl rfl (fun hb => ?_) (fun hb => ?_)
  · rw [if_pos (of_decide_eq_true hb)] at h
    refine go_ops aMi242 2 _ (f1 := (163, ([(5, .int (0 : Int32)), (4, .int s0), (0, .ref a0), (1, .int i1), (2, .int i2), (3, .int i3)], []))) rfl ?_
    refine go_le (lv1 := [(0, .ref a0), (1, .int i1), (2, .int i2), (5, .int (0 : Int32))]) (aLe_of (show (List.map (fun q => q.1) ([(0, .ref a0), (1, .int i1), (2, .int i2), (5, .int (0 : Int32))] : ALv)).Nodup from (by show ([0, 1, 2, 5] : List Nat).Nodup; decide)) (aSubL_cons rfl (aSubL_cons rfl (aSubL_cons rfl (aSubL_cons rfl aSubL_nil))))) ?_
    exact Tf242_b163 hd N a0 i1 i2 (0 : Int32) I _ h
  · rw [if_neg (of_decide_eq_false hb)] at h
    refine go_ops aMi242 1 _ (f1 := (69, ([(4, .int s0), (0, .ref a0), (1, .int i1), (2, .int i2), (3, .int i3)], [.int i3]))) rfl ?_
    refine gg_br (b := decide (¬ i3 = 0)) (tg := 116) (off := 47) aMi242 rfl rfl rfl rfl (fun hb => ?_) (fun hb => ?_)
    · rw [if_pos (of_decide_eq_true hb)] at h
      refine go_le (lv1 := [(0, .ref a0), (1, .int i1), (2, .int i2), (3, .int i3)]) (aLe_of (show (List.map (fun q => q.1) ([(0, .ref a0), (1, .int i1), (2, .int i2), (3, .int i3)] : ALv)).Nodup from (by show ([0, 1, 2, 3] : List Nat).Nodup; decide)) (aSubL_cons rfl (aSubL_cons rfl (aSubL_cons rfl (aSubL_cons rfl aSubL_nil))))) ?_
      exact Tf242_b116 hd a0 i1 i2 i3 I _ h
    · rw [if_neg (of_decide_eq_false hb)] at h
      refine go_ops aMi242 2 _ (f1 := (74, ([(4, .int s0), (0, .ref a0), (1, .int i1), (2, .int i2), (3, .int i3)], [.int (3 : Int32), .int i1]))) rfl ?_
      refine gg_br (b := decide (¬ i1 = (3 : Int32))) (tg := 116) (off := 42) aMi242 rfl rfl rfl rfl (fun hb => ?_) (fun hb => ?_)
      · rw [if_pos (of_decide_eq_true hb)] at h
        refine go_le (lv1 := [(0, .ref a0), (1, .int i1), (2, .int i2), (3, .int i3)]) (aLe_of (show (List.map (fun q => q.1) ([(0, .ref a0), (1, .int i1), (2, .int i2), (3, .int i3)] : ALv)).Nodup from (by show ([0, 1, 2, 3] : List Nat).Nodup; decide)) (aSubL_cons rfl (aSubL_cons rfl (aSubL_cons rfl (aSubL_cons rfl aSubL_nil))))) ?_
        exact Tf242_b116 hd a0 i1 i2 i3 I _ h
      · rw [if_neg (of_decide_eq_false hb)] at h
        refine go_ops aMi242 1 _ (f1 := (78, ([(4, .int s0), (0, .ref a0), (1, .int i1), (2, .int i2), (3, .int i3)], [.ref a0]))) rfl ?_
        obtain ⟨b78_1, hxb78_1, h⟩ := Option.bind_eq_some_iff.mp h
        refine gg_gR aMi242 rfl rfl rfl hxb78_1 ?_
        refine go_ops aMi242 2 _ (f1 := (83, ([(4, .int s0), (0, .ref a0), (1, .int i1), (2, .int i2), (3, .int i3)], [.ref a0, .int (2 : Int32), .ref b78_1]))) rfl ?_
        obtain ⟨b83_2, hxb83_2, h⟩ := Option.bind_eq_some_iff.mp h
        refine gg_gR aMi242 rfl rfl rfl hxb83_2 ?_
        refine go_ops aMi242 3 _ (f1 := (90, ([(4, .int s0), (0, .ref a0), (1, .int i1), (2, .int i2), (3, .int i3)], [.ref a0, .ref a0, .int (8 : Int32), .ref b83_2, .int (2 : Int32), .ref b78_1]))) rfl ?_
        obtain ⟨b90_3, hxb90_3, h⟩ := Option.bind_eq_some_iff.mp h
        refine gg_gR aMi242 rfl rfl rfl hxb90_3 ?_
        refine go_ops aMi242 2 _ (f1 := (95, ([(4, .int s0), (0, .ref a0), (1, .int i1), (2, .int i2), (3, .int i3)], [.ref a0, .int i2, .ref b90_3, .ref a0, .int (8 : Int32), .ref b83_2, .int (2 : Int32), .ref b78_1]))) rfl ?_
        obtain ⟨b95_4, hxb95_4, h⟩ := Option.bind_eq_some_iff.mp h
        refine gg_gR aMi242 rfl rfl rfl hxb95_4 ?_
        refine go_ops aMi242 1 _ (f1 := (99, ([(4, .int s0), (0, .ref a0), (1, .int i1), (2, .int i2), (3, .int i3)], [.int (1 : Int32), .ref b95_4, .int i2, .ref b90_3, .ref a0, .int (8 : Int32), .ref b83_2, .int (2 : Int32), .ref b78_1]))) rfl ?_
        obtain ⟨x99_5, hxx99_5, h⟩ := Option.bind_eq_some_iff.mp h
        refine gg_lI (Or.inl ⟨rfl, rfl⟩) aMi242 rfl hxx99_5 ?_
        obtain ⟨u100_6, hxu100_6, h⟩ := Option.bind_eq_some_iff.mp h
        obtain ⟨r100_7, hxr100_7, h⟩ := Option.bind_eq_some_iff.mp h
        refine gg_cv (as := [.ref b90_3, .int i2, .int x99_5]) (r := [.int (8 : Int32), .ref b83_2, .int (2 : Int32), .ref b78_1]) aMi242 rfl rfl rfl aMi241 (Nat.le_of_ble_eq_true rfl) rfl (Nat.le_of_ble_eq_true rfl) (Nat.le_of_ble_eq_true rfl) (by omega) hxu100_6 (Tf241 (by omega) a0 b90_3 i2 x99_5 I _ hxr100_7) ?_
        show aGo kad d 242 (103, ([(4, .int s0), (0, .ref a0), (1, .int i1), (2, .int i2), (3, .int i3)], [.int r100_7.1, .int (8 : Int32), .ref b83_2, .int (2 : Int32), .ref b78_1])) (aMem Z r100_7.2, t) _
        refine go_ops aMi242 2 _ (f1 := (105, ([(4, .int s0), (0, .ref a0), (1, .int i1), (2, .int i2), (3, .int i3)], [.ref a0, .int ((8 : Int32) * r100_7.1), .ref b83_2, .int (2 : Int32), .ref b78_1]))) rfl ?_
        obtain ⟨b105_8, hxb105_8, h⟩ := Option.bind_eq_some_iff.mp h
        refine gg_gR aMi242 rfl rfl rfl hxb105_8 ?_
        refine go_ops aMi242 1 _ (f1 := (109, ([(4, .int s0), (0, .ref a0), (1, .int i1), (2, .int i2), (3, .int i3)], [.int (1 : Int32), .ref b105_8, .int ((8 : Int32) * r100_7.1), .ref b83_2, .int (2 : Int32), .ref b78_1]))) rfl ?_
        obtain ⟨x109_9, hxx109_9, h⟩ := Option.bind_eq_some_iff.mp h
        refine gg_lI (Or.inl ⟨rfl, rfl⟩) aMi242 rfl hxx109_9 ?_
        refine go_ops aMi242 3 _ (f1 := (114, ([(4, .int s0), (0, .ref a0), (1, .int i1), (2, .int i2), (3, .int i3)], [.int (((8 : Int32) * r100_7.1) + (x109_9 - x109_9 / (8 : Int32) * (8 : Int32))), .ref b83_2, .int (2 : Int32), .ref b78_1]))) rfl ?_
        obtain ⟨x114_10, hxx114_10, h⟩ := Option.bind_eq_some_iff.mp h
        refine gg_lI (Or.inl ⟨rfl, rfl⟩) aMi242 rfl hxx114_10 ?_
        obtain ⟨I115_11, hxI115_11, h⟩ := Option.bind_eq_some_iff.mp h
        refine gg_sI (Or.inl ⟨rfl, rfl⟩) aMi242 rfl hxI115_11 ?_
        refine go_le (lv1 := [(0, .ref a0), (1, .int i1), (2, .int i2), (3, .int i3)]) (aLe_of (show (List.map (fun q => q.1) ([(0, .ref a0), (1, .int i1), (2, .int i2), (3, .int i3)] : ALv)).Nodup from (by show ([0, 1, 2, 3] : List Nat).Nodup; decide)) (aSubL_cons rfl (aSubL_cons rfl (aSubL_cons rfl (aSubL_cons rfl aSubL_nil))))) ?_
        exact Tf242_b116 hd a0 i1 i2 i3 I115_11 _ h
def f242_b56 (kad : Nat → Nat) (N : Nat) (Z : AZ) (a0 : Nat) (i1 : Int32) (i2 : Int32) (i3 : Int32) (I : AI) : Option (Unit × AI) :=
  f242_b61 kad N Z a0 i1 i2 i3 (1 : Int32) I
theorem Tf242_b56 {kad : Nat → Nat} {N : Nat} {Z : AZ} {d : Nat} {t : Option Nat × (Nat × Nat)} (hd : 3 ≤ d) : ∀ (a0 : Nat) (i1 : Int32) (i2 : Int32) (i3 : Int32) (I : AI) (r : Unit × AI), f242_b56 kad N Z a0 i1 i2 i3 I = some r → aGo kad d 242 (56, ([(0, .ref a0), (1, .int i1), (2, .int i2), (3, .int i3)], [])) (aMem Z I, t) (qV Z t r) := by
  intro a0 i1 i2 i3 I r h
  unfold f242_b56 at h
  refine go_ops aMi242 2 _ (f1 := (61, ([(0, .ref a0), (1, .int i1), (2, .int i2), (3, .int i3)], [.int (1 : Int32)]))) rfl ?_
  exact Tf242_b61 hd a0 i1 i2 i3 (1 : Int32) I _ h
def f242_b60 (kad : Nat → Nat) (N : Nat) (Z : AZ) (a0 : Nat) (i1 : Int32) (i2 : Int32) (i3 : Int32) (I : AI) : Option (Unit × AI) :=
  f242_b61 kad N Z a0 i1 i2 i3 (0 : Int32) I
theorem Tf242_b60 {kad : Nat → Nat} {N : Nat} {Z : AZ} {d : Nat} {t : Option Nat × (Nat × Nat)} (hd : 3 ≤ d) : ∀ (a0 : Nat) (i1 : Int32) (i2 : Int32) (i3 : Int32) (I : AI) (r : Unit × AI), f242_b60 kad N Z a0 i1 i2 i3 I = some r → aGo kad d 242 (60, ([(0, .ref a0), (1, .int i1), (2, .int i2), (3, .int i3)], [])) (aMem Z I, t) (qV Z t r) := by
  intro a0 i1 i2 i3 I r h
  unfold f242_b60 at h
  refine go_ops aMi242 1 _ (f1 := (61, ([(0, .ref a0), (1, .int i1), (2, .int i2), (3, .int i3)], [.int (0 : Int32)]))) rfl ?_
  exact Tf242_b61 hd a0 i1 i2 i3 (0 : Int32) I _ h
def f242 (kad : Nat → Nat) (N : Nat) (Z : AZ) (a0 : Nat) (i1 : Int32) (I : AI) : Option (Unit × AI) :=
  (gR Z I 11 50 a0).bind fun b1_1 =>
  (gR Z I 11 26 a0).bind fun b5_2 =>
  (lI Z I 100 b5_2 (0 : Int32)).bind fun x9_3 =>
  (f236 kad N Z b1_1 x9_3 I).bind fun r10_4 =>
  (isK Z a0 11).bind fun u17_5 =>
  (f240 kad N Z a0 i1 r10_4.1 r10_4.2).bind fun r17_6 =>
  if ¬ r17_6.1 = 0 then
    f242_b56 kad N Z a0 i1 r10_4.1 r17_6.1 r17_6.2
  else
    if i1 = (3 : Int32) then
      f242_b56 kad N Z a0 i1 r10_4.1 r17_6.1 r17_6.2
    else
      if i1 = (4 : Int32) then
        f242_b56 kad N Z a0 i1 r10_4.1 r17_6.1 r17_6.2
      else
        if ¬ i1 = (6 : Int32) then
          f242_b60 kad N Z a0 i1 r10_4.1 r17_6.1 r17_6.2
        else
          (gR Z r17_6.2 11 26 a0).bind fun b42_7 =>
          (lI Z r17_6.2 100 b42_7 (0 : Int32)).bind fun x46_8 =>
          (gR Z r17_6.2 11 26 a0).bind fun b48_9 =>
          (lI Z r17_6.2 100 b48_9 (1 : Int32)).bind fun x52_10 =>
          if ¬ x46_8 = x52_10 then
            f242_b60 kad N Z a0 i1 r10_4.1 r17_6.1 r17_6.2
          else
            f242_b56 kad N Z a0 i1 r10_4.1 r17_6.1 r17_6.2
theorem Tf242 {kad : Nat → Nat} {N : Nat} {Z : AZ} {d : Nat} {t : Option Nat × (Nat × Nat)} (hd : 3 ≤ d) : ∀ (a0 : Nat) (i1 : Int32) (I : AI) (r : Unit × AI), f242 kad N Z a0 i1 I = some r → aGo kad d 242 (0, ([(0, .ref a0), (1, .int i1)], [])) (aMem Z I, t) (qV Z t r) := by
  intro a0 i1 I r h
  unfold f242 at h
  refine go_ops aMi242 1 _ (f1 := (1, ([(0, .ref a0), (1, .int i1)], [.ref a0]))) rfl ?_
  obtain ⟨b1_1, hxb1_1, h⟩ := Option.bind_eq_some_iff.mp h
  refine gg_gR aMi242 rfl rfl rfl hxb1_1 ?_
  refine go_ops aMi242 1 _ (f1 := (5, ([(0, .ref a0), (1, .int i1)], [.ref a0, .ref b1_1]))) rfl ?_
  obtain ⟨b5_2, hxb5_2, h⟩ := Option.bind_eq_some_iff.mp h
  refine gg_gR aMi242 rfl rfl rfl hxb5_2 ?_
  refine go_ops aMi242 1 _ (f1 := (9, ([(0, .ref a0), (1, .int i1)], [.int (0 : Int32), .ref b5_2, .ref b1_1]))) rfl ?_
  obtain ⟨x9_3, hxx9_3, h⟩ := Option.bind_eq_some_iff.mp h
  refine gg_lI (Or.inl ⟨rfl, rfl⟩) aMi242 rfl hxx9_3 ?_
  obtain ⟨r10_4, hxr10_4, h⟩ := Option.bind_eq_some_iff.mp h
  refine gg_cs (as := [.ref b1_1, .int x9_3]) (r := []) aMi242 rfl rfl rfl aMi236 rfl (Nat.le_of_ble_eq_true rfl) (Nat.le_of_ble_eq_true rfl) (by omega) (Tf236 (by omega) b1_1 x9_3 I _ hxr10_4) ?_
  show aGo kad d 242 (13, ([(0, .ref a0), (1, .int i1)], [.int r10_4.1])) (aMem Z r10_4.2, t) _
  refine go_ops aMi242 4 _ (f1 := (17, ([(2, .int r10_4.1), (0, .ref a0), (1, .int i1)], [.int r10_4.1, .int i1, .ref a0]))) rfl ?_
  obtain ⟨u17_5, hxu17_5, h⟩ := Option.bind_eq_some_iff.mp h
  obtain ⟨r17_6, hxr17_6, h⟩ := Option.bind_eq_some_iff.mp h
  refine gg_cv (as := [.int i1, .int r10_4.1]) (r := []) aMi242 rfl rfl rfl aMi240 (Nat.le_of_ble_eq_true rfl) rfl (Nat.le_of_ble_eq_true rfl) (Nat.le_of_ble_eq_true rfl) (by omega) hxu17_5 (Tf240 (by omega) a0 i1 r10_4.1 r10_4.2 _ hxr17_6) ?_
  show aGo kad d 242 (20, ([(2, .int r10_4.1), (0, .ref a0), (1, .int i1)], [.int r17_6.1])) (aMem Z r17_6.2, t) _
  refine go_ops aMi242 2 _ (f1 := (22, ([(3, .int r17_6.1), (2, .int r10_4.1), (0, .ref a0), (1, .int i1)], [.int r17_6.1]))) rfl ?_
  refine gg_br (b := decide (¬ r17_6.1 = 0)) (tg := 56) (off := 34) aMi242 rfl rfl rfl rfl (fun hb => ?_) (fun hb => ?_)
  · rw [if_pos (of_decide_eq_true hb)] at h
    refine go_le (lv1 := [(0, .ref a0), (1, .int i1), (2, .int r10_4.1), (3, .int r17_6.1)]) (aLe_of (show (List.map (fun q => q.1) ([(0, .ref a0), (1, .int i1), (2, .int r10_4.1), (3, .int r17_6.1)] : ALv)).Nodup from (by show ([0, 1, 2, 3] : List Nat).Nodup; decide)) (aSubL_cons rfl (aSubL_cons rfl (aSubL_cons rfl (aSubL_cons rfl aSubL_nil))))) ?_
    exact Tf242_b56 hd a0 i1 r10_4.1 r17_6.1 r17_6.2 _ h
  · rw [if_neg (of_decide_eq_false hb)] at h
    refine go_ops aMi242 2 _ (f1 := (27, ([(3, .int r17_6.1), (2, .int r10_4.1), (0, .ref a0), (1, .int i1)], [.int (3 : Int32), .int i1]))) rfl ?_
    refine gg_br (b := decide (i1 = (3 : Int32))) (tg := 56) (off := 29) aMi242 rfl rfl rfl rfl (fun hb => ?_) (fun hb => ?_)
    · rw [if_pos (of_decide_eq_true hb)] at h
      refine go_le (lv1 := [(0, .ref a0), (1, .int i1), (2, .int r10_4.1), (3, .int r17_6.1)]) (aLe_of (show (List.map (fun q => q.1) ([(0, .ref a0), (1, .int i1), (2, .int r10_4.1), (3, .int r17_6.1)] : ALv)).Nodup from (by show ([0, 1, 2, 3] : List Nat).Nodup; decide)) (aSubL_cons rfl (aSubL_cons rfl (aSubL_cons rfl (aSubL_cons rfl aSubL_nil))))) ?_
      exact Tf242_b56 hd a0 i1 r10_4.1 r17_6.1 r17_6.2 _ h
    · rw [if_neg (of_decide_eq_false hb)] at h
      refine go_ops aMi242 2 _ (f1 := (32, ([(3, .int r17_6.1), (2, .int r10_4.1), (0, .ref a0), (1, .int i1)], [.int (4 : Int32), .int i1]))) rfl ?_
      refine gg_br (b := decide (i1 = (4 : Int32))) (tg := 56) (off := 24) aMi242 rfl rfl rfl rfl (fun hb => ?_) (fun hb => ?_)
      · rw [if_pos (of_decide_eq_true hb)] at h
        refine go_le (lv1 := [(0, .ref a0), (1, .int i1), (2, .int r10_4.1), (3, .int r17_6.1)]) (aLe_of (show (List.map (fun q => q.1) ([(0, .ref a0), (1, .int i1), (2, .int r10_4.1), (3, .int r17_6.1)] : ALv)).Nodup from (by show ([0, 1, 2, 3] : List Nat).Nodup; decide)) (aSubL_cons rfl (aSubL_cons rfl (aSubL_cons rfl (aSubL_cons rfl aSubL_nil))))) ?_
        exact Tf242_b56 hd a0 i1 r10_4.1 r17_6.1 r17_6.2 _ h
      · rw [if_neg (of_decide_eq_false hb)] at h
        refine go_ops aMi242 2 _ (f1 := (38, ([(3, .int r17_6.1), (2, .int r10_4.1), (0, .ref a0), (1, .int i1)], [.int (6 : Int32), .int i1]))) rfl ?_
        refine gg_br (b := decide (¬ i1 = (6 : Int32))) (tg := 60) (off := 22) aMi242 rfl rfl rfl rfl (fun hb => ?_) (fun hb => ?_)
        · rw [if_pos (of_decide_eq_true hb)] at h
          refine go_le (lv1 := [(0, .ref a0), (1, .int i1), (2, .int r10_4.1), (3, .int r17_6.1)]) (aLe_of (show (List.map (fun q => q.1) ([(0, .ref a0), (1, .int i1), (2, .int r10_4.1), (3, .int r17_6.1)] : ALv)).Nodup from (by show ([0, 1, 2, 3] : List Nat).Nodup; decide)) (aSubL_cons rfl (aSubL_cons rfl (aSubL_cons rfl (aSubL_cons rfl aSubL_nil))))) ?_
          exact Tf242_b60 hd a0 i1 r10_4.1 r17_6.1 r17_6.2 _ h
        · rw [if_neg (of_decide_eq_false hb)] at h
          refine go_ops aMi242 1 _ (f1 := (42, ([(3, .int r17_6.1), (2, .int r10_4.1), (0, .ref a0), (1, .int i1)], [.ref a0]))) rfl ?_
          obtain ⟨b42_7, hxb42_7, h⟩ := Option.bind_eq_some_iff.mp h
          refine gg_gR aMi242 rfl rfl rfl hxb42_7 ?_
          refine go_ops aMi242 1 _ (f1 := (46, ([(3, .int r17_6.1), (2, .int r10_4.1), (0, .ref a0), (1, .int i1)], [.int (0 : Int32), .ref b42_7]))) rfl ?_
          obtain ⟨x46_8, hxx46_8, h⟩ := Option.bind_eq_some_iff.mp h
          refine gg_lI (Or.inl ⟨rfl, rfl⟩) aMi242 rfl hxx46_8 ?_
          refine go_ops aMi242 1 _ (f1 := (48, ([(3, .int r17_6.1), (2, .int r10_4.1), (0, .ref a0), (1, .int i1)], [.ref a0, .int x46_8]))) rfl ?_
          obtain ⟨b48_9, hxb48_9, h⟩ := Option.bind_eq_some_iff.mp h
          refine gg_gR aMi242 rfl rfl rfl hxb48_9 ?_
          refine go_ops aMi242 1 _ (f1 := (52, ([(3, .int r17_6.1), (2, .int r10_4.1), (0, .ref a0), (1, .int i1)], [.int (1 : Int32), .ref b48_9, .int x46_8]))) rfl ?_
          obtain ⟨x52_10, hxx52_10, h⟩ := Option.bind_eq_some_iff.mp h
          refine gg_lI (Or.inl ⟨rfl, rfl⟩) aMi242 rfl hxx52_10 ?_
          refine gg_br (b := decide (¬ x46_8 = x52_10)) (tg := 60) (off := 7) aMi242 rfl rfl rfl rfl (fun hb => ?_) (fun hb => ?_)
          · rw [if_pos (of_decide_eq_true hb)] at h
            refine go_le (lv1 := [(0, .ref a0), (1, .int i1), (2, .int r10_4.1), (3, .int r17_6.1)]) (aLe_of (show (List.map (fun q => q.1) ([(0, .ref a0), (1, .int i1), (2, .int r10_4.1), (3, .int r17_6.1)] : ALv)).Nodup from (by show ([0, 1, 2, 3] : List Nat).Nodup; decide)) (aSubL_cons rfl (aSubL_cons rfl (aSubL_cons rfl (aSubL_cons rfl aSubL_nil))))) ?_
            exact Tf242_b60 hd a0 i1 r10_4.1 r17_6.1 r17_6.2 _ h
          · rw [if_neg (of_decide_eq_false hb)] at h
            refine go_le (lv1 := [(0, .ref a0), (1, .int i1), (2, .int r10_4.1), (3, .int r17_6.1)]) (aLe_of (show (List.map (fun q => q.1) ([(0, .ref a0), (1, .int i1), (2, .int r10_4.1), (3, .int r17_6.1)] : ALv)).Nodup from (by show ([0, 1, 2, 3] : List Nat).Nodup; decide)) (aSubL_cons rfl (aSubL_cons rfl (aSubL_cons rfl (aSubL_cons rfl aSubL_nil))))) ?_
            exact Tf242_b56 hd a0 i1 r10_4.1 r17_6.1 r17_6.2 _ h
-- KernelGymModel.others (III)V
def f233_b45 (kad : Nat → Nat) (N : Nat) (Z : AZ) (a0 : Nat) (s0 : Int32) (s1 : Nat) (I : AI) : Option (Unit × AI) :=
  (pB Z I 11 30 s1 s0).bind fun I45_1 =>
  (isK Z a0 11).bind fun u50_2 =>
  (f220 kad N Z a0 I45_1).bind fun r50_3 =>
  (pI Z r50_3.2 11 27 a0 r50_3.1).bind fun I53_4 =>
  (pB Z I53_4 11 31 a0 (1 : Int32)).bind fun I58_5 =>
  some ((), I58_5)
theorem Tf233_b45 {kad : Nat → Nat} {N : Nat} {Z : AZ} {d : Nat} {t : Option Nat × (Nat × Nat)} (hd : 4 ≤ d) : ∀ (a0 : Nat) (s0 : Int32) (s1 : Nat) (I : AI) (r : Unit × AI), f233_b45 kad N Z a0 s0 s1 I = some r → aGo kad d 233 (45, ([(0, .ref a0)], [.int s0, .ref s1])) (aMem Z I, t) (qV Z t r) := by
  intro a0 s0 s1 I r h
  unfold f233_b45 at h
  obtain ⟨I45_1, hxI45_1, h⟩ := Option.bind_eq_some_iff.mp h
  refine gg_pB aMi233 rfl rfl rfl rfl (by decide) hxI45_1 ?_
  refine go_ops aMi233 2 _ (f1 := (50, ([(0, .ref a0)], [.ref a0, .ref a0]))) rfl ?_
  obtain ⟨u50_2, hxu50_2, h⟩ := Option.bind_eq_some_iff.mp h
  obtain ⟨r50_3, hxr50_3, h⟩ := Option.bind_eq_some_iff.mp h
  refine gg_cv (as := []) (r := [.ref a0]) aMi233 rfl rfl rfl aMi220 (Nat.le_of_ble_eq_true rfl) rfl (Nat.le_of_ble_eq_true rfl) (Nat.le_of_ble_eq_true rfl) (by omega) hxu50_2 (Tf220 (by omega) a0 I45_1 _ hxr50_3) ?_
  show aGo kad d 233 (53, ([(0, .ref a0)], [.int r50_3.1, .ref a0])) (aMem Z r50_3.2, t) _
  obtain ⟨I53_4, hxI53_4, h⟩ := Option.bind_eq_some_iff.mp h
  refine gg_pI aMi233 rfl rfl rfl rfl (by decide) hxI53_4 ?_
  refine go_ops aMi233 2 _ (f1 := (58, ([(0, .ref a0)], [.int (1 : Int32), .ref a0]))) rfl ?_
  obtain ⟨I58_5, hxI58_5, h⟩ := Option.bind_eq_some_iff.mp h
  refine gg_pB aMi233 rfl rfl rfl rfl (by decide) hxI58_5 ?_
  cases h
  exact go_ret aMi233 rfl rfl ⟨rfl, rfl⟩
def f233_b26 (kad : Nat → Nat) (N : Nat) (Z : AZ) (a0 : Nat) (i4 : Int32) (s0 : Int32) (s1 : Nat) (I : AI) : Option (Unit × AI) :=
  (pB Z I 11 29 s1 s0).bind fun I26_1 =>
  if ¬ ((i4 / (2 : Int32)) - (i4 / (2 : Int32)) / (2 : Int32) * (2 : Int32)) = (1 : Int32) then
    f233_b45 kad N Z a0 (0 : Int32) a0 I26_1
  else
    f233_b45 kad N Z a0 (1 : Int32) a0 I26_1
theorem Tf233_b26 {kad : Nat → Nat} {N : Nat} {Z : AZ} {d : Nat} {t : Option Nat × (Nat × Nat)} (hd : 4 ≤ d) : ∀ (a0 : Nat) (i4 : Int32) (s0 : Int32) (s1 : Nat) (I : AI) (r : Unit × AI), f233_b26 kad N Z a0 i4 s0 s1 I = some r → aGo kad d 233 (26, ([(0, .ref a0), (4, .int i4)], [.int s0, .ref s1])) (aMem Z I, t) (qV Z t r) := by
  intro a0 i4 s0 s1 I r h
  unfold f233_b26 at h
  obtain ⟨I26_1, hxI26_1, h⟩ := Option.bind_eq_some_iff.mp h
  refine gg_pB aMi233 rfl rfl rfl rfl (by decide) hxI26_1 ?_
  refine go_ops aMi233 7 _ (f1 := (37, ([(0, .ref a0), (4, .int i4)], [.int (1 : Int32), .int ((i4 / (2 : Int32)) - (i4 / (2 : Int32)) / (2 : Int32) * (2 : Int32)), .ref a0]))) rfl ?_
  refine gg_br (b := decide (¬ ((i4 / (2 : Int32)) - (i4 / (2 : Int32)) / (2 : Int32) * (2 : Int32)) = (1 : Int32))) (tg := 44) (off := 7) aMi233 rfl rfl rfl rfl (fun hb => ?_) (fun hb => ?_)
  · rw [if_pos (of_decide_eq_true hb)] at h
    refine go_ops aMi233 1 _ (f1 := (45, ([(0, .ref a0), (4, .int i4)], [.int (0 : Int32), .ref a0]))) rfl ?_
    refine go_le (lv1 := [(0, .ref a0)]) (aLe_of (show (List.map (fun q => q.1) ([(0, .ref a0)] : ALv)).Nodup from (by show ([0] : List Nat).Nodup; decide)) (aSubL_cons rfl aSubL_nil)) ?_
    exact Tf233_b45 hd a0 (0 : Int32) a0 I26_1 _ h
  · rw [if_neg (of_decide_eq_false hb)] at h
    refine go_ops aMi233 2 _ (f1 := (45, ([(0, .ref a0), (4, .int i4)], [.int (1 : Int32), .ref a0]))) rfl ?_
    refine go_le (lv1 := [(0, .ref a0)]) (aLe_of (show (List.map (fun q => q.1) ([(0, .ref a0)] : ALv)).Nodup from (by show ([0] : List Nat).Nodup; decide)) (aSubL_cons rfl aSubL_nil)) ?_
    exact Tf233_b45 hd a0 (1 : Int32) a0 I26_1 _ h
def f233_b246 (kad : Nat → Nat) (N : Nat) (Z : AZ)  (I : AI) : Option (Unit × AI) :=
  some ((), I)
theorem Tf233_b246 {kad : Nat → Nat} {N : Nat} {Z : AZ} {d : Nat} {t : Option Nat × (Nat × Nat)} (hd : 4 ≤ d) : ∀  (I : AI) (r : Unit × AI), f233_b246 kad N Z  I = some r → aGo kad d 233 (246, ([], [])) (aMem Z I, t) (qV Z t r) := by
  intro  I r h
  unfold f233_b246 at h
  cases h
  exact go_ret aMi233 rfl rfl ⟨rfl, rfl⟩
def f233_b220 (kad : Nat → Nat) (N : Nat) (Z : AZ) (a0 : Nat) (i1 : Int32) (i3 : Int32) (I : AI) : Option (Unit × AI) :=
  if ¬ i1 = (25 : Int32) then
    f233_b246 kad N Z  I
  else
    (gR Z I 11 36 a0).bind fun b227_1 =>
    (gI Z I 11 37 a0).bind fun x231_2 =>
    (sI Z I 100 b227_1 x231_2 i3).bind fun I235_3 =>
    (gI Z I235_3 11 37 a0).bind fun x238_4 =>
    (pI Z I235_3 11 37 a0 (x238_4 + (1 : Int32))).bind fun I243_5 =>
    f233_b246 kad N Z  I243_5
theorem Tf233_b220 {kad : Nat → Nat} {N : Nat} {Z : AZ} {d : Nat} {t : Option Nat × (Nat × Nat)} (hd : 4 ≤ d) : ∀ (a0 : Nat) (i1 : Int32) (i3 : Int32) (I : AI) (r : Unit × AI), f233_b220 kad N Z a0 i1 i3 I = some r → aGo kad d 233 (220, ([(0, .ref a0), (1, .int i1), (3, .int i3)], [])) (aMem Z I, t) (qV Z t r) := by
  intro a0 i1 i3 I r h
  unfold f233_b220 at h
  refine go_ops aMi233 2 _ (f1 := (223, ([(0, .ref a0), (1, .int i1), (3, .int i3)], [.int (25 : Int32), .int i1]))) rfl ?_
  refine gg_br (b := decide (¬ i1 = (25 : Int32))) (tg := 246) (off := 23) aMi233 rfl rfl rfl rfl (fun hb => ?_) (fun hb => ?_)
  · rw [if_pos (of_decide_eq_true hb)] at h
    refine go_le (lv1 := []) (aLe_of (show (List.map (fun q => q.1) ([] : ALv)).Nodup from (by show ([] : List Nat).Nodup; decide)) aSubL_nil) ?_
    exact Tf233_b246 hd  I _ h
  · rw [if_neg (of_decide_eq_false hb)] at h
    refine go_ops aMi233 1 _ (f1 := (227, ([(0, .ref a0), (1, .int i1), (3, .int i3)], [.ref a0]))) rfl ?_
    obtain ⟨b227_1, hxb227_1, h⟩ := Option.bind_eq_some_iff.mp h
    refine gg_gR aMi233 rfl rfl rfl hxb227_1 ?_
    refine go_ops aMi233 1 _ (f1 := (231, ([(0, .ref a0), (1, .int i1), (3, .int i3)], [.ref a0, .ref b227_1]))) rfl ?_
    obtain ⟨x231_2, hxx231_2, h⟩ := Option.bind_eq_some_iff.mp h
    refine gg_gI aMi233 rfl rfl rfl hxx231_2 ?_
    refine go_ops aMi233 1 _ (f1 := (235, ([(0, .ref a0), (1, .int i1), (3, .int i3)], [.int i3, .int x231_2, .ref b227_1]))) rfl ?_
    obtain ⟨I235_3, hxI235_3, h⟩ := Option.bind_eq_some_iff.mp h
    refine gg_sI (Or.inl ⟨rfl, rfl⟩) aMi233 rfl hxI235_3 ?_
    refine go_ops aMi233 2 _ (f1 := (238, ([(0, .ref a0), (1, .int i1), (3, .int i3)], [.ref a0, .ref a0]))) rfl ?_
    obtain ⟨x238_4, hxx238_4, h⟩ := Option.bind_eq_some_iff.mp h
    refine gg_gI aMi233 rfl rfl rfl hxx238_4 ?_
    refine go_ops aMi233 2 _ (f1 := (243, ([(0, .ref a0), (1, .int i1), (3, .int i3)], [.int (x238_4 + (1 : Int32)), .ref a0]))) rfl ?_
    obtain ⟨I243_5, hxI243_5, h⟩ := Option.bind_eq_some_iff.mp h
    refine gg_pI aMi233 rfl rfl rfl rfl (by decide) hxI243_5 ?_
    refine go_le (lv1 := []) (aLe_of (show (List.map (fun q => q.1) ([] : ALv)).Nodup from (by show ([] : List Nat).Nodup; decide)) aSubL_nil) ?_
    exact Tf233_b246 hd  I243_5 _ h
def f233_b216 (kad : Nat → Nat) (N : Nat) (Z : AZ) (a0 : Nat) (i1 : Int32) (i3 : Int32) (s0 : Int32) (s1 : Int32) (s2 : Nat) (I : AI) : Option (Unit × AI) :=
  (pI Z I 11 39 s2 (s1 + s0)).bind fun I217_1 =>
  f233_b220 kad N Z a0 i1 i3 I217_1
theorem Tf233_b216 {kad : Nat → Nat} {N : Nat} {Z : AZ} {d : Nat} {t : Option Nat × (Nat × Nat)} (hd : 4 ≤ d) : ∀ (a0 : Nat) (i1 : Int32) (i3 : Int32) (s0 : Int32) (s1 : Int32) (s2 : Nat) (I : AI) (r : Unit × AI), f233_b216 kad N Z a0 i1 i3 s0 s1 s2 I = some r → aGo kad d 233 (216, ([(0, .ref a0), (1, .int i1), (3, .int i3)], [.int s0, .int s1, .ref s2])) (aMem Z I, t) (qV Z t r) := by
  intro a0 i1 i3 s0 s1 s2 I r h
  unfold f233_b216 at h
  refine go_ops aMi233 1 _ (f1 := (217, ([(0, .ref a0), (1, .int i1), (3, .int i3)], [.int (s1 + s0), .ref s2]))) rfl ?_
  obtain ⟨I217_1, hxI217_1, h⟩ := Option.bind_eq_some_iff.mp h
  refine gg_pI aMi233 rfl rfl rfl rfl (by decide) hxI217_1 ?_
  exact Tf233_b220 hd a0 i1 i3 I217_1 _ h
def f233_b200 (kad : Nat → Nat) (N : Nat) (Z : AZ) (a0 : Nat) (i1 : Int32) (i3 : Int32) (i4 : Int32) (s0 : Int32) (s1 : Int32) (s2 : Nat) (I : AI) : Option (Unit × AI) :=
  (sI Z I 100 s2 s1 s0).bind fun I200_1 =>
  (gI Z I200_1 11 39 a0).bind fun x203_2 =>
  if i4 = 0 then
    f233_b216 kad N Z a0 i1 i3 (0 : Int32) x203_2 a0 I200_1
  else
    f233_b216 kad N Z a0 i1 i3 (1 : Int32) x203_2 a0 I200_1
theorem Tf233_b200 {kad : Nat → Nat} {N : Nat} {Z : AZ} {d : Nat} {t : Option Nat × (Nat × Nat)} (hd : 4 ≤ d) : ∀ (a0 : Nat) (i1 : Int32) (i3 : Int32) (i4 : Int32) (s0 : Int32) (s1 : Int32) (s2 : Nat) (I : AI) (r : Unit × AI), f233_b200 kad N Z a0 i1 i3 i4 s0 s1 s2 I = some r → aGo kad d 233 (200, ([(0, .ref a0), (1, .int i1), (3, .int i3), (4, .int i4)], [.int s0, .int s1, .ref s2])) (aMem Z I, t) (qV Z t r) := by
  intro a0 i1 i3 i4 s0 s1 s2 I r h
  unfold f233_b200 at h
  obtain ⟨I200_1, hxI200_1, h⟩ := Option.bind_eq_some_iff.mp h
  refine gg_sI (Or.inl ⟨rfl, rfl⟩) aMi233 rfl hxI200_1 ?_
  refine go_ops aMi233 2 _ (f1 := (203, ([(0, .ref a0), (1, .int i1), (3, .int i3), (4, .int i4)], [.ref a0, .ref a0]))) rfl ?_
  obtain ⟨x203_2, hxx203_2, h⟩ := Option.bind_eq_some_iff.mp h
  refine gg_gI aMi233 rfl rfl rfl hxx203_2 ?_
  refine go_ops aMi233 1 _ (f1 := (208, ([(0, .ref a0), (1, .int i1), (3, .int i3), (4, .int i4)], [.int i4, .int x203_2, .ref a0]))) rfl ?_
  refine gg_br (b := decide (i4 = 0)) (tg := 215) (off := 7) aMi233 rfl rfl rfl rfl (fun hb => ?_) (fun hb => ?_)
  · rw [if_pos (of_decide_eq_true hb)] at h
    refine go_ops aMi233 1 _ (f1 := (216, ([(0, .ref a0), (1, .int i1), (3, .int i3), (4, .int i4)], [.int (0 : Int32), .int x203_2, .ref a0]))) rfl ?_
    refine go_le (lv1 := [(0, .ref a0), (1, .int i1), (3, .int i3)]) (aLe_of (show (List.map (fun q => q.1) ([(0, .ref a0), (1, .int i1), (3, .int i3)] : ALv)).Nodup from (by show ([0, 1, 3] : List Nat).Nodup; decide)) (aSubL_cons rfl (aSubL_cons rfl (aSubL_cons rfl aSubL_nil)))) ?_
    exact Tf233_b216 hd a0 i1 i3 (0 : Int32) x203_2 a0 I200_1 _ h
  · rw [if_neg (of_decide_eq_false hb)] at h
    refine go_ops aMi233 2 _ (f1 := (216, ([(0, .ref a0), (1, .int i1), (3, .int i3), (4, .int i4)], [.int (1 : Int32), .int x203_2, .ref a0]))) rfl ?_
    refine go_le (lv1 := [(0, .ref a0), (1, .int i1), (3, .int i3)]) (aLe_of (show (List.map (fun q => q.1) ([(0, .ref a0), (1, .int i1), (3, .int i3)] : ALv)).Nodup from (by show ([0, 1, 3] : List Nat).Nodup; decide)) (aSubL_cons rfl (aSubL_cons rfl (aSubL_cons rfl aSubL_nil)))) ?_
    exact Tf233_b216 hd a0 i1 i3 (1 : Int32) x203_2 a0 I200_1 _ h
def f233_b174 (kad : Nat → Nat) (N : Nat) (Z : AZ) (a0 : Nat) (i1 : Int32) (i2 : Int32) (i3 : Int32) (s0 : Int32) (I : AI) : Option (Unit × AI) :=
  (gR Z I 11 26 a0).bind fun b177_1 =>
  if s0 = 0 then
    f233_b200 kad N Z a0 i1 i3 s0 (65535 : Int32) i2 b177_1 I
  else
    (gR Z I 11 42 a0).bind fun b187_2 =>
    (gI Z I 11 39 a0).bind fun x191_3 =>
    (lI Z I 100 b187_2 x191_3).bind fun x194_4 =>
    f233_b200 kad N Z a0 i1 i3 s0 x194_4 i2 b177_1 I
theorem Tf233_b174 {kad : Nat → Nat} {N : Nat} {Z : AZ} {d : Nat} {t : Option Nat × (Nat × Nat)} (hd : 4 ≤ d) : ∀ (a0 : Nat) (i1 : Int32) (i2 : Int32) (i3 : Int32) (s0 : Int32) (I : AI) (r : Unit × AI), f233_b174 kad N Z a0 i1 i2 i3 s0 I = some r → aGo kad d 233 (174, ([(0, .ref a0), (1, .int i1), (2, .int i2), (3, .int i3)], [.int s0])) (aMem Z I, t) (qV Z t r) := by
  intro a0 i1 i2 i3 s0 I r h
  unfold f233_b174 at h
  refine go_ops aMi233 2 _ (f1 := (177, ([(4, .int s0), (0, .ref a0), (1, .int i1), (2, .int i2), (3, .int i3)], [.ref a0]))) rfl ?_
  obtain ⟨b177_1, hxb177_1, h⟩ := Option.bind_eq_some_iff.mp h
  refine gg_gR aMi233 rfl rfl rfl hxb177_1 ?_
  refine go_ops aMi233 2 _ (f1 := (183, ([(4, .int s0), (0, .ref a0), (1, .int i1), (2, .int i2), (3, .int i3)], [.int s0, .int i2, .ref b177_1]))) rfl ?_
  refine gg_br (b := decide (s0 = 0)) (tg := 198) (off := 15) aMi233 rfl rfl rfl rfl (fun hb => ?_) (fun hb => ?_)
  · rw [if_pos (of_decide_eq_true hb)] at h
    refine gg_kI (Or.inl ⟨rfl, rfl⟩) aMi233 rfl rfl ?_
    refine go_le (lv1 := [(0, .ref a0), (1, .int i1), (3, .int i3), (4, .int s0)]) (aLe_of (show (List.map (fun q => q.1) ([(0, .ref a0), (1, .int i1), (3, .int i3), (4, .int s0)] : ALv)).Nodup from (by show ([0, 1, 3, 4] : List Nat).Nodup; decide)) (aSubL_cons rfl (aSubL_cons rfl (aSubL_cons rfl (aSubL_cons rfl aSubL_nil))))) ?_
    exact Tf233_b200 hd a0 i1 i3 s0 (65535 : Int32) i2 b177_1 I _ h
  · rw [if_neg (of_decide_eq_false hb)] at h
    refine go_ops aMi233 1 _ (f1 := (187, ([(4, .int s0), (0, .ref a0), (1, .int i1), (2, .int i2), (3, .int i3)], [.ref a0, .int i2, .ref b177_1]))) rfl ?_
    obtain ⟨b187_2, hxb187_2, h⟩ := Option.bind_eq_some_iff.mp h
    refine gg_gR aMi233 rfl rfl rfl hxb187_2 ?_
    refine go_ops aMi233 1 _ (f1 := (191, ([(4, .int s0), (0, .ref a0), (1, .int i1), (2, .int i2), (3, .int i3)], [.ref a0, .ref b187_2, .int i2, .ref b177_1]))) rfl ?_
    obtain ⟨x191_3, hxx191_3, h⟩ := Option.bind_eq_some_iff.mp h
    refine gg_gI aMi233 rfl rfl rfl hxx191_3 ?_
    obtain ⟨x194_4, hxx194_4, h⟩ := Option.bind_eq_some_iff.mp h
    refine gg_lI (Or.inl ⟨rfl, rfl⟩) aMi233 rfl hxx194_4 ?_
    refine go_ops aMi233 1 _ (f1 := (200, ([(4, .int s0), (0, .ref a0), (1, .int i1), (2, .int i2), (3, .int i3)], [.int x194_4, .int i2, .ref b177_1]))) rfl ?_
    refine go_le (lv1 := [(0, .ref a0), (1, .int i1), (3, .int i3), (4, .int s0)]) (aLe_of (show (List.map (fun q => q.1) ([(0, .ref a0), (1, .int i1), (3, .int i3), (4, .int s0)] : ALv)).Nodup from (by show ([0, 1, 3, 4] : List Nat).Nodup; decide)) (aSubL_cons rfl (aSubL_cons rfl (aSubL_cons rfl (aSubL_cons rfl aSubL_nil))))) ?_
    exact Tf233_b200 hd a0 i1 i3 s0 x194_4 i2 b177_1 I _ h
def f233_b152 (kad : Nat → Nat) (N : Nat) (Z : AZ) (a0 : Nat) (i1 : Int32) (i2 : Int32) (i3 : Int32) (I : AI) : Option (Unit × AI) :=
  if ¬ i1 = (24 : Int32) then
    f233_b220 kad N Z a0 i1 i3 I
  else
    (gI Z I 11 39 a0).bind fun x159_1 =>
    (isK Z a0 11).bind fun u163_2 =>
    (f225 kad N Z a0 I).bind fun r163_3 =>
    if r163_3.1 ≤ x159_1 then
      f233_b174 kad N Z a0 i1 i2 i3 (0 : Int32) r163_3.2
    else
      f233_b174 kad N Z a0 i1 i2 i3 (1 : Int32) r163_3.2
theorem Tf233_b152 {kad : Nat → Nat} {N : Nat} {Z : AZ} {d : Nat} {t : Option Nat × (Nat × Nat)} (hd : 4 ≤ d) : ∀ (a0 : Nat) (i1 : Int32) (i2 : Int32) (i3 : Int32) (I : AI) (r : Unit × AI), f233_b152 kad N Z a0 i1 i2 i3 I = some r → aGo kad d 233 (152, ([(0, .ref a0), (1, .int i1), (2, .int i2), (3, .int i3)], [])) (aMem Z I, t) (qV Z t r) := by
  intro a0 i1 i2 i3 I r h
  unfold f233_b152 at h
  refine go_ops aMi233 2 _ (f1 := (155, ([(0, .ref a0), (1, .int i1), (2, .int i2), (3, .int i3)], [.int (24 : Int32), .int i1]))) rfl ?_
  refine gg_br (b := decide (¬ i1 = (24 : Int32))) (tg := 220) (off := 65) aMi233 rfl rfl rfl rfl (fun hb => ?_) (fun hb => ?_)
  · rw [if_pos (of_decide_eq_true hb)] at h
    refine go_le (lv1 := [(0, .ref a0), (1, .int i1), (3, .int i3)]) (aLe_of (show (List.map (fun q => q.1) ([(0, .ref a0), (1, .int i1), (3, .int i3)] : ALv)).Nodup from (by show ([0, 1, 3] : List Nat).Nodup; decide)) (aSubL_cons rfl (aSubL_cons rfl (aSubL_cons rfl aSubL_nil)))) ?_
    exact Tf233_b220 hd a0 i1 i3 I _ h
  · rw [if_neg (of_decide_eq_false hb)] at h
    refine go_ops aMi233 1 _ (f1 := (159, ([(0, .ref a0), (1, .int i1), (2, .int i2), (3, .int i3)], [.ref a0]))) rfl ?_
    obtain ⟨x159_1, hxx159_1, h⟩ := Option.bind_eq_some_iff.mp h
    refine gg_gI aMi233 rfl rfl rfl hxx159_1 ?_
    refine go_ops aMi233 1 _ (f1 := (163, ([(0, .ref a0), (1, .int i1), (2, .int i2), (3, .int i3)], [.ref a0, .int x159_1]))) rfl ?_
    obtain ⟨u163_2, hxu163_2, h⟩ := Option.bind_eq_some_iff.mp h
    obtain ⟨r163_3, hxr163_3, h⟩ := Option.bind_eq_some_iff.mp h
    refine gg_cv (as := []) (r := [.int x159_1]) aMi233 rfl rfl rfl aMi225 (Nat.le_of_ble_eq_true rfl) rfl (Nat.le_of_ble_eq_true rfl) (Nat.le_of_ble_eq_true rfl) (by omega) hxu163_2 (Tf225 (by omega) a0 I _ hxr163_3) ?_
    show aGo kad d 233 (166, ([(0, .ref a0), (1, .int i1), (2, .int i2), (3, .int i3)], [.int r163_3.1, .int x159_1])) (aMem Z r163_3.2, t) _
    refine gg_br (b := decide (r163_3.1 ≤ x159_1)) (tg := 173) (off := 7) aMi233 rfl rfl rfl rfl (fun hb => ?_) (fun hb => ?_)
    · rw [if_pos (of_decide_eq_true hb)] at h
      refine go_ops aMi233 1 _ (f1 := (174, ([(0, .ref a0), (1, .int i1), (2, .int i2), (3, .int i3)], [.int (0 : Int32)]))) rfl ?_
      exact Tf233_b174 hd a0 i1 i2 i3 (0 : Int32) r163_3.2 _ h
    · rw [if_neg (of_decide_eq_false hb)] at h
      refine go_ops aMi233 2 _ (f1 := (174, ([(0, .ref a0), (1, .int i1), (2, .int i2), (3, .int i3)], [.int (1 : Int32)]))) rfl ?_
      exact Tf233_b174 hd a0 i1 i2 i3 (1 : Int32) r163_3.2 _ h
def f233_b133 (kad : Nat → Nat) (N : Nat) (Z : AZ) (a0 : Nat) (i1 : Int32) (i2 : Int32) (i3 : Int32) (s0 : Int32) (s1 : Nat) (I : AI) : Option (Unit × AI) :=
  (pB Z I 11 31 s1 s0).bind fun I133_1 =>
  if ¬ i1 = (23 : Int32) then
    f233_b152 kad N Z a0 i1 i2 i3 I133_1
  else
    (pI Z I133_1 11 34 a0 i3).bind fun I144_2 =>
    (pI Z I144_2 11 35 a0 (0 : Int32)).bind fun I149_3 =>
    f233_b152 kad N Z a0 i1 i2 i3 I149_3
theorem Tf233_b133 {kad : Nat → Nat} {N : Nat} {Z : AZ} {d : Nat} {t : Option Nat × (Nat × Nat)} (hd : 4 ≤ d) : ∀ (a0 : Nat) (i1 : Int32) (i2 : Int32) (i3 : Int32) (s0 : Int32) (s1 : Nat) (I : AI) (r : Unit × AI), f233_b133 kad N Z a0 i1 i2 i3 s0 s1 I = some r → aGo kad d 233 (133, ([(0, .ref a0), (1, .int i1), (2, .int i2), (3, .int i3)], [.int s0, .ref s1])) (aMem Z I, t) (qV Z t r) := by
  intro a0 i1 i2 i3 s0 s1 I r h
  unfold f233_b133 at h
  obtain ⟨I133_1, hxI133_1, h⟩ := Option.bind_eq_some_iff.mp h
  refine gg_pB aMi233 rfl rfl rfl rfl (by decide) hxI133_1 ?_
  refine go_ops aMi233 2 _ (f1 := (139, ([(0, .ref a0), (1, .int i1), (2, .int i2), (3, .int i3)], [.int (23 : Int32), .int i1]))) rfl ?_
  refine gg_br (b := decide (¬ i1 = (23 : Int32))) (tg := 152) (off := 13) aMi233 rfl rfl rfl rfl (fun hb => ?_) (fun hb => ?_)
  · rw [if_pos (of_decide_eq_true hb)] at h
    exact Tf233_b152 hd a0 i1 i2 i3 I133_1 _ h
  · rw [if_neg (of_decide_eq_false hb)] at h
    refine go_ops aMi233 2 _ (f1 := (144, ([(0, .ref a0), (1, .int i1), (2, .int i2), (3, .int i3)], [.int i3, .ref a0]))) rfl ?_
    obtain ⟨I144_2, hxI144_2, h⟩ := Option.bind_eq_some_iff.mp h
    refine gg_pI aMi233 rfl rfl rfl rfl (by decide) hxI144_2 ?_
    refine go_ops aMi233 2 _ (f1 := (149, ([(0, .ref a0), (1, .int i1), (2, .int i2), (3, .int i3)], [.int (0 : Int32), .ref a0]))) rfl ?_
    obtain ⟨I149_3, hxI149_3, h⟩ := Option.bind_eq_some_iff.mp h
    refine gg_pI aMi233 rfl rfl rfl rfl (by decide) hxI149_3 ?_
    exact Tf233_b152 hd a0 i1 i2 i3 I149_3 _ h
def f233_b128 (kad : Nat → Nat) (N : Nat) (Z : AZ) (a0 : Nat) (i1 : Int32) (i2 : Int32) (i3 : Int32) (s0 : Nat) (I : AI) : Option (Unit × AI) :=
  f233_b133 kad N Z a0 i1 i2 i3 (1 : Int32) s0 I
theorem Tf233_b128 {kad : Nat → Nat} {N : Nat} {Z : AZ} {d : Nat} {t : Option Nat × (Nat × Nat)} (hd : 4 ≤ d) : ∀ (a0 : Nat) (i1 : Int32) (i2 : Int32) (i3 : Int32) (s0 : Nat) (I : AI) (r : Unit × AI), f233_b128 kad N Z a0 i1 i2 i3 s0 I = some r → aGo kad d 233 (128, ([(0, .ref a0), (1, .int i1), (2, .int i2), (3, .int i3)], [.ref s0])) (aMem Z I, t) (qV Z t r) := by
  intro a0 i1 i2 i3 s0 I r h
  unfold f233_b128 at h
  refine go_ops aMi233 2 _ (f1 := (133, ([(0, .ref a0), (1, .int i1), (2, .int i2), (3, .int i3)], [.int (1 : Int32), .ref s0]))) rfl ?_
  exact Tf233_b133 hd a0 i1 i2 i3 (1 : Int32) s0 I _ h
def f233_b132 (kad : Nat → Nat) (N : Nat) (Z : AZ) (a0 : Nat) (i1 : Int32) (i2 : Int32) (i3 : Int32) (s0 : Nat) (I : AI) : Option (Unit × AI) :=
  f233_b133 kad N Z a0 i1 i2 i3 (0 : Int32) s0 I
theorem Tf233_b132 {kad : Nat → Nat} {N : Nat} {Z : AZ} {d : Nat} {t : Option Nat × (Nat × Nat)} (hd : 4 ≤ d) : ∀ (a0 : Nat) (i1 : Int32) (i2 : Int32) (i3 : Int32) (s0 : Nat) (I : AI) (r : Unit × AI), f233_b132 kad N Z a0 i1 i2 i3 s0 I = some r → aGo kad d 233 (132, ([(0, .ref a0), (1, .int i1), (2, .int i2), (3, .int i3)], [.ref s0])) (aMem Z I, t) (qV Z t r) := by
  intro a0 i1 i2 i3 s0 I r h
  unfold f233_b132 at h
  refine go_ops aMi233 1 _ (f1 := (133, ([(0, .ref a0), (1, .int i1), (2, .int i2), (3, .int i3)], [.int (0 : Int32), .ref s0]))) rfl ?_
  exact Tf233_b133 hd a0 i1 i2 i3 (0 : Int32) s0 I _ h
def f233_b104 (kad : Nat → Nat) (N : Nat) (Z : AZ) (a0 : Nat) (i1 : Int32) (i2 : Int32) (i3 : Int32) (s0 : Int32) (s1 : Int32) (s2 : Nat) (I : AI) : Option (Unit × AI) :=
  (pI Z I 11 27 s2 (s1 + s0)).bind fun I105_1 =>
  if i1 = (19 : Int32) then
    f233_b128 kad N Z a0 i1 i2 i3 a0 I105_1
  else
    if i1 = (20 : Int32) then
      f233_b132 kad N Z a0 i1 i2 i3 a0 I105_1
    else
      (gI Z I105_1 11 31 a0).bind fun x122_2 =>
      if x122_2 = 0 then
        f233_b132 kad N Z a0 i1 i2 i3 a0 I105_1
      else
        f233_b128 kad N Z a0 i1 i2 i3 a0 I105_1
theorem Tf233_b104 {kad : Nat → Nat} {N : Nat} {Z : AZ} {d : Nat} {t : Option Nat × (Nat × Nat)} (hd : 4 ≤ d) : ∀ (a0 : Nat) (i1 : Int32) (i2 : Int32) (i3 : Int32) (s0 : Int32) (s1 : Int32) (s2 : Nat) (I : AI) (r : Unit × AI), f233_b104 kad N Z a0 i1 i2 i3 s0 s1 s2 I = some r → aGo kad d 233 (104, ([(0, .ref a0), (1, .int i1), (2, .int i2), (3, .int i3)], [.int s0, .int s1, .ref s2])) (aMem Z I, t) (qV Z t r) := by
  intro a0 i1 i2 i3 s0 s1 s2 I r h
  unfold f233_b104 at h
  refine go_ops aMi233 1 _ (f1 := (105, ([(0, .ref a0), (1, .int i1), (2, .int i2), (3, .int i3)], [.int (s1 + s0), .ref s2]))) rfl ?_
  obtain ⟨I105_1, hxI105_1, h⟩ := Option.bind_eq_some_iff.mp h
  refine gg_pI aMi233 rfl rfl rfl rfl (by decide) hxI105_1 ?_
  refine go_ops aMi233 3 _ (f1 := (112, ([(0, .ref a0), (1, .int i1), (2, .int i2), (3, .int i3)], [.int (19 : Int32), .int i1, .ref a0]))) rfl ?_
  refine gg_br (b := decide (i1 = (19 : Int32))) (tg := 128) (off := 16) aMi233 rfl rfl rfl rfl (fun hb => ?_) (fun hb => ?_)
  · rw [if_pos (of_decide_eq_true hb)] at h
    exact Tf233_b128 hd a0 i1 i2 i3 a0 I105_1 _ h
  · rw [if_neg (of_decide_eq_false hb)] at h
    refine go_ops aMi233 2 _ (f1 := (118, ([(0, .ref a0), (1, .int i1), (2, .int i2), (3, .int i3)], [.int (20 : Int32), .int i1, .ref a0]))) rfl ?_
    refine gg_br (b := decide (i1 = (20 : Int32))) (tg := 132) (off := 14) aMi233 rfl rfl rfl rfl (fun hb => ?_) (fun hb => ?_)
    · rw [if_pos (of_decide_eq_true hb)] at h
      exact Tf233_b132 hd a0 i1 i2 i3 a0 I105_1 _ h
    · rw [if_neg (of_decide_eq_false hb)] at h
      refine go_ops aMi233 1 _ (f1 := (122, ([(0, .ref a0), (1, .int i1), (2, .int i2), (3, .int i3)], [.ref a0, .ref a0]))) rfl ?_
      obtain ⟨x122_2, hxx122_2, h⟩ := Option.bind_eq_some_iff.mp h
      refine gg_gI aMi233 rfl rfl rfl hxx122_2 ?_
      refine gg_br (b := decide (x122_2 = 0)) (tg := 132) (off := 7) aMi233 rfl rfl rfl rfl (fun hb => ?_) (fun hb => ?_)
      · rw [if_pos (of_decide_eq_true hb)] at h
        exact Tf233_b132 hd a0 i1 i2 i3 a0 I105_1 _ h
      · rw [if_neg (of_decide_eq_false hb)] at h
        exact Tf233_b128 hd a0 i1 i2 i3 a0 I105_1 _ h
def f233_b103 (kad : Nat → Nat) (N : Nat) (Z : AZ) (a0 : Nat) (i1 : Int32) (i2 : Int32) (i3 : Int32) (s0 : Int32) (s1 : Nat) (I : AI) : Option (Unit × AI) :=
  f233_b104 kad N Z a0 i1 i2 i3 (2 : Int32) s0 s1 I
theorem Tf233_b103 {kad : Nat → Nat} {N : Nat} {Z : AZ} {d : Nat} {t : Option Nat × (Nat × Nat)} (hd : 4 ≤ d) : ∀ (a0 : Nat) (i1 : Int32) (i2 : Int32) (i3 : Int32) (s0 : Int32) (s1 : Nat) (I : AI) (r : Unit × AI), f233_b103 kad N Z a0 i1 i2 i3 s0 s1 I = some r → aGo kad d 233 (103, ([(0, .ref a0), (1, .int i1), (2, .int i2), (3, .int i3)], [.int s0, .ref s1])) (aMem Z I, t) (qV Z t r) := by
  intro a0 i1 i2 i3 s0 s1 I r h
  unfold f233_b103 at h
  refine go_ops aMi233 1 _ (f1 := (104, ([(0, .ref a0), (1, .int i1), (2, .int i2), (3, .int i3)], [.int (2 : Int32), .int s0, .ref s1]))) rfl ?_
  exact Tf233_b104 hd a0 i1 i2 i3 (2 : Int32) s0 s1 I _ h
def f233 (kad : Nat → Nat) (N : Nat) (Z : AZ) (a0 : Nat) (i1 : Int32) (i2 : Int32) (i3 : Int32) (I : AI) : Option (Unit × AI) :=
  if ¬ i1 = (21 : Int32) then
    if ¬ i1 = (26 : Int32) then
      (gI Z I 11 27 a0).bind fun x76_1 =>
      if ¬ i1 = (22 : Int32) then
        f233_b103 kad N Z a0 i1 i2 i3 x76_1 a0 I
      else
        (gI Z I 11 32 a0).bind fun x86_2 =>
        if ¬ x86_2 = 0 then
          f233_b103 kad N Z a0 i1 i2 i3 x76_1 a0 I
        else
          (gI Z I 11 33 a0).bind fun x93_3 =>
          if ¬ x93_3 = 0 then
            f233_b103 kad N Z a0 i1 i2 i3 x76_1 a0 I
          else
            f233_b104 kad N Z a0 i1 i2 i3 (0 : Int32) x76_1 a0 I
    else
      (isK Z a0 11).bind fun u70_4 =>
      (f242 kad N Z a0 i3 I).bind fun r70_5 =>
      some ((), r70_5.2)
  else
    (isK Z a0 11).bind fun u7_6 =>
    (f220 kad N Z a0 I).bind fun r7_7 =>
    if ¬ (r7_7.1 - r7_7.1 / (2 : Int32) * (2 : Int32)) = (1 : Int32) then
      f233_b26 kad N Z a0 r7_7.1 (0 : Int32) a0 r7_7.2
    else
      f233_b26 kad N Z a0 r7_7.1 (1 : Int32) a0 r7_7.2
theorem Tf233 {kad : Nat → Nat} {N : Nat} {Z : AZ} {d : Nat} {t : Option Nat × (Nat × Nat)} (hd : 4 ≤ d) : ∀ (a0 : Nat) (i1 : Int32) (i2 : Int32) (i3 : Int32) (I : AI) (r : Unit × AI), f233 kad N Z a0 i1 i2 i3 I = some r → aGo kad d 233 (0, ([(0, .ref a0), (1, .int i1), (2, .int i2), (3, .int i3)], [])) (aMem Z I, t) (qV Z t r) := by
  intro a0 i1 i2 i3 I r h
  unfold f233 at h
  refine go_ops aMi233 2 _ (f1 := (3, ([(0, .ref a0), (1, .int i1), (2, .int i2), (3, .int i3)], [.int (21 : Int32), .int i1]))) rfl ?_
  refine gg_br (b := decide (¬ i1 = (21 : Int32))) (tg := 62) (off := 59) aMi233 rfl rfl rfl rfl (fun hb => ?_) (fun hb => ?_)
  · rw [if_pos (of_decide_eq_true hb)] at h
    refine go_ops aMi233 2 _ (f1 := (65, ([(0, .ref a0), (1, .int i1), (2, .int i2), (3, .int i3)], [.int (26 : Int32), .int i1]))) rfl ?_
    refine gg_br (b := decide (¬ i1 = (26 : Int32))) (tg := 74) (off := 9) aMi233 rfl rfl rfl rfl (fun hb => ?_) (fun hb => ?_)
    · rw [if_pos (of_decide_eq_true hb)] at h
      refine go_ops aMi233 2 _ (f1 := (76, ([(0, .ref a0), (1, .int i1), (2, .int i2), (3, .int i3)], [.ref a0, .ref a0]))) rfl ?_
      obtain ⟨x76_1, hxx76_1, h⟩ := Option.bind_eq_some_iff.mp h
      refine gg_gI aMi233 rfl rfl rfl hxx76_1 ?_
      refine go_ops aMi233 2 _ (f1 := (82, ([(0, .ref a0), (1, .int i1), (2, .int i2), (3, .int i3)], [.int (22 : Int32), .int i1, .int x76_1, .ref a0]))) rfl ?_
      refine gg_br (b := decide (¬ i1 = (22 : Int32))) (tg := 103) (off := 21) aMi233 rfl rfl rfl rfl (fun hb => ?_) (fun hb => ?_)
      · rw [if_pos (of_decide_eq_true hb)] at h
        exact Tf233_b103 hd a0 i1 i2 i3 x76_1 a0 I _ h
      · rw [if_neg (of_decide_eq_false hb)] at h
        refine go_ops aMi233 1 _ (f1 := (86, ([(0, .ref a0), (1, .int i1), (2, .int i2), (3, .int i3)], [.ref a0, .int x76_1, .ref a0]))) rfl ?_
        obtain ⟨x86_2, hxx86_2, h⟩ := Option.bind_eq_some_iff.mp h
        refine gg_gI aMi233 rfl rfl rfl hxx86_2 ?_
        refine gg_br (b := decide (¬ x86_2 = 0)) (tg := 103) (off := 14) aMi233 rfl rfl rfl rfl (fun hb => ?_) (fun hb => ?_)
        · rw [if_pos (of_decide_eq_true hb)] at h
          exact Tf233_b103 hd a0 i1 i2 i3 x76_1 a0 I _ h
        · rw [if_neg (of_decide_eq_false hb)] at h
          refine go_ops aMi233 1 _ (f1 := (93, ([(0, .ref a0), (1, .int i1), (2, .int i2), (3, .int i3)], [.ref a0, .int x76_1, .ref a0]))) rfl ?_
          obtain ⟨x93_3, hxx93_3, h⟩ := Option.bind_eq_some_iff.mp h
          refine gg_gI aMi233 rfl rfl rfl hxx93_3 ?_
          refine gg_br (b := decide (¬ x93_3 = 0)) (tg := 103) (off := 7) aMi233 rfl rfl rfl rfl (fun hb => ?_) (fun hb => ?_)
          · rw [if_pos (of_decide_eq_true hb)] at h
            exact Tf233_b103 hd a0 i1 i2 i3 x76_1 a0 I _ h
          · rw [if_neg (of_decide_eq_false hb)] at h
            refine go_ops aMi233 2 _ (f1 := (104, ([(0, .ref a0), (1, .int i1), (2, .int i2), (3, .int i3)], [.int (0 : Int32), .int x76_1, .ref a0]))) rfl ?_
            exact Tf233_b104 hd a0 i1 i2 i3 (0 : Int32) x76_1 a0 I _ h
    · rw [if_neg (of_decide_eq_false hb)] at h
      refine go_ops aMi233 2 _ (f1 := (70, ([(0, .ref a0), (1, .int i1), (2, .int i2), (3, .int i3)], [.int i3, .ref a0]))) rfl ?_
      obtain ⟨u70_4, hxu70_4, h⟩ := Option.bind_eq_some_iff.mp h
      obtain ⟨r70_5, hxr70_5, h⟩ := Option.bind_eq_some_iff.mp h
      refine gg_cv (as := [.int i3]) (r := []) aMi233 rfl rfl rfl aMi242 (Nat.le_of_ble_eq_true rfl) rfl (Nat.le_of_ble_eq_true rfl) (Nat.le_of_ble_eq_true rfl) (by omega) hxu70_4 (Tf242 (by omega) a0 i3 I _ hxr70_5) ?_
      show aGo kad d 233 (73, ([(0, .ref a0), (1, .int i1), (2, .int i2), (3, .int i3)], [])) (aMem Z r70_5.2, t) _
      cases h
      exact go_ret aMi233 rfl rfl ⟨rfl, rfl⟩
  · rw [if_neg (of_decide_eq_false hb)] at h
    refine go_ops aMi233 1 _ (f1 := (7, ([(0, .ref a0), (1, .int i1), (2, .int i2), (3, .int i3)], [.ref a0]))) rfl ?_
    obtain ⟨u7_6, hxu7_6, h⟩ := Option.bind_eq_some_iff.mp h
    obtain ⟨r7_7, hxr7_7, h⟩ := Option.bind_eq_some_iff.mp h
    refine gg_cv (as := []) (r := []) aMi233 rfl rfl rfl aMi220 (Nat.le_of_ble_eq_true rfl) rfl (Nat.le_of_ble_eq_true rfl) (Nat.le_of_ble_eq_true rfl) (by omega) hxu7_6 (Tf220 (by omega) a0 I _ hxr7_7) ?_
    show aGo kad d 233 (10, ([(0, .ref a0), (1, .int i1), (2, .int i2), (3, .int i3)], [.int r7_7.1])) (aMem Z r7_7.2, t) _
    refine go_ops aMi233 6 _ (f1 := (18, ([(4, .int r7_7.1), (0, .ref a0), (1, .int i1), (2, .int i2), (3, .int i3)], [.int (1 : Int32), .int (r7_7.1 - r7_7.1 / (2 : Int32) * (2 : Int32)), .ref a0]))) rfl ?_
    refine gg_br (b := decide (¬ (r7_7.1 - r7_7.1 / (2 : Int32) * (2 : Int32)) = (1 : Int32))) (tg := 25) (off := 7) aMi233 rfl rfl rfl rfl (fun hb => ?_) (fun hb => ?_)
    · rw [if_pos (of_decide_eq_true hb)] at h
      refine go_ops aMi233 1 _ (f1 := (26, ([(4, .int r7_7.1), (0, .ref a0), (1, .int i1), (2, .int i2), (3, .int i3)], [.int (0 : Int32), .ref a0]))) rfl ?_
      refine go_le (lv1 := [(0, .ref a0), (4, .int r7_7.1)]) (aLe_of (show (List.map (fun q => q.1) ([(0, .ref a0), (4, .int r7_7.1)] : ALv)).Nodup from (by show ([0, 4] : List Nat).Nodup; decide)) (aSubL_cons rfl (aSubL_cons rfl aSubL_nil))) ?_
      exact Tf233_b26 hd a0 r7_7.1 (0 : Int32) a0 r7_7.2 _ h
    · rw [if_neg (of_decide_eq_false hb)] at h
      refine go_ops aMi233 2 _ (f1 := (26, ([(4, .int r7_7.1), (0, .ref a0), (1, .int i1), (2, .int i2), (3, .int i3)], [.int (1 : Int32), .ref a0]))) rfl ?_
      refine go_le (lv1 := [(0, .ref a0), (4, .int r7_7.1)]) (aLe_of (show (List.map (fun q => q.1) ([(0, .ref a0), (4, .int r7_7.1)] : ALv)).Nodup from (by show ([0, 4] : List Nat).Nodup; decide)) (aSubL_cons rfl (aSubL_cons rfl aSubL_nil))) ?_
      exact Tf233_b26 hd a0 r7_7.1 (1 : Int32) a0 r7_7.2 _ h
-- KernelGymModel.instructs ()V
def f228_b161 (kad : Nat → Nat) (N : Nat) (Z : AZ)  (I : AI) : Option (Unit × AI) :=
  some ((), I)
theorem Tf228_b161 {kad : Nat → Nat} {N : Nat} {Z : AZ} {d : Nat} {t : Option Nat × (Nat × Nat)} (hd : 5 ≤ d) : ∀  (I : AI) (r : Unit × AI), f228_b161 kad N Z  I = some r → aGo kad d 228 (161, ([], [])) (aMem Z I, t) (qV Z t r) := by
  intro  I r h
  unfold f228_b161 at h
  cases h
  exact go_ret aMi228 rfl rfl ⟨rfl, rfl⟩
def f228_b76 (kad : Nat → Nat) (N : Nat) (Z : AZ) (a0 : Nat) (i1 : Int32) (i2 : Int32) (s0 : Int32) (I : AI) : Option (Unit × AI) :=
  (isK Z a0 11).bind fun u85_1 =>
  (f227 kad N Z a0 (i1 / (16 : Int32)) s0 I).bind fun r85_2 =>
  if r85_2.1 = 0 then
    if (12 : Int32) ≤ (i1 / (16 : Int32)) then
      if (19 : Int32) ≤ (i1 / (16 : Int32)) then
        (isK Z a0 11).bind fun u158_3 =>
        (f233 kad N Z a0 (i1 / (16 : Int32)) i2 s0 r85_2.2).bind fun r158_4 =>
        f228_b161 kad N Z  r158_4.2
      else
        (isK Z a0 11).bind fun u144_5 =>
        (f232 kad N Z a0 (i1 / (16 : Int32)) i2 s0 r85_2.2).bind fun r144_6 =>
        f228_b161 kad N Z  r144_6.2
    else
      (isK Z a0 11).bind fun u121_7 =>
      (f231 kad N Z a0 (i1 / (16 : Int32)) i2 s0 r85_2.2).bind fun r121_8 =>
      f228_b161 kad N Z  r121_8.2
  else
    (isK Z a0 11).bind fun u98_9 =>
    (f221 kad N Z a0 r85_2.1 r85_2.2).bind fun r98_10 =>
    f228_b161 kad N Z  r98_10.2
theorem Tf228_b76 {kad : Nat → Nat} {N : Nat} {Z : AZ} {d : Nat} {t : Option Nat × (Nat × Nat)} (hd : 5 ≤ d) : ∀ (a0 : Nat) (i1 : Int32) (i2 : Int32) (s0 : Int32) (I : AI) (r : Unit × AI), f228_b76 kad N Z a0 i1 i2 s0 I = some r → aGo kad d 228 (76, ([(0, .ref a0), (1, .int i1), (2, .int i2)], [.int s0])) (aMem Z I, t) (qV Z t r) := by
  intro a0 i1 i2 s0 I r h
  unfold f228_b76 at h
  refine go_ops aMi228 6 _ (f1 := (85, ([(4, .int s0), (0, .ref a0), (1, .int i1), (2, .int i2)], [.int s0, .int (i1 / (16 : Int32)), .ref a0]))) rfl ?_
  obtain ⟨u85_1, hxu85_1, h⟩ := Option.bind_eq_some_iff.mp h
  obtain ⟨r85_2, hxr85_2, h⟩ := Option.bind_eq_some_iff.mp h
  refine gg_cv (as := [.int (i1 / (16 : Int32)), .int s0]) (r := []) aMi228 rfl rfl rfl aMi227 (Nat.le_of_ble_eq_true rfl) rfl (Nat.le_of_ble_eq_true rfl) (Nat.le_of_ble_eq_true rfl) (by omega) hxu85_1 (Tf227 (by omega) a0 (i1 / (16 : Int32)) s0 I _ hxr85_2) ?_
  show aGo kad d 228 (88, ([(4, .int s0), (0, .ref a0), (1, .int i1), (2, .int i2)], [.int r85_2.1])) (aMem Z r85_2.2, t) _
  refine go_ops aMi228 2 _ (f1 := (92, ([(5, .int r85_2.1), (4, .int s0), (0, .ref a0), (1, .int i1), (2, .int i2)], [.int r85_2.1]))) rfl ?_
  refine gg_br (b := decide (r85_2.1 = 0)) (tg := 104) (off := 12) aMi228 rfl rfl rfl rfl (fun hb => ?_) (fun hb => ?_)
  · rw [if_pos (of_decide_eq_true hb)] at h
    refine go_ops aMi228 4 _ (f1 := (110, ([(5, .int r85_2.1), (4, .int s0), (0, .ref a0), (1, .int i1), (2, .int i2)], [.int (12 : Int32), .int (i1 / (16 : Int32))]))) rfl ?_
    refine gg_br (b := decide ((12 : Int32) ≤ (i1 / (16 : Int32)))) (tg := 127) (off := 17) aMi228 rfl rfl rfl rfl (fun hb => ?_) (fun hb => ?_)
    · rw [if_pos (of_decide_eq_true hb)] at h
      refine go_ops aMi228 4 _ (f1 := (133, ([(5, .int r85_2.1), (4, .int s0), (0, .ref a0), (1, .int i1), (2, .int i2)], [.int (19 : Int32), .int (i1 / (16 : Int32))]))) rfl ?_
      refine gg_br (b := decide ((19 : Int32) ≤ (i1 / (16 : Int32)))) (tg := 150) (off := 17) aMi228 rfl rfl rfl rfl (fun hb => ?_) (fun hb => ?_)
      · rw [if_pos (of_decide_eq_true hb)] at h
        refine go_ops aMi228 6 _ (f1 := (158, ([(5, .int r85_2.1), (4, .int s0), (0, .ref a0), (1, .int i1), (2, .int i2)], [.int s0, .int i2, .int (i1 / (16 : Int32)), .ref a0]))) rfl ?_
        obtain ⟨u158_3, hxu158_3, h⟩ := Option.bind_eq_some_iff.mp h
        obtain ⟨r158_4, hxr158_4, h⟩ := Option.bind_eq_some_iff.mp h
        refine gg_cv (as := [.int (i1 / (16 : Int32)), .int i2, .int s0]) (r := []) aMi228 rfl rfl rfl aMi233 (Nat.le_of_ble_eq_true rfl) rfl (Nat.le_of_ble_eq_true rfl) (Nat.le_of_ble_eq_true rfl) (by omega) hxu158_3 (Tf233 (by omega) a0 (i1 / (16 : Int32)) i2 s0 r85_2.2 _ hxr158_4) ?_
        show aGo kad d 228 (161, ([(5, .int r85_2.1), (4, .int s0), (0, .ref a0), (1, .int i1), (2, .int i2)], [])) (aMem Z r158_4.2, t) _
        refine go_le (lv1 := []) (aLe_of (show (List.map (fun q => q.1) ([] : ALv)).Nodup from (by show ([] : List Nat).Nodup; decide)) aSubL_nil) ?_
        exact Tf228_b161 hd  r158_4.2 _ h
      · rw [if_neg (of_decide_eq_false hb)] at h
        refine go_ops aMi228 6 _ (f1 := (144, ([(5, .int r85_2.1), (4, .int s0), (0, .ref a0), (1, .int i1), (2, .int i2)], [.int s0, .int i2, .int (i1 / (16 : Int32)), .ref a0]))) rfl ?_
        obtain ⟨u144_5, hxu144_5, h⟩ := Option.bind_eq_some_iff.mp h
        obtain ⟨r144_6, hxr144_6, h⟩ := Option.bind_eq_some_iff.mp h
        refine gg_cv (as := [.int (i1 / (16 : Int32)), .int i2, .int s0]) (r := []) aMi228 rfl rfl rfl aMi232 (Nat.le_of_ble_eq_true rfl) rfl (Nat.le_of_ble_eq_true rfl) (Nat.le_of_ble_eq_true rfl) (by omega) hxu144_5 (Tf232 (by omega) a0 (i1 / (16 : Int32)) i2 s0 r85_2.2 _ hxr144_6) ?_
        show aGo kad d 228 (147, ([(5, .int r85_2.1), (4, .int s0), (0, .ref a0), (1, .int i1), (2, .int i2)], [])) (aMem Z r144_6.2, t) _
        refine go_ops aMi228 1 _ (f1 := (161, ([(5, .int r85_2.1), (4, .int s0), (0, .ref a0), (1, .int i1), (2, .int i2)], []))) rfl ?_
        refine go_le (lv1 := []) (aLe_of (show (List.map (fun q => q.1) ([] : ALv)).Nodup from (by show ([] : List Nat).Nodup; decide)) aSubL_nil) ?_
        exact Tf228_b161 hd  r144_6.2 _ h
    · rw [if_neg (of_decide_eq_false hb)] at h
      refine go_ops aMi228 6 _ (f1 := (121, ([(5, .int r85_2.1), (4, .int s0), (0, .ref a0), (1, .int i1), (2, .int i2)], [.int s0, .int i2, .int (i1 / (16 : Int32)), .ref a0]))) rfl ?_
      obtain ⟨u121_7, hxu121_7, h⟩ := Option.bind_eq_some_iff.mp h
      obtain ⟨r121_8, hxr121_8, h⟩ := Option.bind_eq_some_iff.mp h
      refine gg_cv (as := [.int (i1 / (16 : Int32)), .int i2, .int s0]) (r := []) aMi228 rfl rfl rfl aMi231 (Nat.le_of_ble_eq_true rfl) rfl (Nat.le_of_ble_eq_true rfl) (Nat.le_of_ble_eq_true rfl) (by omega) hxu121_7 (Tf231 (by omega) a0 (i1 / (16 : Int32)) i2 s0 r85_2.2 _ hxr121_8) ?_
      show aGo kad d 228 (124, ([(5, .int r85_2.1), (4, .int s0), (0, .ref a0), (1, .int i1), (2, .int i2)], [])) (aMem Z r121_8.2, t) _
      refine go_ops aMi228 1 _ (f1 := (161, ([(5, .int r85_2.1), (4, .int s0), (0, .ref a0), (1, .int i1), (2, .int i2)], []))) rfl ?_
      refine go_le (lv1 := []) (aLe_of (show (List.map (fun q => q.1) ([] : ALv)).Nodup from (by show ([] : List Nat).Nodup; decide)) aSubL_nil) ?_
      exact Tf228_b161 hd  r121_8.2 _ h
  · rw [if_neg (of_decide_eq_false hb)] at h
    refine go_ops aMi228 2 _ (f1 := (98, ([(5, .int r85_2.1), (4, .int s0), (0, .ref a0), (1, .int i1), (2, .int i2)], [.int r85_2.1, .ref a0]))) rfl ?_
    obtain ⟨u98_9, hxu98_9, h⟩ := Option.bind_eq_some_iff.mp h
    obtain ⟨r98_10, hxr98_10, h⟩ := Option.bind_eq_some_iff.mp h
    refine gg_cv (as := [.int r85_2.1]) (r := []) aMi228 rfl rfl rfl aMi221 (Nat.le_of_ble_eq_true rfl) rfl (Nat.le_of_ble_eq_true rfl) (Nat.le_of_ble_eq_true rfl) (by omega) hxu98_9 (Tf221 (by omega) a0 r85_2.1 r85_2.2 _ hxr98_10) ?_
    show aGo kad d 228 (101, ([(5, .int r85_2.1), (4, .int s0), (0, .ref a0), (1, .int i1), (2, .int i2)], [])) (aMem Z r98_10.2, t) _
    refine go_ops aMi228 1 _ (f1 := (161, ([(5, .int r85_2.1), (4, .int s0), (0, .ref a0), (1, .int i1), (2, .int i2)], []))) rfl ?_
    refine go_le (lv1 := []) (aLe_of (show (List.map (fun q => q.1) ([] : ALv)).Nodup from (by show ([] : List Nat).Nodup; decide)) aSubL_nil) ?_
    exact Tf228_b161 hd  r98_10.2 _ h
def f228 (kad : Nat → Nat) (N : Nat) (Z : AZ) (a0 : Nat) (I : AI) : Option (Unit × AI) :=
  (gI Z I 11 27 a0).bind fun x1_1 =>
  if x1_1 ≤ (254 : Int32) then
    (gR Z I 11 25 a0).bind fun b17_2 =>
    (gI Z I 11 27 a0).bind fun x21_3 =>
    (lI Z I 100 b17_2 x21_3).bind fun x24_4 =>
    if ¬ ((x24_4 / (4 : Int32)) - (x24_4 / (4 : Int32)) / (4 : Int32) * (4 : Int32)) = (x24_4 - x24_4 / (4 : Int32) * (4 : Int32)) then
      (gR Z I 11 26 a0).bind fun b56_5 =>
      (lI Z I 100 b56_5 (x24_4 - x24_4 / (4 : Int32) * (4 : Int32))).bind fun x60_6 =>
      (gR Z I 11 25 a0).bind fun b62_7 =>
      (gI Z I 11 27 a0).bind fun x66_8 =>
      (lI Z I 100 b62_7 (x66_8 + (1 : Int32))).bind fun x71_9 =>
      f228_b76 kad N Z a0 x24_4 ((x24_4 / (4 : Int32)) - (x24_4 / (4 : Int32)) / (4 : Int32) * (4 : Int32)) ((x60_6 + x71_9) - (x60_6 + x71_9) / (65536 : Int32) * (65536 : Int32)) I
    else
      (gR Z I 11 25 a0).bind fun b42_10 =>
      (gI Z I 11 27 a0).bind fun x46_11 =>
      (lI Z I 100 b42_10 (x46_11 + (1 : Int32))).bind fun x51_12 =>
      f228_b76 kad N Z a0 x24_4 ((x24_4 / (4 : Int32)) - (x24_4 / (4 : Int32)) / (4 : Int32) * (4 : Int32)) x51_12 I
  else
    (isK Z a0 11).bind fun u12_13 =>
    (f221 kad N Z a0 (1 : Int32) I).bind fun r12_14 =>
    some ((), r12_14.2)
theorem Tf228 {kad : Nat → Nat} {N : Nat} {Z : AZ} {d : Nat} {t : Option Nat × (Nat × Nat)} (hd : 5 ≤ d) : ∀ (a0 : Nat) (I : AI) (r : Unit × AI), f228 kad N Z a0 I = some r → aGo kad d 228 (0, ([(0, .ref a0)], [])) (aMem Z I, t) (qV Z t r) := by
  intro a0 I r h
  unfold f228 at h
  refine go_ops aMi228 1 _ (f1 := (1, ([(0, .ref a0)], [.ref a0]))) rfl ?_
  obtain ⟨x1_1, hxx1_1, h⟩ := Option.bind_eq_some_iff.mp h
  refine gg_gI aMi228 rfl rfl rfl hxx1_1 ?_
  refine go_ops aMi228 1 _ (f1 := (7, ([(0, .ref a0)], [.int (254 : Int32), .int x1_1]))) rfl ?_
  refine gg_br (b := decide (x1_1 ≤ (254 : Int32))) (tg := 16) (off := 9) aMi228 rfl rfl rfl rfl (fun hb => ?_) (fun hb => ?_)
  · rw [if_pos (of_decide_eq_true hb)] at h
    refine go_ops aMi228 1 _ (f1 := (17, ([(0, .ref a0)], [.ref a0]))) rfl ?_
    obtain ⟨b17_2, hxb17_2, h⟩ := Option.bind_eq_some_iff.mp h
    refine gg_gR aMi228 rfl rfl rfl hxb17_2 ?_
    refine go_ops aMi228 1 _ (f1 := (21, ([(0, .ref a0)], [.ref a0, .ref b17_2]))) rfl ?_
    obtain ⟨x21_3, hxx21_3, h⟩ := Option.bind_eq_some_iff.mp h
    refine gg_gI aMi228 rfl rfl rfl hxx21_3 ?_
    obtain ⟨x24_4, hxx24_4, h⟩ := Option.bind_eq_some_iff.mp h
    refine gg_lI (Or.inl ⟨rfl, rfl⟩) aMi228 rfl hxx24_4 ?_
    refine go_ops aMi228 13 _ (f1 := (38, ([(3, .int (x24_4 - x24_4 / (4 : Int32) * (4 : Int32))), (2, .int ((x24_4 / (4 : Int32)) - (x24_4 / (4 : Int32)) / (4 : Int32) * (4 : Int32))), (1, .int x24_4), (0, .ref a0)], [.int (x24_4 - x24_4 / (4 : Int32) * (4 : Int32)), .int ((x24_4 / (4 : Int32)) - (x24_4 / (4 : Int32)) / (4 : Int32) * (4 : Int32))]))) rfl ?_
    refine gg_br (b := decide (¬ ((x24_4 / (4 : Int32)) - (x24_4 / (4 : Int32)) / (4 : Int32) * (4 : Int32)) = (x24_4 - x24_4 / (4 : Int32) * (4 : Int32)))) (tg := 55) (off := 17) aMi228 rfl rfl rfl rfl (fun hb => ?_) (fun hb => ?_)
    · rw [if_pos (of_decide_eq_true hb)] at h
      refine go_ops aMi228 1 _ (f1 := (56, ([(3, .int (x24_4 - x24_4 / (4 : Int32) * (4 : Int32))), (2, .int ((x24_4 / (4 : Int32)) - (x24_4 / (4 : Int32)) / (4 : Int32) * (4 : Int32))), (1, .int x24_4), (0, .ref a0)], [.ref a0]))) rfl ?_
      obtain ⟨b56_5, hxb56_5, h⟩ := Option.bind_eq_some_iff.mp h
      refine gg_gR aMi228 rfl rfl rfl hxb56_5 ?_
      refine go_ops aMi228 1 _ (f1 := (60, ([(3, .int (x24_4 - x24_4 / (4 : Int32) * (4 : Int32))), (2, .int ((x24_4 / (4 : Int32)) - (x24_4 / (4 : Int32)) / (4 : Int32) * (4 : Int32))), (1, .int x24_4), (0, .ref a0)], [.int (x24_4 - x24_4 / (4 : Int32) * (4 : Int32)), .ref b56_5]))) rfl ?_
      obtain ⟨x60_6, hxx60_6, h⟩ := Option.bind_eq_some_iff.mp h
      refine gg_lI (Or.inl ⟨rfl, rfl⟩) aMi228 rfl hxx60_6 ?_
      refine go_ops aMi228 1 _ (f1 := (62, ([(3, .int (x24_4 - x24_4 / (4 : Int32) * (4 : Int32))), (2, .int ((x24_4 / (4 : Int32)) - (x24_4 / (4 : Int32)) / (4 : Int32) * (4 : Int32))), (1, .int x24_4), (0, .ref a0)], [.ref a0, .int x60_6]))) rfl ?_
      obtain ⟨b62_7, hxb62_7, h⟩ := Option.bind_eq_some_iff.mp h
      refine gg_gR aMi228 rfl rfl rfl hxb62_7 ?_
      refine go_ops aMi228 1 _ (f1 := (66, ([(3, .int (x24_4 - x24_4 / (4 : Int32) * (4 : Int32))), (2, .int ((x24_4 / (4 : Int32)) - (x24_4 / (4 : Int32)) / (4 : Int32) * (4 : Int32))), (1, .int x24_4), (0, .ref a0)], [.ref a0, .ref b62_7, .int x60_6]))) rfl ?_
      obtain ⟨x66_8, hxx66_8, h⟩ := Option.bind_eq_some_iff.mp h
      refine gg_gI aMi228 rfl rfl rfl hxx66_8 ?_
      refine go_ops aMi228 2 _ (f1 := (71, ([(3, .int (x24_4 - x24_4 / (4 : Int32) * (4 : Int32))), (2, .int ((x24_4 / (4 : Int32)) - (x24_4 / (4 : Int32)) / (4 : Int32) * (4 : Int32))), (1, .int x24_4), (0, .ref a0)], [.int (x66_8 + (1 : Int32)), .ref b62_7, .int x60_6]))) rfl ?_
      obtain ⟨x71_9, hxx71_9, h⟩ := Option.bind_eq_some_iff.mp h
      refine gg_lI (Or.inl ⟨rfl, rfl⟩) aMi228 rfl hxx71_9 ?_
      refine go_ops aMi228 1 _ (f1 := (73, ([(3, .int (x24_4 - x24_4 / (4 : Int32) * (4 : Int32))), (2, .int ((x24_4 / (4 : Int32)) - (x24_4 / (4 : Int32)) / (4 : Int32) * (4 : Int32))), (1, .int x24_4), (0, .ref a0)], [.int (x60_6 + x71_9)]))) rfl ?_
      refine gg_kI (Or.inl ⟨rfl, rfl⟩) aMi228 rfl rfl ?_
      refine go_ops aMi228 1 _ (f1 := (76, ([(3, .int (x24_4 - x24_4 / (4 : Int32) * (4 : Int32))), (2, .int ((x24_4 / (4 : Int32)) - (x24_4 / (4 : Int32)) / (4 : Int32) * (4 : Int32))), (1, .int x24_4), (0, .ref a0)], [.int ((x60_6 + x71_9) - (x60_6 + x71_9) / (65536 : Int32) * (65536 : Int32))]))) rfl ?_
      refine go_le (lv1 := [(0, .ref a0), (1, .int x24_4), (2, .int ((x24_4 / (4 : Int32)) - (x24_4 / (4 : Int32)) / (4 : Int32) * (4 : Int32)))]) (aLe_of (show (List.map (fun q => q.1) ([(0, .ref a0), (1, .int x24_4), (2, .int ((x24_4 / (4 : Int32)) - (x24_4 / (4 : Int32)) / (4 : Int32) * (4 : Int32)))] : ALv)).Nodup from (by show ([0, 1, 2] : List Nat).Nodup; decide)) (aSubL_cons rfl (aSubL_cons rfl (aSubL_cons rfl aSubL_nil)))) ?_
      exact Tf228_b76 hd a0 x24_4 ((x24_4 / (4 : Int32)) - (x24_4 / (4 : Int32)) / (4 : Int32) * (4 : Int32)) ((x60_6 + x71_9) - (x60_6 + x71_9) / (65536 : Int32) * (65536 : Int32)) I _ h
    · rw [if_neg (of_decide_eq_false hb)] at h
      refine go_ops aMi228 1 _ (f1 := (42, ([(3, .int (x24_4 - x24_4 / (4 : Int32) * (4 : Int32))), (2, .int ((x24_4 / (4 : Int32)) - (x24_4 / (4 : Int32)) / (4 : Int32) * (4 : Int32))), (1, .int x24_4), (0, .ref a0)], [.ref a0]))) rfl ?_
      obtain ⟨b42_10, hxb42_10, h⟩ := Option.bind_eq_some_iff.mp h
      refine gg_gR aMi228 rfl rfl rfl hxb42_10 ?_
      refine go_ops aMi228 1 _ (f1 := (46, ([(3, .int (x24_4 - x24_4 / (4 : Int32) * (4 : Int32))), (2, .int ((x24_4 / (4 : Int32)) - (x24_4 / (4 : Int32)) / (4 : Int32) * (4 : Int32))), (1, .int x24_4), (0, .ref a0)], [.ref a0, .ref b42_10]))) rfl ?_
      obtain ⟨x46_11, hxx46_11, h⟩ := Option.bind_eq_some_iff.mp h
      refine gg_gI aMi228 rfl rfl rfl hxx46_11 ?_
      refine go_ops aMi228 2 _ (f1 := (51, ([(3, .int (x24_4 - x24_4 / (4 : Int32) * (4 : Int32))), (2, .int ((x24_4 / (4 : Int32)) - (x24_4 / (4 : Int32)) / (4 : Int32) * (4 : Int32))), (1, .int x24_4), (0, .ref a0)], [.int (x46_11 + (1 : Int32)), .ref b42_10]))) rfl ?_
      obtain ⟨x51_12, hxx51_12, h⟩ := Option.bind_eq_some_iff.mp h
      refine gg_lI (Or.inl ⟨rfl, rfl⟩) aMi228 rfl hxx51_12 ?_
      refine go_ops aMi228 1 _ (f1 := (76, ([(3, .int (x24_4 - x24_4 / (4 : Int32) * (4 : Int32))), (2, .int ((x24_4 / (4 : Int32)) - (x24_4 / (4 : Int32)) / (4 : Int32) * (4 : Int32))), (1, .int x24_4), (0, .ref a0)], [.int x51_12]))) rfl ?_
      refine go_le (lv1 := [(0, .ref a0), (1, .int x24_4), (2, .int ((x24_4 / (4 : Int32)) - (x24_4 / (4 : Int32)) / (4 : Int32) * (4 : Int32)))]) (aLe_of (show (List.map (fun q => q.1) ([(0, .ref a0), (1, .int x24_4), (2, .int ((x24_4 / (4 : Int32)) - (x24_4 / (4 : Int32)) / (4 : Int32) * (4 : Int32)))] : ALv)).Nodup from (by show ([0, 1, 2] : List Nat).Nodup; decide)) (aSubL_cons rfl (aSubL_cons rfl (aSubL_cons rfl aSubL_nil)))) ?_
      exact Tf228_b76 hd a0 x24_4 ((x24_4 / (4 : Int32)) - (x24_4 / (4 : Int32)) / (4 : Int32) * (4 : Int32)) x51_12 I _ h
  · rw [if_neg (of_decide_eq_false hb)] at h
    refine go_ops aMi228 2 _ (f1 := (12, ([(0, .ref a0)], [.int (1 : Int32), .ref a0]))) rfl ?_
    obtain ⟨u12_13, hxu12_13, h⟩ := Option.bind_eq_some_iff.mp h
    obtain ⟨r12_14, hxr12_14, h⟩ := Option.bind_eq_some_iff.mp h
    refine gg_cv (as := [.int (1 : Int32)]) (r := []) aMi228 rfl rfl rfl aMi221 (Nat.le_of_ble_eq_true rfl) rfl (Nat.le_of_ble_eq_true rfl) (Nat.le_of_ble_eq_true rfl) (by omega) hxu12_13 (Tf221 (by omega) a0 (1 : Int32) I _ hxr12_14) ?_
    show aGo kad d 228 (15, ([(0, .ref a0)], [])) (aMem Z r12_14.2, t) _
    cases h
    exact go_ret aMi228 rfl rfl ⟨rfl, rfl⟩
-- KernelGymModel.writesHead (Z)V
def f251_b82 (kad : Nat → Nat) (N : Nat) (Z : AZ) : Nat → Nat → Int32 → Int32 → AI → Option (Unit × AI)
  | 0, _, _, _, _ => none
  | F + 1, a0, i2, i3, I =>
    (gI Z I 11 47 a0).bind fun x86_1 =>
    if ((8 : Int32) * x86_1) ≤ i3 then
      (gR Z I 11 50 a0).bind fun b109_2 =>
      (sI Z I 100 b109_2 (4 : Int32) (i2 - i2 / (65536 : Int32) * (65536 : Int32))).bind fun I117_3 =>
      some ((), I117_3)
    else
      (gR Z I 11 49 a0).bind fun b95_4 =>
      (lI Z I 100 b95_4 i3).bind fun x99_5 =>
      f251_b82 kad N Z F a0 (i2 + x99_5) (i3 + (1 : Int32)) I
theorem Tf251_b82 {kad : Nat → Nat} {N : Nat} {Z : AZ} {d : Nat} {t : Option Nat × (Nat × Nat)} (hd : 0 ≤ d) : ∀ (F : Nat) (a0 : Nat) (i2 : Int32) (i3 : Int32) (I : AI) (r : Unit × AI), f251_b82 kad N Z F a0 i2 i3 I = some r → aGo kad d 251 (82, ([(0, .ref a0), (2, .int i2), (3, .int i3)], [])) (aMem Z I, t) (qV Z t r) := by
  intro F
  induction F with
  | zero => intro a0 i2 i3 I r h; cases h
  | succ F ih =>
    intro a0 i2 i3 I r h
    unfold f251_b82 at h
    refine go_ops aMi251 3 _ (f1 := (86, ([(0, .ref a0), (2, .int i2), (3, .int i3)], [.ref a0, .int (8 : Int32), .int i3]))) rfl ?_
    obtain ⟨x86_1, hxx86_1, h⟩ := Option.bind_eq_some_iff.mp h
    refine gg_gI aMi251 rfl rfl rfl hxx86_1 ?_
    refine go_ops aMi251 1 _ (f1 := (90, ([(0, .ref a0), (2, .int i2), (3, .int i3)], [.int ((8 : Int32) * x86_1), .int i3]))) rfl ?_
    refine gg_br (b := decide (((8 : Int32) * x86_1) ≤ i3)) (tg := 108) (off := 18) aMi251 rfl rfl rfl rfl (fun hb => ?_) (fun hb => ?_)
    · rw [if_pos (of_decide_eq_true hb)] at h
      refine go_ops aMi251 1 _ (f1 := (109, ([(0, .ref a0), (2, .int i2), (3, .int i3)], [.ref a0]))) rfl ?_
      obtain ⟨b109_2, hxb109_2, h⟩ := Option.bind_eq_some_iff.mp h
      refine gg_gR aMi251 rfl rfl rfl hxb109_2 ?_
      refine go_ops aMi251 2 _ (f1 := (114, ([(0, .ref a0), (2, .int i2), (3, .int i3)], [.int i2, .int (4 : Int32), .ref b109_2]))) rfl ?_
      refine gg_kI (Or.inl ⟨rfl, rfl⟩) aMi251 rfl rfl ?_
      refine go_ops aMi251 1 _ (f1 := (117, ([(0, .ref a0), (2, .int i2), (3, .int i3)], [.int (i2 - i2 / (65536 : Int32) * (65536 : Int32)), .int (4 : Int32), .ref b109_2]))) rfl ?_
      obtain ⟨I117_3, hxI117_3, h⟩ := Option.bind_eq_some_iff.mp h
      refine gg_sI (Or.inl ⟨rfl, rfl⟩) aMi251 rfl hxI117_3 ?_
      cases h
      exact go_ret aMi251 rfl rfl ⟨rfl, rfl⟩
    · rw [if_neg (of_decide_eq_false hb)] at h
      refine go_ops aMi251 2 _ (f1 := (95, ([(0, .ref a0), (2, .int i2), (3, .int i3)], [.ref a0, .int i2]))) rfl ?_
      obtain ⟨b95_4, hxb95_4, h⟩ := Option.bind_eq_some_iff.mp h
      refine gg_gR aMi251 rfl rfl rfl hxb95_4 ?_
      refine go_ops aMi251 1 _ (f1 := (99, ([(0, .ref a0), (2, .int i2), (3, .int i3)], [.int i3, .ref b95_4, .int i2]))) rfl ?_
      obtain ⟨x99_5, hxx99_5, h⟩ := Option.bind_eq_some_iff.mp h
      refine gg_lI (Or.inl ⟨rfl, rfl⟩) aMi251 rfl hxx99_5 ?_
      refine go_ops aMi251 4 _ (f1 := (82, ([(3, .int (i3 + (1 : Int32))), (2, .int (i2 + x99_5)), (0, .ref a0)], []))) rfl ?_
      refine go_le (lv1 := [(0, .ref a0), (2, .int (i2 + x99_5)), (3, .int (i3 + (1 : Int32)))]) (aLe_of (show (List.map (fun q => q.1) ([(0, .ref a0), (2, .int (i2 + x99_5)), (3, .int (i3 + (1 : Int32)))] : ALv)).Nodup from (by show ([0, 2, 3] : List Nat).Nodup; decide)) (aSubL_cons rfl (aSubL_cons rfl (aSubL_cons rfl aSubL_nil)))) ?_
      exact ih a0 (i2 + x99_5) (i3 + (1 : Int32)) I _ h
def f251_b43 (kad : Nat → Nat) (N : Nat) (Z : AZ) : Nat → Nat → Int32 → Int32 → AI → Option (Unit × AI)
  | 0, _, _, _, _ => none
  | F + 1, a0, i2, i3, I =>
    (gI Z I 11 47 a0).bind fun x45_1 =>
    if x45_1 ≤ i3 then
      f251_b82 kad N Z N a0 i2 (0 : Int32) I
    else
      (gR Z I 11 50 a0).bind fun b52_2 =>
      (gR Z I 11 48 a0).bind fun b59_3 =>
      (lI Z I 100 b59_3 i3).bind fun x63_4 =>
      (sI Z I 100 b52_2 ((1 : Int32) + i3) x63_4).bind fun I64_5 =>
      (gR Z I64_5 11 48 a0).bind fun b67_6 =>
      (lI Z I64_5 100 b67_6 i3).bind fun x71_7 =>
      f251_b43 kad N Z F a0 (i2 + x71_7) (i3 + (1 : Int32)) I64_5
theorem Tf251_b43 {kad : Nat → Nat} {N : Nat} {Z : AZ} {d : Nat} {t : Option Nat × (Nat × Nat)} (hd : 0 ≤ d) : ∀ (F : Nat) (a0 : Nat) (i2 : Int32) (i3 : Int32) (I : AI) (r : Unit × AI), f251_b43 kad N Z F a0 i2 i3 I = some r → aGo kad d 251 (43, ([(0, .ref a0), (2, .int i2), (3, .int i3)], [])) (aMem Z I, t) (qV Z t r) := by
  intro F
  induction F with
  | zero => intro a0 i2 i3 I r h; cases h
  | succ F ih =>
    intro a0 i2 i3 I r h
    unfold f251_b43 at h
    refine go_ops aMi251 2 _ (f1 := (45, ([(0, .ref a0), (2, .int i2), (3, .int i3)], [.ref a0, .int i3]))) rfl ?_
    obtain ⟨x45_1, hxx45_1, h⟩ := Option.bind_eq_some_iff.mp h
    refine gg_gI aMi251 rfl rfl rfl hxx45_1 ?_
    refine gg_br (b := decide (x45_1 ≤ i3)) (tg := 80) (off := 32) aMi251 rfl rfl rfl rfl (fun hb => ?_) (fun hb => ?_)
    · rw [if_pos (of_decide_eq_true hb)] at h
      refine go_ops aMi251 2 _ (f1 := (82, ([(3, .int (0 : Int32)), (0, .ref a0), (2, .int i2)], []))) rfl ?_
      refine go_le (lv1 := [(0, .ref a0), (2, .int i2), (3, .int (0 : Int32))]) (aLe_of (show (List.map (fun q => q.1) ([(0, .ref a0), (2, .int i2), (3, .int (0 : Int32))] : ALv)).Nodup from (by show ([0, 2, 3] : List Nat).Nodup; decide)) (aSubL_cons rfl (aSubL_cons rfl (aSubL_cons rfl aSubL_nil)))) ?_
      exact Tf251_b82 hd N a0 i2 (0 : Int32) I _ h
    · rw [if_neg (of_decide_eq_false hb)] at h
      refine go_ops aMi251 1 _ (f1 := (52, ([(0, .ref a0), (2, .int i2), (3, .int i3)], [.ref a0]))) rfl ?_
      obtain ⟨b52_2, hxb52_2, h⟩ := Option.bind_eq_some_iff.mp h
      refine gg_gR aMi251 rfl rfl rfl hxb52_2 ?_
      refine go_ops aMi251 4 _ (f1 := (59, ([(0, .ref a0), (2, .int i2), (3, .int i3)], [.ref a0, .int ((1 : Int32) + i3), .ref b52_2]))) rfl ?_
      obtain ⟨b59_3, hxb59_3, h⟩ := Option.bind_eq_some_iff.mp h
      refine gg_gR aMi251 rfl rfl rfl hxb59_3 ?_
      refine go_ops aMi251 1 _ (f1 := (63, ([(0, .ref a0), (2, .int i2), (3, .int i3)], [.int i3, .ref b59_3, .int ((1 : Int32) + i3), .ref b52_2]))) rfl ?_
      obtain ⟨x63_4, hxx63_4, h⟩ := Option.bind_eq_some_iff.mp h
      refine gg_lI (Or.inl ⟨rfl, rfl⟩) aMi251 rfl hxx63_4 ?_
      obtain ⟨I64_5, hxI64_5, h⟩ := Option.bind_eq_some_iff.mp h
      refine gg_sI (Or.inl ⟨rfl, rfl⟩) aMi251 rfl hxI64_5 ?_
      refine go_ops aMi251 2 _ (f1 := (67, ([(0, .ref a0), (2, .int i2), (3, .int i3)], [.ref a0, .int i2]))) rfl ?_
      obtain ⟨b67_6, hxb67_6, h⟩ := Option.bind_eq_some_iff.mp h
      refine gg_gR aMi251 rfl rfl rfl hxb67_6 ?_
      refine go_ops aMi251 1 _ (f1 := (71, ([(0, .ref a0), (2, .int i2), (3, .int i3)], [.int i3, .ref b67_6, .int i2]))) rfl ?_
      obtain ⟨x71_7, hxx71_7, h⟩ := Option.bind_eq_some_iff.mp h
      refine gg_lI (Or.inl ⟨rfl, rfl⟩) aMi251 rfl hxx71_7 ?_
      refine go_ops aMi251 4 _ (f1 := (43, ([(3, .int (i3 + (1 : Int32))), (2, .int (i2 + x71_7)), (0, .ref a0)], []))) rfl ?_
      refine go_le (lv1 := [(0, .ref a0), (2, .int (i2 + x71_7)), (3, .int (i3 + (1 : Int32)))]) (aLe_of (show (List.map (fun q => q.1) ([(0, .ref a0), (2, .int (i2 + x71_7)), (3, .int (i3 + (1 : Int32)))] : ALv)).Nodup from (by show ([0, 2, 3] : List Nat).Nodup; decide)) (aSubL_cons rfl (aSubL_cons rfl (aSubL_cons rfl aSubL_nil)))) ?_
      exact ih a0 (i2 + x71_7) (i3 + (1 : Int32)) I64_5 _ h
def f251_b2 (kad : Nat → Nat) (N : Nat) (Z : AZ) : Nat → Nat → Int32 → Int32 → AI → Option (Unit × AI)
  | 0, _, _, _, _ => none
  | F + 1, a0, i1, i2, I =>
    if (8 : Int32) ≤ i2 then
      if ¬ i1 = 0 then
        (gI Z I 11 47 a0).bind fun x27_1 =>
        (gR Z I 11 50 a0).bind fun b32_2 =>
        (gI Z I 11 47 a0).bind fun x37_3 =>
        (sI Z I 100 b32_2 (0 : Int32) x37_3).bind fun I40_4 =>
        f251_b43 kad N Z N a0 x27_1 (0 : Int32) I40_4
      else
        some ((), I)
    else
      (gR Z I 11 50 a0).bind fun b9_5 =>
      (sI Z I 100 b9_5 i2 (0 : Int32)).bind fun I14_6 =>
      f251_b2 kad N Z F a0 i1 (i2 + (1 : Int32)) I14_6
theorem Tf251_b2 {kad : Nat → Nat} {N : Nat} {Z : AZ} {d : Nat} {t : Option Nat × (Nat × Nat)} (hd : 0 ≤ d) : ∀ (F : Nat) (a0 : Nat) (i1 : Int32) (i2 : Int32) (I : AI) (r : Unit × AI), f251_b2 kad N Z F a0 i1 i2 I = some r → aGo kad d 251 (2, ([(0, .ref a0), (1, .int i1), (2, .int i2)], [])) (aMem Z I, t) (qV Z t r) := by
  intro F
  induction F with
  | zero => intro a0 i1 i2 I r h; cases h
  | succ F ih =>
    intro a0 i1 i2 I r h
    unfold f251_b2 at h
    refine go_ops aMi251 2 _ (f1 := (5, ([(0, .ref a0), (1, .int i1), (2, .int i2)], [.int (8 : Int32), .int i2]))) rfl ?_
    refine gg_br (b := decide ((8 : Int32) ≤ i2)) (tg := 21) (off := 16) aMi251 rfl rfl rfl rfl (fun hb => ?_) (fun hb => ?_)
    · rw [if_pos (of_decide_eq_true hb)] at h
      refine go_ops aMi251 1 _ (f1 := (22, ([(0, .ref a0), (1, .int i1), (2, .int i2)], [.int i1]))) rfl ?_
      refine gg_br (b := decide (¬ i1 = 0)) (tg := 26) (off := 4) aMi251 rfl rfl rfl rfl (fun hb => ?_) (fun hb => ?_)
      · rw [if_pos (of_decide_eq_true hb)] at h
        refine go_ops aMi251 1 _ (f1 := (27, ([(0, .ref a0), (1, .int i1), (2, .int i2)], [.ref a0]))) rfl ?_
        obtain ⟨x27_1, hxx27_1, h⟩ := Option.bind_eq_some_iff.mp h
        refine gg_gI aMi251 rfl rfl rfl hxx27_1 ?_
        refine go_ops aMi251 2 _ (f1 := (32, ([(2, .int x27_1), (0, .ref a0), (1, .int i1)], [.ref a0]))) rfl ?_
        obtain ⟨b32_2, hxb32_2, h⟩ := Option.bind_eq_some_iff.mp h
        refine gg_gR aMi251 rfl rfl rfl hxb32_2 ?_
        refine go_ops aMi251 2 _ (f1 := (37, ([(2, .int x27_1), (0, .ref a0), (1, .int i1)], [.ref a0, .int (0 : Int32), .ref b32_2]))) rfl ?_
        obtain ⟨x37_3, hxx37_3, h⟩ := Option.bind_eq_some_iff.mp h
        refine gg_gI aMi251 rfl rfl rfl hxx37_3 ?_
        obtain ⟨I40_4, hxI40_4, h⟩ := Option.bind_eq_some_iff.mp h
        refine gg_sI (Or.inl ⟨rfl, rfl⟩) aMi251 rfl hxI40_4 ?_
        refine go_ops aMi251 2 _ (f1 := (43, ([(3, .int (0 : Int32)), (2, .int x27_1), (0, .ref a0), (1, .int i1)], []))) rfl ?_
        refine go_le (lv1 := [(0, .ref a0), (2, .int x27_1), (3, .int (0 : Int32))]) (aLe_of (show (List.map (fun q => q.1) ([(0, .ref a0), (2, .int x27_1), (3, .int (0 : Int32))] : ALv)).Nodup from (by show ([0, 2, 3] : List Nat).Nodup; decide)) (aSubL_cons rfl (aSubL_cons rfl (aSubL_cons rfl aSubL_nil)))) ?_
        exact Tf251_b43 hd N a0 x27_1 (0 : Int32) I40_4 _ h
      · rw [if_neg (of_decide_eq_false hb)] at h
        cases h
        exact go_ret aMi251 rfl rfl ⟨rfl, rfl⟩
    · rw [if_neg (of_decide_eq_false hb)] at h
      refine go_ops aMi251 1 _ (f1 := (9, ([(0, .ref a0), (1, .int i1), (2, .int i2)], [.ref a0]))) rfl ?_
      obtain ⟨b9_5, hxb9_5, h⟩ := Option.bind_eq_some_iff.mp h
      refine gg_gR aMi251 rfl rfl rfl hxb9_5 ?_
      refine go_ops aMi251 2 _ (f1 := (14, ([(0, .ref a0), (1, .int i1), (2, .int i2)], [.int (0 : Int32), .int i2, .ref b9_5]))) rfl ?_
      obtain ⟨I14_6, hxI14_6, h⟩ := Option.bind_eq_some_iff.mp h
      refine gg_sI (Or.inl ⟨rfl, rfl⟩) aMi251 rfl hxI14_6 ?_
      refine go_ops aMi251 2 _ (f1 := (2, ([(2, .int (i2 + (1 : Int32))), (0, .ref a0), (1, .int i1)], []))) rfl ?_
      refine go_le (lv1 := [(0, .ref a0), (1, .int i1), (2, .int (i2 + (1 : Int32)))]) (aLe_of (show (List.map (fun q => q.1) ([(0, .ref a0), (1, .int i1), (2, .int (i2 + (1 : Int32)))] : ALv)).Nodup from (by show ([0, 1, 2] : List Nat).Nodup; decide)) (aSubL_cons rfl (aSubL_cons rfl (aSubL_cons rfl aSubL_nil)))) ?_
      exact ih a0 i1 (i2 + (1 : Int32)) I14_6 _ h
def f251 (kad : Nat → Nat) (N : Nat) (Z : AZ) (a0 : Nat) (i1 : Int32) (I : AI) : Option (Unit × AI) :=
  f251_b2 kad N Z N a0 i1 (0 : Int32) I
theorem Tf251 {kad : Nat → Nat} {N : Nat} {Z : AZ} {d : Nat} {t : Option Nat × (Nat × Nat)} (hd : 0 ≤ d) : ∀ (a0 : Nat) (i1 : Int32) (I : AI) (r : Unit × AI), f251 kad N Z a0 i1 I = some r → aGo kad d 251 (0, ([(0, .ref a0), (1, .int i1)], [])) (aMem Z I, t) (qV Z t r) := by
  intro a0 i1 I r h
  unfold f251 at h
  refine go_ops aMi251 2 _ (f1 := (2, ([(2, .int (0 : Int32)), (0, .ref a0), (1, .int i1)], []))) rfl ?_
  refine go_le (lv1 := [(0, .ref a0), (1, .int i1), (2, .int (0 : Int32))]) (aLe_of (show (List.map (fun q => q.1) ([(0, .ref a0), (1, .int i1), (2, .int (0 : Int32))] : ALv)).Nodup from (by show ([0, 1, 2] : List Nat).Nodup; decide)) (aSubL_cons rfl (aSubL_cons rfl (aSubL_cons rfl aSubL_nil)))) ?_
  exact Tf251_b2 hd N a0 i1 (0 : Int32) I _ h
