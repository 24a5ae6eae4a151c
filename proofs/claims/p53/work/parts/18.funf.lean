-- KernelGym$Machine.sumWith (II)I
def f113 (kad : Nat → Nat) (N : Nat) (Z : AZ) (i0 : Int32) (i1 : Int32) (I : AI) : Option (Int32 × AI) :=
  some (((((31 : Int32) * i0) + i1) - (((31 : Int32) * i0) + i1) / (1000003 : Int32) * (1000003 : Int32)), I)
set_option maxRecDepth 20000 in
theorem Tf113 {kad : Nat → Nat} {N : Nat} {Z : AZ} {d : Nat} {t : Option Nat × (Nat × Nat)} (hd : 0 ≤ d) : ∀ (i0 : Int32) (i1 : Int32) (I : AI) (r : Int32 × AI), f113 kad N Z i0 i1 I = some r → aGo kad d 113 (0, ([(0, .int i0), (1, .int i1)], [])) (aMem Z I, t) (qI Z t r) := by
  intro i0 i1 I r h
  unfold f113 at h
  refine go_ops aMi113 5 _ (f1 := (6, ([(0, .int i0), (1, .int i1)], [.int (((31 : Int32) * i0) + i1)]))) rfl ?_
  refine gg_kI (Or.inr ⟨rfl, rfl⟩) aMi113 rfl rfl ?_
  refine go_ops aMi113 1 _ (f1 := (10, ([(0, .int i0), (1, .int i1)], [.int ((((31 : Int32) * i0) + i1) - (((31 : Int32) * i0) + i1) / (1000003 : Int32) * (1000003 : Int32))]))) rfl ?_
  cases h
  exact go_ret aMi113 rfl aRetI ⟨rfl, rfl⟩
-- KernelGym$Machine.sumWithAll (I[II)I
def f114_b33 (kad : Nat → Nat) (N : Nat) (Z : AZ) (i3 : Int32) (I : AI) : Option (Int32 × AI) :=
  some (i3, I)
set_option maxRecDepth 20000 in
theorem Tf114_b33 {kad : Nat → Nat} {N : Nat} {Z : AZ} {d : Nat} {t : Option Nat × (Nat × Nat)} (hd : 1 ≤ d) : ∀ (i3 : Int32) (I : AI) (r : Int32 × AI), f114_b33 kad N Z i3 I = some r → aGo kad d 114 (33, ([(3, .int i3)], [])) (aMem Z I, t) (qI Z t r) := by
  intro i3 I r h
  unfold f114_b33 at h
  refine go_ops aMi114 1 _ (f1 := (34, ([(3, .int i3)], [.int i3]))) rfl ?_
  cases h
  exact go_ret aMi114 rfl aRetI ⟨rfl, rfl⟩
def f114_b5 (kad : Nat → Nat) (N : Nat) (Z : AZ) : Nat → Nat → Int32 → Int32 → Int32 → AI → Option (Int32 × AI)
  | 0, _, _, _, _, _ => none
  | F + 1, b1, i2, i3, i4, I =>
    if i2 ≤ i4 then
      f114_b33 kad N Z i3 I
    else
      (nL Z b1).bind fun x14_1 =>
      if x14_1 ≤ i4 then
        f114_b33 kad N Z i3 I
      else
        (lI Z I 100 b1 i4).bind fun x22_2 =>
        (f113 kad N Z i3 x22_2 I).bind fun r23_3 =>
        f114_b5 kad N Z F b1 i2 r23_3.1 (i4 + (1 : Int32)) r23_3.2
set_option maxRecDepth 20000 in
theorem Tf114_b5 {kad : Nat → Nat} {N : Nat} {Z : AZ} {d : Nat} {t : Option Nat × (Nat × Nat)} (hd : 1 ≤ d) : ∀ (F : Nat) (b1 : Nat) (i2 : Int32) (i3 : Int32) (i4 : Int32) (I : AI) (r : Int32 × AI), f114_b5 kad N Z F b1 i2 i3 i4 I = some r → aGo kad d 114 (5, ([(1, .ref b1), (2, .int i2), (3, .int i3), (4, .int i4)], [])) (aMem Z I, t) (qI Z t r) := by
  intro F
  induction F with
  | zero => intro b1 i2 i3 i4 I r h; cases h
  | succ F ih =>
    intro b1 i2 i3 i4 I r h
    unfold f114_b5 at h
    refine go_ops aMi114 2 _ (f1 := (8, ([(1, .ref b1), (2, .int i2), (3, .int i3), (4, .int i4)], [.int i2, .int i4]))) rfl ?_
    refine gg_br (b := decide (i2 ≤ i4)) (tg := 33) (off := 25) aMi114 rfl rfl rfl rfl (fun hb => ?_) (fun hb => ?_)
    · rw [if_pos (of_decide_eq_true hb)] at h
      refine go_le (lv1 := [(3, .int i3)]) (aLe_of (show (List.map (fun q => q.1) ([(3, .int i3)] : ALv)).Nodup from (by show ([3] : List Nat).Nodup; decide)) (aSubL_cons rfl aSubL_nil)) ?_
      exact Tf114_b33 hd i3 I _ h
    · rw [if_neg (of_decide_eq_false hb)] at h
      refine go_ops aMi114 2 _ (f1 := (14, ([(1, .ref b1), (2, .int i2), (3, .int i3), (4, .int i4)], [.ref b1, .int i4]))) rfl ?_
      obtain ⟨x14_1, hxx14_1, h⟩ := Option.bind_eq_some_iff.mp h
      refine gg_len aMi114 rfl hxx14_1 ?_
      refine gg_br (b := decide (x14_1 ≤ i4)) (tg := 33) (off := 18) aMi114 rfl rfl rfl rfl (fun hb => ?_) (fun hb => ?_)
      · rw [if_pos (of_decide_eq_true hb)] at h
        refine go_le (lv1 := [(3, .int i3)]) (aLe_of (show (List.map (fun q => q.1) ([(3, .int i3)] : ALv)).Nodup from (by show ([3] : List Nat).Nodup; decide)) (aSubL_cons rfl aSubL_nil)) ?_
        exact Tf114_b33 hd i3 I _ h
      · rw [if_neg (of_decide_eq_false hb)] at h
        refine go_ops aMi114 3 _ (f1 := (22, ([(1, .ref b1), (2, .int i2), (3, .int i3), (4, .int i4)], [.int i4, .ref b1, .int i3]))) rfl ?_
        obtain ⟨x22_2, hxx22_2, h⟩ := Option.bind_eq_some_iff.mp h
        refine gg_lI (Or.inl ⟨rfl, rfl⟩) aMi114 rfl hxx22_2 ?_
        obtain ⟨r23_3, hxr23_3, h⟩ := Option.bind_eq_some_iff.mp h
        refine gg_cs (as := [.int i3, .int x22_2]) (r := []) aMi114 rfl rfl rfl aMi113 rfl (Nat.le_of_ble_eq_true rfl) (Nat.le_of_ble_eq_true rfl) (by omega) (Tf113 (by omega) i3 x22_2 I _ hxr23_3) ?_
        show aGo kad d 114 (26, ([(1, .ref b1), (2, .int i2), (3, .int i3), (4, .int i4)], [.int r23_3.1])) (aMem Z r23_3.2, t) _
        refine go_ops aMi114 3 _ (f1 := (5, ([(4, .int (i4 + (1 : Int32))), (3, .int r23_3.1), (1, .ref b1), (2, .int i2)], []))) rfl ?_
        refine go_le (lv1 := [(1, .ref b1), (2, .int i2), (3, .int r23_3.1), (4, .int (i4 + (1 : Int32)))]) (aLe_of (show (List.map (fun q => q.1) ([(1, .ref b1), (2, .int i2), (3, .int r23_3.1), (4, .int (i4 + (1 : Int32)))] : ALv)).Nodup from (by show ([1, 2, 3, 4] : List Nat).Nodup; decide)) (aSubL_cons rfl (aSubL_cons rfl (aSubL_cons rfl (aSubL_cons rfl aSubL_nil))))) ?_
        exact ih b1 i2 r23_3.1 (i4 + (1 : Int32)) r23_3.2 _ h
def f114 (kad : Nat → Nat) (N : Nat) (Z : AZ) (i0 : Int32) (b1 : Nat) (i2 : Int32) (I : AI) : Option (Int32 × AI) :=
  f114_b5 kad N Z N b1 i2 i0 (0 : Int32) I
set_option maxRecDepth 20000 in
theorem Tf114 {kad : Nat → Nat} {N : Nat} {Z : AZ} {d : Nat} {t : Option Nat × (Nat × Nat)} (hd : 1 ≤ d) : ∀ (i0 : Int32) (b1 : Nat) (i2 : Int32) (I : AI) (r : Int32 × AI), f114 kad N Z i0 b1 i2 I = some r → aGo kad d 114 (0, ([(0, .int i0), (1, .ref b1), (2, .int i2)], [])) (aMem Z I, t) (qI Z t r) := by
  intro i0 b1 i2 I r h
  unfold f114 at h
  refine go_ops aMi114 4 _ (f1 := (5, ([(4, .int (0 : Int32)), (3, .int i0), (0, .int i0), (1, .ref b1), (2, .int i2)], []))) rfl ?_
  refine go_le (lv1 := [(1, .ref b1), (2, .int i2), (3, .int i0), (4, .int (0 : Int32))]) (aLe_of (show (List.map (fun q => q.1) ([(1, .ref b1), (2, .int i2), (3, .int i0), (4, .int (0 : Int32))] : ALv)).Nodup from (by show ([1, 2, 3, 4] : List Nat).Nodup; decide)) (aSubL_cons rfl (aSubL_cons rfl (aSubL_cons rfl (aSubL_cons rfl aSubL_nil))))) ?_
  exact Tf114_b5 hd N b1 i2 i0 (0 : Int32) I _ h
-- KernelGym$Machine.sumOfAll ()I
def f112 (kad : Nat → Nat) (N : Nat) (Z : AZ) (a0 : Nat) (I : AI) : Option (Int32 × AI) :=
  (f113 kad N Z (7 : Int32) (I (a0 + 1) 0) I).bind fun r11_1 =>
  (f113 kad N Z r11_1.1 ((r11_1.2) (a0 + 1) 1) r11_1.2).bind fun r23_2 =>
  (f113 kad N Z r23_2.1 ((r23_2.2) (a0 + 1) 2) r23_2.2).bind fun r35_3 =>
  (f113 kad N Z r35_3.1 ((r35_3.2) (a0 + 1) 3) r35_3.2).bind fun r47_4 =>
  (f113 kad N Z r47_4.1 ((r47_4.2) (a0 + 1) 4) r47_4.2).bind fun r59_5 =>
  (f40 kad N Z (a0 + 1) r59_5.2).bind fun r68_6 =>
  (f113 kad N Z r59_5.1 r68_6.1 r68_6.2).bind fun r71_7 =>
  (f113 kad N Z r71_7.1 ((r71_7.2) (a0 + 1) 10) r71_7.2).bind fun r83_8 =>
  (f113 kad N Z r83_8.1 ((r83_8.2) (a0 + 1) 11) r83_8.2).bind fun r95_9 =>
  (f114 kad N Z r95_9.1 (a0 + 2) (4 : Int32) r95_9.2).bind fun r108_10 =>
  (f63 kad N Z (a0 + 3) r108_10.2).bind fun r120_11 =>
  (f113 kad N Z r108_10.1 r120_11.1 r120_11.2).bind fun r123_12 =>
  (f114 kad N Z r123_12.1 (a0 + 6) (256 : Int32) r123_12.2).bind fun r135_13 =>
  (f114 kad N Z r135_13.1 (a0 + 9) (256 : Int32) r135_13.2).bind fun r150_14 =>
  (f113 kad N Z r150_14.1 ((r150_14.2) (a0 + 1) 12) r150_14.2).bind fun r162_15 =>
  (f114 kad N Z r162_15.1 (a0 + 7) ((r162_15.2) (a0 + 1) 12) r162_15.2).bind fun r178_16 =>
  some (r178_16.1, r178_16.2)
set_option maxRecDepth 20000 in
theorem Tf112 {kad : Nat → Nat} {N : Nat} {Z : AZ} {d : Nat} {t : Option Nat × (Nat × Nat)} (hd : 2 ≤ d) : ∀ (a0 : Nat) (ha0 : sh8 kad Z a0) (I : AI) (r : Int32 × AI), f112 kad N Z a0 I = some r → aGo kad d 112 (0, ([(0, .ref a0)], [])) (aMem Z I, t) (qI Z t r) := by
  intro a0 ha0 I r h
  unfold f112 at h
  refine go_ops aMi112 4 _ (f1 := (5, ([(1, .int (7 : Int32)), (0, .ref a0)], [.ref a0, .int (7 : Int32)]))) rfl ?_
  refine gg_gR (b := (a0 + 1)) aMi112 rfl rfl rfl (gR_of (sh8_z ha0) (sh8_r0 ha0)) ?_
  refine gg_gI aMi112 rfl rfl rfl (gI_of (sh2_z (sh8_s0 ha0))) ?_
  obtain ⟨r11_1, hxr11_1, h⟩ := Option.bind_eq_some_iff.mp h
  refine gg_cs (as := [.int (7 : Int32), .int (I (a0 + 1) 0)]) (r := []) aMi112 rfl rfl rfl aMi113 rfl (Nat.le_of_ble_eq_true rfl) (Nat.le_of_ble_eq_true rfl) (by omega) (Tf113 (by omega) (7 : Int32) (I (a0 + 1) 0) I _ hxr11_1) ?_
  show aGo kad d 112 (14, ([(1, .int (7 : Int32)), (0, .ref a0)], [.int r11_1.1])) (aMem Z r11_1.2, t) _
  refine go_ops aMi112 3 _ (f1 := (17, ([(1, .int r11_1.1), (0, .ref a0)], [.ref a0, .int r11_1.1]))) rfl ?_
  refine gg_gR (b := (a0 + 1)) aMi112 rfl rfl rfl (gR_of (sh8_z ha0) (sh8_r0 ha0)) ?_
  refine gg_gI aMi112 rfl rfl rfl (gI_of (sh2_z (sh8_s0 ha0))) ?_
  obtain ⟨r23_2, hxr23_2, h⟩ := Option.bind_eq_some_iff.mp h
  refine gg_cs (as := [.int r11_1.1, .int ((r11_1.2) (a0 + 1) 1)]) (r := []) aMi112 rfl rfl rfl aMi113 rfl (Nat.le_of_ble_eq_true rfl) (Nat.le_of_ble_eq_true rfl) (by omega) (Tf113 (by omega) r11_1.1 ((r11_1.2) (a0 + 1) 1) r11_1.2 _ hxr23_2) ?_
  show aGo kad d 112 (26, ([(1, .int r11_1.1), (0, .ref a0)], [.int r23_2.1])) (aMem Z r23_2.2, t) _
  refine go_ops aMi112 3 _ (f1 := (29, ([(1, .int r23_2.1), (0, .ref a0)], [.ref a0, .int r23_2.1]))) rfl ?_
  refine gg_gR (b := (a0 + 1)) aMi112 rfl rfl rfl (gR_of (sh8_z ha0) (sh8_r0 ha0)) ?_
  refine gg_gI aMi112 rfl rfl rfl (gI_of (sh2_z (sh8_s0 ha0))) ?_
  obtain ⟨r35_3, hxr35_3, h⟩ := Option.bind_eq_some_iff.mp h
  refine gg_cs (as := [.int r23_2.1, .int ((r23_2.2) (a0 + 1) 2)]) (r := []) aMi112 rfl rfl rfl aMi113 rfl (Nat.le_of_ble_eq_true rfl) (Nat.le_of_ble_eq_true rfl) (by omega) (Tf113 (by omega) r23_2.1 ((r23_2.2) (a0 + 1) 2) r23_2.2 _ hxr35_3) ?_
  show aGo kad d 112 (38, ([(1, .int r23_2.1), (0, .ref a0)], [.int r35_3.1])) (aMem Z r35_3.2, t) _
  refine go_ops aMi112 3 _ (f1 := (41, ([(1, .int r35_3.1), (0, .ref a0)], [.ref a0, .int r35_3.1]))) rfl ?_
  refine gg_gR (b := (a0 + 1)) aMi112 rfl rfl rfl (gR_of (sh8_z ha0) (sh8_r0 ha0)) ?_
  refine gg_gI aMi112 rfl rfl rfl (gI_of (sh2_z (sh8_s0 ha0))) ?_
  obtain ⟨r47_4, hxr47_4, h⟩ := Option.bind_eq_some_iff.mp h
  refine gg_cs (as := [.int r35_3.1, .int ((r35_3.2) (a0 + 1) 3)]) (r := []) aMi112 rfl rfl rfl aMi113 rfl (Nat.le_of_ble_eq_true rfl) (Nat.le_of_ble_eq_true rfl) (by omega) (Tf113 (by omega) r35_3.1 ((r35_3.2) (a0 + 1) 3) r35_3.2 _ hxr47_4) ?_
  show aGo kad d 112 (50, ([(1, .int r35_3.1), (0, .ref a0)], [.int r47_4.1])) (aMem Z r47_4.2, t) _
  refine go_ops aMi112 3 _ (f1 := (53, ([(1, .int r47_4.1), (0, .ref a0)], [.ref a0, .int r47_4.1]))) rfl ?_
  refine gg_gR (b := (a0 + 1)) aMi112 rfl rfl rfl (gR_of (sh8_z ha0) (sh8_r0 ha0)) ?_
  refine gg_gI aMi112 rfl rfl rfl (gI_of (sh2_z (sh8_s0 ha0))) ?_
  obtain ⟨r59_5, hxr59_5, h⟩ := Option.bind_eq_some_iff.mp h
  refine gg_cs (as := [.int r47_4.1, .int ((r47_4.2) (a0 + 1) 4)]) (r := []) aMi112 rfl rfl rfl aMi113 rfl (Nat.le_of_ble_eq_true rfl) (Nat.le_of_ble_eq_true rfl) (by omega) (Tf113 (by omega) r47_4.1 ((r47_4.2) (a0 + 1) 4) r47_4.2 _ hxr59_5) ?_
  show aGo kad d 112 (62, ([(1, .int r47_4.1), (0, .ref a0)], [.int r59_5.1])) (aMem Z r59_5.2, t) _
  refine go_ops aMi112 3 _ (f1 := (65, ([(1, .int r59_5.1), (0, .ref a0)], [.ref a0, .int r59_5.1]))) rfl ?_
  refine gg_gR (b := (a0 + 1)) aMi112 rfl rfl rfl (gR_of (sh8_z ha0) (sh8_r0 ha0)) ?_
  obtain ⟨r68_6, hxr68_6, h⟩ := Option.bind_eq_some_iff.mp h
  refine gg_cv (as := []) (r := [.int r59_5.1]) aMi112 rfl rfl rfl aMi40 (Nat.le_of_ble_eq_true rfl) rfl (Nat.le_of_ble_eq_true rfl) (Nat.le_of_ble_eq_true rfl) (by omega) (isK_of (sh2_z (sh8_s0 ha0))) (Tf40 (by omega) (a0 + 1) (sh8_s0 ha0) r59_5.2 _ hxr68_6) ?_
  show aGo kad d 112 (71, ([(1, .int r59_5.1), (0, .ref a0)], [.int r68_6.1, .int r59_5.1])) (aMem Z r68_6.2, t) _
  obtain ⟨r71_7, hxr71_7, h⟩ := Option.bind_eq_some_iff.mp h
  refine gg_cs (as := [.int r59_5.1, .int r68_6.1]) (r := []) aMi112 rfl rfl rfl aMi113 rfl (Nat.le_of_ble_eq_true rfl) (Nat.le_of_ble_eq_true rfl) (by omega) (Tf113 (by omega) r59_5.1 r68_6.1 r68_6.2 _ hxr71_7) ?_
  show aGo kad d 112 (74, ([(1, .int r59_5.1), (0, .ref a0)], [.int r71_7.1])) (aMem Z r71_7.2, t) _
  refine go_ops aMi112 3 _ (f1 := (77, ([(1, .int r71_7.1), (0, .ref a0)], [.ref a0, .int r71_7.1]))) rfl ?_
  refine gg_gR (b := (a0 + 1)) aMi112 rfl rfl rfl (gR_of (sh8_z ha0) (sh8_r0 ha0)) ?_
  refine gg_gI aMi112 rfl rfl rfl (gI_of (sh2_z (sh8_s0 ha0))) ?_
  obtain ⟨r83_8, hxr83_8, h⟩ := Option.bind_eq_some_iff.mp h
  refine gg_cs (as := [.int r71_7.1, .int ((r71_7.2) (a0 + 1) 10)]) (r := []) aMi112 rfl rfl rfl aMi113 rfl (Nat.le_of_ble_eq_true rfl) (Nat.le_of_ble_eq_true rfl) (by omega) (Tf113 (by omega) r71_7.1 ((r71_7.2) (a0 + 1) 10) r71_7.2 _ hxr83_8) ?_
  show aGo kad d 112 (86, ([(1, .int r71_7.1), (0, .ref a0)], [.int r83_8.1])) (aMem Z r83_8.2, t) _
  refine go_ops aMi112 3 _ (f1 := (89, ([(1, .int r83_8.1), (0, .ref a0)], [.ref a0, .int r83_8.1]))) rfl ?_
  refine gg_gR (b := (a0 + 1)) aMi112 rfl rfl rfl (gR_of (sh8_z ha0) (sh8_r0 ha0)) ?_
  refine gg_gI aMi112 rfl rfl rfl (gI_of (sh2_z (sh8_s0 ha0))) ?_
  obtain ⟨r95_9, hxr95_9, h⟩ := Option.bind_eq_some_iff.mp h
  refine gg_cs (as := [.int r83_8.1, .int ((r83_8.2) (a0 + 1) 11)]) (r := []) aMi112 rfl rfl rfl aMi113 rfl (Nat.le_of_ble_eq_true rfl) (Nat.le_of_ble_eq_true rfl) (by omega) (Tf113 (by omega) r83_8.1 ((r83_8.2) (a0 + 1) 11) r83_8.2 _ hxr95_9) ?_
  show aGo kad d 112 (98, ([(1, .int r83_8.1), (0, .ref a0)], [.int r95_9.1])) (aMem Z r95_9.2, t) _
  refine go_ops aMi112 3 _ (f1 := (101, ([(1, .int r95_9.1), (0, .ref a0)], [.ref a0, .int r95_9.1]))) rfl ?_
  refine gg_gR (b := (a0 + 1)) aMi112 rfl rfl rfl (gR_of (sh8_z ha0) (sh8_r0 ha0)) ?_
  refine gg_gR (b := (a0 + 2)) aMi112 rfl rfl rfl (gR_of (sh2_z (sh8_s0 ha0)) (sh2_r14 (sh8_s0 ha0))) ?_
  refine go_ops aMi112 1 _ (f1 := (108, ([(1, .int r95_9.1), (0, .ref a0)], [.int (4 : Int32), .ref (a0 + 2), .int r95_9.1]))) rfl ?_
  obtain ⟨r108_10, hxr108_10, h⟩ := Option.bind_eq_some_iff.mp h
  refine gg_cs (as := [.int r95_9.1, .ref (a0 + 2), .int (4 : Int32)]) (r := []) aMi112 rfl rfl rfl aMi114 rfl (Nat.le_of_ble_eq_true rfl) (Nat.le_of_ble_eq_true rfl) (by omega) (Tf114 (by omega) r95_9.1 (a0 + 2) (4 : Int32) r95_9.2 _ hxr108_10) ?_
  show aGo kad d 112 (111, ([(1, .int r95_9.1), (0, .ref a0)], [.int r108_10.1])) (aMem Z r108_10.2, t) _
  refine go_ops aMi112 3 _ (f1 := (114, ([(1, .int r108_10.1), (0, .ref a0)], [.ref a0, .int r108_10.1]))) rfl ?_
  refine gg_gR (b := (a0 + 1)) aMi112 rfl rfl rfl (gR_of (sh8_z ha0) (sh8_r0 ha0)) ?_
  refine gg_gR (b := (a0 + 3)) aMi112 rfl rfl rfl (gR_of (sh2_z (sh8_s0 ha0)) (sh2_r15 (sh8_s0 ha0))) ?_
  obtain ⟨r120_11, hxr120_11, h⟩ := Option.bind_eq_some_iff.mp h
  refine gg_cv (as := []) (r := [.int r108_10.1]) aMi112 rfl rfl rfl aMi63 (Nat.le_of_ble_eq_true rfl) rfl (Nat.le_of_ble_eq_true rfl) (Nat.le_of_ble_eq_true rfl) (by omega) (isK_of (sh4_z (sh2_s15 (sh8_s0 ha0)))) (Tf63 (by omega) (a0 + 3) (sh2_s15 (sh8_s0 ha0)) r108_10.2 _ hxr120_11) ?_
  show aGo kad d 112 (123, ([(1, .int r108_10.1), (0, .ref a0)], [.int r120_11.1, .int r108_10.1])) (aMem Z r120_11.2, t) _
  obtain ⟨r123_12, hxr123_12, h⟩ := Option.bind_eq_some_iff.mp h
  refine gg_cs (as := [.int r108_10.1, .int r120_11.1]) (r := []) aMi112 rfl rfl rfl aMi113 rfl (Nat.le_of_ble_eq_true rfl) (Nat.le_of_ble_eq_true rfl) (by omega) (Tf113 (by omega) r108_10.1 r120_11.1 r120_11.2 _ hxr123_12) ?_
  show aGo kad d 112 (126, ([(1, .int r108_10.1), (0, .ref a0)], [.int r123_12.1])) (aMem Z r123_12.2, t) _
  refine go_ops aMi112 3 _ (f1 := (129, ([(1, .int r123_12.1), (0, .ref a0)], [.ref a0, .int r123_12.1]))) rfl ?_
  refine gg_gR (b := (a0 + 6)) aMi112 rfl rfl rfl (gR_of (sh8_z ha0) (sh8_r1 ha0)) ?_
  refine go_ops aMi112 1 _ (f1 := (135, ([(1, .int r123_12.1), (0, .ref a0)], [.int (256 : Int32), .ref (a0 + 6), .int r123_12.1]))) rfl ?_
  obtain ⟨r135_13, hxr135_13, h⟩ := Option.bind_eq_some_iff.mp h
  refine gg_cs (as := [.int r123_12.1, .ref (a0 + 6), .int (256 : Int32)]) (r := []) aMi112 rfl rfl rfl aMi114 rfl (Nat.le_of_ble_eq_true rfl) (Nat.le_of_ble_eq_true rfl) (by omega) (Tf114 (by omega) r123_12.1 (a0 + 6) (256 : Int32) r123_12.2 _ hxr135_13) ?_
  show aGo kad d 112 (138, ([(1, .int r123_12.1), (0, .ref a0)], [.int r135_13.1])) (aMem Z r135_13.2, t) _
  refine go_ops aMi112 3 _ (f1 := (141, ([(1, .int r135_13.1), (0, .ref a0)], [.ref a0, .int r135_13.1]))) rfl ?_
  refine gg_gR (b := (a0 + 8)) aMi112 rfl rfl rfl (gR_of (sh8_z ha0) (sh8_r3 ha0)) ?_
  refine gg_gR (b := (a0 + 9)) aMi112 rfl rfl rfl (gR_of (sh3_z (sh8_s3 ha0)) (sh3_r0 (sh8_s3 ha0))) ?_
  refine go_ops aMi112 1 _ (f1 := (150, ([(1, .int r135_13.1), (0, .ref a0)], [.int (256 : Int32), .ref (a0 + 9), .int r135_13.1]))) rfl ?_
  obtain ⟨r150_14, hxr150_14, h⟩ := Option.bind_eq_some_iff.mp h
  refine gg_cs (as := [.int r135_13.1, .ref (a0 + 9), .int (256 : Int32)]) (r := []) aMi112 rfl rfl rfl aMi114 rfl (Nat.le_of_ble_eq_true rfl) (Nat.le_of_ble_eq_true rfl) (by omega) (Tf114 (by omega) r135_13.1 (a0 + 9) (256 : Int32) r135_13.2 _ hxr150_14) ?_
  show aGo kad d 112 (153, ([(1, .int r135_13.1), (0, .ref a0)], [.int r150_14.1])) (aMem Z r150_14.2, t) _
  refine go_ops aMi112 3 _ (f1 := (156, ([(1, .int r150_14.1), (0, .ref a0)], [.ref a0, .int r150_14.1]))) rfl ?_
  refine gg_gR (b := (a0 + 1)) aMi112 rfl rfl rfl (gR_of (sh8_z ha0) (sh8_r0 ha0)) ?_
  refine gg_gI aMi112 rfl rfl rfl (gI_of (sh2_z (sh8_s0 ha0))) ?_
  obtain ⟨r162_15, hxr162_15, h⟩ := Option.bind_eq_some_iff.mp h
  refine gg_cs (as := [.int r150_14.1, .int ((r150_14.2) (a0 + 1) 12)]) (r := []) aMi112 rfl rfl rfl aMi113 rfl (Nat.le_of_ble_eq_true rfl) (Nat.le_of_ble_eq_true rfl) (by omega) (Tf113 (by omega) r150_14.1 ((r150_14.2) (a0 + 1) 12) r150_14.2 _ hxr162_15) ?_
  show aGo kad d 112 (165, ([(1, .int r150_14.1), (0, .ref a0)], [.int r162_15.1])) (aMem Z r162_15.2, t) _
  refine go_ops aMi112 3 _ (f1 := (168, ([(1, .int r162_15.1), (0, .ref a0)], [.ref a0, .int r162_15.1]))) rfl ?_
  refine gg_gR (b := (a0 + 7)) aMi112 rfl rfl rfl (gR_of (sh8_z ha0) (sh8_r2 ha0)) ?_
  refine go_ops aMi112 1 _ (f1 := (172, ([(1, .int r162_15.1), (0, .ref a0)], [.ref a0, .ref (a0 + 7), .int r162_15.1]))) rfl ?_
  refine gg_gR (b := (a0 + 1)) aMi112 rfl rfl rfl (gR_of (sh8_z ha0) (sh8_r0 ha0)) ?_
  refine gg_gI aMi112 rfl rfl rfl (gI_of (sh2_z (sh8_s0 ha0))) ?_
  obtain ⟨r178_16, hxr178_16, h⟩ := Option.bind_eq_some_iff.mp h
  refine gg_cs (as := [.int r162_15.1, .ref (a0 + 7), .int ((r162_15.2) (a0 + 1) 12)]) (r := []) aMi112 rfl rfl rfl aMi114 rfl (Nat.le_of_ble_eq_true rfl) (Nat.le_of_ble_eq_true rfl) (by omega) (Tf114 (by omega) r162_15.1 (a0 + 7) ((r162_15.2) (a0 + 1) 12) r162_15.2 _ hxr178_16) ?_
  show aGo kad d 112 (181, ([(1, .int r162_15.1), (0, .ref a0)], [.int r178_16.1])) (aMem Z r178_16.2, t) _
  cases h
  exact go_ret aMi112 rfl aRetI ⟨rfl, rfl⟩
-- KernelGym$Trial.addKey (I)I
def f116_b36 (kad : Nat → Nat) (N : Nat) (Z : AZ) (a0 : Nat) (I : AI) : Option (Int32 × AI) :=
  some ((I a0 0), I)
set_option maxRecDepth 20000 in
theorem Tf116_b36 {kad : Nat → Nat} {N : Nat} {Z : AZ} {d : Nat} {t : Option Nat × (Nat × Nat)} (hd : 0 ≤ d) : ∀ (a0 : Nat) (ha0 : sh9 kad Z a0) (I : AI) (r : Int32 × AI), f116_b36 kad N Z a0 I = some r → aGo kad d 116 (36, ([(0, .ref a0)], [])) (aMem Z I, t) (qI Z t r) := by
  intro a0 ha0 I r h
  unfold f116_b36 at h
  refine go_ops aMi116 1 _ (f1 := (37, ([(0, .ref a0)], [.ref a0]))) rfl ?_
  refine gg_gI aMi116 rfl rfl rfl (gI_of (sh9_z ha0)) ?_
  cases h
  exact go_ret aMi116 rfl aRetI ⟨rfl, rfl⟩
def f116 (kad : Nat → Nat) (N : Nat) (Z : AZ) (a0 : Nat) (i1 : Int32) (I : AI) : Option (Int32 × AI) :=
  if (I a0 0) < 0 then
    f116_b36 kad N Z a0 I
  else
    if (6 : Int32) ≤ (I a0 0) then
      f116_b36 kad N Z a0 I
    else
      (ixA 6 (I a0 0)).bind fun j25_2 =>
      (wI I (a0 + 1) j25_2 i1).bind fun I25_1 =>
      (wI I25_1 a0 0 ((I25_1 a0 0) + (1 : Int32))).bind fun I33_3 =>
      f116_b36 kad N Z a0 I33_3
set_option maxRecDepth 20000 in
theorem Tf116 {kad : Nat → Nat} {N : Nat} {Z : AZ} {d : Nat} {t : Option Nat × (Nat × Nat)} (hd : 0 ≤ d) : ∀ (a0 : Nat) (ha0 : sh9 kad Z a0) (i1 : Int32) (I : AI) (r : Int32 × AI), f116 kad N Z a0 i1 I = some r → aGo kad d 116 (0, ([(0, .ref a0), (1, .int i1)], [])) (aMem Z I, t) (qI Z t r) := by
  intro a0 ha0 i1 I r h
  unfold f116 at h
  refine go_ops aMi116 1 _ (f1 := (1, ([(0, .ref a0), (1, .int i1)], [.ref a0]))) rfl ?_
  refine gg_gI aMi116 rfl rfl rfl (gI_of (sh9_z ha0)) ?_
  refine gg_br (b := decide ((I a0 0) < 0)) (tg := 36) (off := 32) aMi116 rfl rfl rfl rfl (fun hb => ?_) (fun hb => ?_)
  · rw [if_pos (of_decide_eq_true hb)] at h
    refine go_le (lv1 := [(0, .ref a0)]) (aLe_of (show (List.map (fun q => q.1) ([(0, .ref a0)] : ALv)).Nodup from (by show ([0] : List Nat).Nodup; decide)) (aSubL_cons rfl aSubL_nil)) ?_
    exact Tf116_b36 hd a0 ha0 I _ h
  · rw [if_neg (of_decide_eq_false hb)] at h
    refine go_ops aMi116 1 _ (f1 := (8, ([(0, .ref a0), (1, .int i1)], [.ref a0]))) rfl ?_
    refine gg_gI aMi116 rfl rfl rfl (gI_of (sh9_z ha0)) ?_
    refine go_ops aMi116 1 _ (f1 := (13, ([(0, .ref a0), (1, .int i1)], [.int (6 : Int32), .int (I a0 0)]))) rfl ?_
    refine gg_br (b := decide ((6 : Int32) ≤ (I a0 0))) (tg := 36) (off := 23) aMi116 rfl rfl rfl rfl (fun hb => ?_) (fun hb => ?_)
    · rw [if_pos (of_decide_eq_true hb)] at h
      refine go_le (lv1 := [(0, .ref a0)]) (aLe_of (show (List.map (fun q => q.1) ([(0, .ref a0)] : ALv)).Nodup from (by show ([0] : List Nat).Nodup; decide)) (aSubL_cons rfl aSubL_nil)) ?_
      exact Tf116_b36 hd a0 ha0 I _ h
    · rw [if_neg (of_decide_eq_false hb)] at h
      refine go_ops aMi116 1 _ (f1 := (17, ([(0, .ref a0), (1, .int i1)], [.ref a0]))) rfl ?_
      refine gg_gR (b := (a0 + 1)) aMi116 rfl rfl rfl (gR_of (sh9_z ha0) (sh9_r3 ha0)) ?_
      refine go_ops aMi116 1 _ (f1 := (21, ([(0, .ref a0), (1, .int i1)], [.ref a0, .ref (a0 + 1)]))) rfl ?_
      refine gg_gI aMi116 rfl rfl rfl (gI_of (sh9_z ha0)) ?_
      refine go_ops aMi116 1 _ (f1 := (25, ([(0, .ref a0), (1, .int i1)], [.int i1, .int (I a0 0), .ref (a0 + 1)]))) rfl ?_
      obtain ⟨j25_2, hxj25_2, h⟩ := Option.bind_eq_some_iff.mp h
      obtain ⟨I25_1, hxI25_1, h⟩ := Option.bind_eq_some_iff.mp h
      refine gg_sI (Or.inl ⟨rfl, rfl⟩) aMi116 rfl (sI_of (sh9_a3 ha0) hxj25_2 hxI25_1) ?_
      refine go_ops aMi116 2 _ (f1 := (28, ([(0, .ref a0), (1, .int i1)], [.ref a0, .ref a0]))) rfl ?_
      refine gg_gI aMi116 rfl rfl rfl (gI_of (sh9_z ha0)) ?_
      refine go_ops aMi116 2 _ (f1 := (33, ([(0, .ref a0), (1, .int i1)], [.int ((I25_1 a0 0) + (1 : Int32)), .ref a0]))) rfl ?_
      obtain ⟨I33_3, hxI33_3, h⟩ := Option.bind_eq_some_iff.mp h
      refine gg_pI aMi116 rfl rfl rfl rfl (by decide) (pI_of (sh9_z ha0) hxI33_3) ?_
      refine go_le (lv1 := [(0, .ref a0)]) (aLe_of (show (List.map (fun q => q.1) ([(0, .ref a0)] : ALv)).Nodup from (by show ([0] : List Nat).Nodup; decide)) (aSubL_cons rfl aSubL_nil)) ?_
      exact Tf116_b36 hd a0 ha0 I33_3 _ h
-- KernelGym$Trial.addWord (I)I
def f117_b36 (kad : Nat → Nat) (N : Nat) (Z : AZ) (a0 : Nat) (I : AI) : Option (Int32 × AI) :=
  some ((I a0 1), I)
set_option maxRecDepth 20000 in
theorem Tf117_b36 {kad : Nat → Nat} {N : Nat} {Z : AZ} {d : Nat} {t : Option Nat × (Nat × Nat)} (hd : 0 ≤ d) : ∀ (a0 : Nat) (ha0 : sh9 kad Z a0) (I : AI) (r : Int32 × AI), f117_b36 kad N Z a0 I = some r → aGo kad d 117 (36, ([(0, .ref a0)], [])) (aMem Z I, t) (qI Z t r) := by
  intro a0 ha0 I r h
  unfold f117_b36 at h
  refine go_ops aMi117 1 _ (f1 := (37, ([(0, .ref a0)], [.ref a0]))) rfl ?_
  refine gg_gI aMi117 rfl rfl rfl (gI_of (sh9_z ha0)) ?_
  cases h
  exact go_ret aMi117 rfl aRetI ⟨rfl, rfl⟩
def f117 (kad : Nat → Nat) (N : Nat) (Z : AZ) (a0 : Nat) (i1 : Int32) (I : AI) : Option (Int32 × AI) :=
  if (I a0 1) < 0 then
    f117_b36 kad N Z a0 I
  else
    if (6 : Int32) ≤ (I a0 1) then
      f117_b36 kad N Z a0 I
    else
      (ixA 6 (I a0 1)).bind fun j25_2 =>
      (wI I (a0 + 2) j25_2 i1).bind fun I25_1 =>
      (wI I25_1 a0 1 ((I25_1 a0 1) + (1 : Int32))).bind fun I33_3 =>
      f117_b36 kad N Z a0 I33_3
set_option maxRecDepth 20000 in
theorem Tf117 {kad : Nat → Nat} {N : Nat} {Z : AZ} {d : Nat} {t : Option Nat × (Nat × Nat)} (hd : 0 ≤ d) : ∀ (a0 : Nat) (ha0 : sh9 kad Z a0) (i1 : Int32) (I : AI) (r : Int32 × AI), f117 kad N Z a0 i1 I = some r → aGo kad d 117 (0, ([(0, .ref a0), (1, .int i1)], [])) (aMem Z I, t) (qI Z t r) := by
  intro a0 ha0 i1 I r h
  unfold f117 at h
  refine go_ops aMi117 1 _ (f1 := (1, ([(0, .ref a0), (1, .int i1)], [.ref a0]))) rfl ?_
  refine gg_gI aMi117 rfl rfl rfl (gI_of (sh9_z ha0)) ?_
  refine gg_br (b := decide ((I a0 1) < 0)) (tg := 36) (off := 32) aMi117 rfl rfl rfl rfl (fun hb => ?_) (fun hb => ?_)
  · rw [if_pos (of_decide_eq_true hb)] at h
    refine go_le (lv1 := [(0, .ref a0)]) (aLe_of (show (List.map (fun q => q.1) ([(0, .ref a0)] : ALv)).Nodup from (by show ([0] : List Nat).Nodup; decide)) (aSubL_cons rfl aSubL_nil)) ?_
    exact Tf117_b36 hd a0 ha0 I _ h
  · rw [if_neg (of_decide_eq_false hb)] at h
    refine go_ops aMi117 1 _ (f1 := (8, ([(0, .ref a0), (1, .int i1)], [.ref a0]))) rfl ?_
    refine gg_gI aMi117 rfl rfl rfl (gI_of (sh9_z ha0)) ?_
    refine go_ops aMi117 1 _ (f1 := (13, ([(0, .ref a0), (1, .int i1)], [.int (6 : Int32), .int (I a0 1)]))) rfl ?_
    refine gg_br (b := decide ((6 : Int32) ≤ (I a0 1))) (tg := 36) (off := 23) aMi117 rfl rfl rfl rfl (fun hb => ?_) (fun hb => ?_)
    · rw [if_pos (of_decide_eq_true hb)] at h
      refine go_le (lv1 := [(0, .ref a0)]) (aLe_of (show (List.map (fun q => q.1) ([(0, .ref a0)] : ALv)).Nodup from (by show ([0] : List Nat).Nodup; decide)) (aSubL_cons rfl aSubL_nil)) ?_
      exact Tf117_b36 hd a0 ha0 I _ h
    · rw [if_neg (of_decide_eq_false hb)] at h
      refine go_ops aMi117 1 _ (f1 := (17, ([(0, .ref a0), (1, .int i1)], [.ref a0]))) rfl ?_
      refine gg_gR (b := (a0 + 2)) aMi117 rfl rfl rfl (gR_of (sh9_z ha0) (sh9_r4 ha0)) ?_
      refine go_ops aMi117 1 _ (f1 := (21, ([(0, .ref a0), (1, .int i1)], [.ref a0, .ref (a0 + 2)]))) rfl ?_
      refine gg_gI aMi117 rfl rfl rfl (gI_of (sh9_z ha0)) ?_
      refine go_ops aMi117 1 _ (f1 := (25, ([(0, .ref a0), (1, .int i1)], [.int i1, .int (I a0 1), .ref (a0 + 2)]))) rfl ?_
      obtain ⟨j25_2, hxj25_2, h⟩ := Option.bind_eq_some_iff.mp h
      obtain ⟨I25_1, hxI25_1, h⟩ := Option.bind_eq_some_iff.mp h
      refine gg_sI (Or.inl ⟨rfl, rfl⟩) aMi117 rfl (sI_of (sh9_a4 ha0) hxj25_2 hxI25_1) ?_
      refine go_ops aMi117 2 _ (f1 := (28, ([(0, .ref a0), (1, .int i1)], [.ref a0, .ref a0]))) rfl ?_
      refine gg_gI aMi117 rfl rfl rfl (gI_of (sh9_z ha0)) ?_
      refine go_ops aMi117 2 _ (f1 := (33, ([(0, .ref a0), (1, .int i1)], [.int ((I25_1 a0 1) + (1 : Int32)), .ref a0]))) rfl ?_
      obtain ⟨I33_3, hxI33_3, h⟩ := Option.bind_eq_some_iff.mp h
      refine gg_pI aMi117 rfl rfl rfl rfl (by decide) (pI_of (sh9_z ha0) hxI33_3) ?_
      refine go_le (lv1 := [(0, .ref a0)]) (aLe_of (show (List.map (fun q => q.1) ([(0, .ref a0)] : ALv)).Nodup from (by show ([0] : List Nat).Nodup; decide)) (aSubL_cons rfl aSubL_nil)) ?_
      exact Tf117_b36 hd a0 ha0 I33_3 _ h
-- KernelGym$Trial.takeDraft (LKernelGym$Trial;)V
def f118 (kad : Nat → Nat) (N : Nat) (Z : AZ) (a0 : Nat) (a1 : Nat) (I : AI) : Option (Unit × AI) :=
  (wI I a0 0 (I a1 0)).bind fun I5_1 =>
  (wI I5_1 a0 1 (I5_1 a1 1)).bind fun I13_2 =>
  (cA I13_2 (a1 + 1) 6 (0 : Int32) (a0 + 1) 6 (0 : Int32) (6 : Int32)).bind fun I28_3 =>
  (cA I28_3 (a1 + 2) 6 (0 : Int32) (a0 + 2) 6 (0 : Int32) (6 : Int32)).bind fun I43_4 =>
  (wI I43_4 a1 0 (0 : Int32)).bind fun I48_5 =>
  (wI I48_5 a1 1 (0 : Int32)).bind fun I53_6 =>
  some ((), I53_6)
set_option maxRecDepth 20000 in
theorem Tf118 {kad : Nat → Nat} {N : Nat} {Z : AZ} {d : Nat} {t : Option Nat × (Nat × Nat)} (hd : 0 ≤ d) : ∀ (a0 : Nat) (ha0 : sh9 kad Z a0) (a1 : Nat) (ha1 : sh9 kad Z a1) (I : AI) (r : Unit × AI), f118 kad N Z a0 a1 I = some r → aGo kad d 118 (0, ([(0, .ref a0), (1, .ref a1)], [])) (aMem Z I, t) (qV Z t r) := by
  intro a0 ha0 a1 ha1 I r h
  unfold f118 at h
  refine go_ops aMi118 2 _ (f1 := (2, ([(0, .ref a0), (1, .ref a1)], [.ref a1, .ref a0]))) rfl ?_
  refine gg_gI aMi118 rfl rfl rfl (gI_of (sh9_z ha1)) ?_
  obtain ⟨I5_1, hxI5_1, h⟩ := Option.bind_eq_some_iff.mp h
  refine gg_pI aMi118 rfl rfl rfl rfl (by decide) (pI_of (sh9_z ha0) hxI5_1) ?_
  refine go_ops aMi118 2 _ (f1 := (10, ([(0, .ref a0), (1, .ref a1)], [.ref a1, .ref a0]))) rfl ?_
  refine gg_gI aMi118 rfl rfl rfl (gI_of (sh9_z ha1)) ?_
  obtain ⟨I13_2, hxI13_2, h⟩ := Option.bind_eq_some_iff.mp h
  refine gg_pI aMi118 rfl rfl rfl rfl (by decide) (pI_of (sh9_z ha0) hxI13_2) ?_
  refine go_ops aMi118 1 _ (f1 := (17, ([(0, .ref a0), (1, .ref a1)], [.ref a1]))) rfl ?_
  refine gg_gR (b := (a1 + 1)) aMi118 rfl rfl rfl (gR_of (sh9_z ha1) (sh9_r3 ha1)) ?_
  refine go_ops aMi118 2 _ (f1 := (22, ([(0, .ref a0), (1, .ref a1)], [.ref a0, .int (0 : Int32), .ref (a1 + 1)]))) rfl ?_
  refine gg_gR (b := (a0 + 1)) aMi118 rfl rfl rfl (gR_of (sh9_z ha0) (sh9_r3 ha0)) ?_
  refine go_ops aMi118 2 _ (f1 := (28, ([(0, .ref a0), (1, .ref a1)], [.int (6 : Int32), .int (0 : Int32), .ref (a0 + 1), .int (0 : Int32), .ref (a1 + 1)]))) rfl ?_
  obtain ⟨I28_3, hxI28_3, h⟩ := Option.bind_eq_some_iff.mp h
  refine gg_cp aMi118 rfl rfl (Nat.le_of_ble_eq_true rfl) (cI_of (sh9_a3 ha1) (sh9_a3 ha0) hxI28_3) ?_
  refine go_ops aMi118 1 _ (f1 := (32, ([(0, .ref a0), (1, .ref a1)], [.ref a1]))) rfl ?_
  refine gg_gR (b := (a1 + 2)) aMi118 rfl rfl rfl (gR_of (sh9_z ha1) (sh9_r4 ha1)) ?_
  refine go_ops aMi118 2 _ (f1 := (37, ([(0, .ref a0), (1, .ref a1)], [.ref a0, .int (0 : Int32), .ref (a1 + 2)]))) rfl ?_
  refine gg_gR (b := (a0 + 2)) aMi118 rfl rfl rfl (gR_of (sh9_z ha0) (sh9_r4 ha0)) ?_
  refine go_ops aMi118 2 _ (f1 := (43, ([(0, .ref a0), (1, .ref a1)], [.int (6 : Int32), .int (0 : Int32), .ref (a0 + 2), .int (0 : Int32), .ref (a1 + 2)]))) rfl ?_
  obtain ⟨I43_4, hxI43_4, h⟩ := Option.bind_eq_some_iff.mp h
  refine gg_cp aMi118 rfl rfl (Nat.le_of_ble_eq_true rfl) (cI_of (sh9_a4 ha1) (sh9_a4 ha0) hxI43_4) ?_
  refine go_ops aMi118 2 _ (f1 := (48, ([(0, .ref a0), (1, .ref a1)], [.int (0 : Int32), .ref a1]))) rfl ?_
  obtain ⟨I48_5, hxI48_5, h⟩ := Option.bind_eq_some_iff.mp h
  refine gg_pI aMi118 rfl rfl rfl rfl (by decide) (pI_of (sh9_z ha1) hxI48_5) ?_
  refine go_ops aMi118 2 _ (f1 := (53, ([(0, .ref a0), (1, .ref a1)], [.int (0 : Int32), .ref a1]))) rfl ?_
  obtain ⟨I53_6, hxI53_6, h⟩ := Option.bind_eq_some_iff.mp h
  refine gg_pI aMi118 rfl rfl rfl rfl (by decide) (pI_of (sh9_z ha1) hxI53_6) ?_
  cases h
  exact go_ret aMi118 rfl rfl ⟨rfl, rfl⟩
-- KernelGym$Trial.setBudgets (IIII)V
def f119 (kad : Nat → Nat) (N : Nat) (Z : AZ) (a0 : Nat) (i1 : Int32) (i2 : Int32) (i3 : Int32) (i4 : Int32) (I : AI) : Option (Unit × AI) :=
  (wI I a0 5 i1).bind fun I2_1 =>
  (wI I2_1 a0 6 i2).bind fun I7_2 =>
  (wI I7_2 a0 7 i3).bind fun I12_3 =>
  (wI I12_3 a0 8 i4).bind fun I18_4 =>
  some ((), I18_4)
set_option maxRecDepth 20000 in
theorem Tf119 {kad : Nat → Nat} {N : Nat} {Z : AZ} {d : Nat} {t : Option Nat × (Nat × Nat)} (hd : 0 ≤ d) : ∀ (a0 : Nat) (ha0 : sh9 kad Z a0) (i1 : Int32) (i2 : Int32) (i3 : Int32) (i4 : Int32) (I : AI) (r : Unit × AI), f119 kad N Z a0 i1 i2 i3 i4 I = some r → aGo kad d 119 (0, ([(0, .ref a0), (1, .int i1), (2, .int i2), (3, .int i3), (4, .int i4)], [])) (aMem Z I, t) (qV Z t r) := by
  intro a0 ha0 i1 i2 i3 i4 I r h
  unfold f119 at h
  refine go_ops aMi119 2 _ (f1 := (2, ([(0, .ref a0), (1, .int i1), (2, .int i2), (3, .int i3), (4, .int i4)], [.int i1, .ref a0]))) rfl ?_
  obtain ⟨I2_1, hxI2_1, h⟩ := Option.bind_eq_some_iff.mp h
  refine gg_pI aMi119 rfl rfl rfl rfl (by decide) (pI_of (sh9_z ha0) hxI2_1) ?_
  refine go_ops aMi119 2 _ (f1 := (7, ([(0, .ref a0), (1, .int i1), (2, .int i2), (3, .int i3), (4, .int i4)], [.int i2, .ref a0]))) rfl ?_
  obtain ⟨I7_2, hxI7_2, h⟩ := Option.bind_eq_some_iff.mp h
  refine gg_pI aMi119 rfl rfl rfl rfl (by decide) (pI_of (sh9_z ha0) hxI7_2) ?_
  refine go_ops aMi119 2 _ (f1 := (12, ([(0, .ref a0), (1, .int i1), (2, .int i2), (3, .int i3), (4, .int i4)], [.int i3, .ref a0]))) rfl ?_
  obtain ⟨I12_3, hxI12_3, h⟩ := Option.bind_eq_some_iff.mp h
  refine gg_pI aMi119 rfl rfl rfl rfl (by decide) (pI_of (sh9_z ha0) hxI12_3) ?_
  refine go_ops aMi119 2 _ (f1 := (18, ([(0, .ref a0), (1, .int i1), (2, .int i2), (3, .int i3), (4, .int i4)], [.int i4, .ref a0]))) rfl ?_
  obtain ⟨I18_4, hxI18_4, h⟩ := Option.bind_eq_some_iff.mp h
  refine gg_pI aMi119 rfl rfl rfl rfl (by decide) (pI_of (sh9_z ha0) hxI18_4) ?_
  cases h
  exact go_ret aMi119 rfl rfl ⟨rfl, rfl⟩
-- KernelGym$Trial.judge (LKernelGym$Machine;)I
def f121_b74 (kad : Nat → Nat) (N : Nat) (Z : AZ) (a0 : Nat) (a1 : Nat) (s0 : Int32) (I : AI) : Option (Int32 × AI) :=
  some (s0, I)
set_option maxRecDepth 20000 in
theorem Tf121_b74 {kad : Nat → Nat} {N : Nat} {Z : AZ} {d : Nat} {t : Option Nat × (Nat × Nat)} (hd : 4 ≤ d) : ∀ (a0 : Nat) (ha0 : sh9 kad Z a0) (a1 : Nat) (ha1 : sh8 kad Z a1) (s0 : Int32) (I : AI) (r : Int32 × AI), f121_b74 kad N Z a0 a1 s0 I = some r → aGo kad d 121 (74, ([], [.int s0])) (aMem Z I, t) (qI Z t r) := by
  intro a0 ha0 a1 ha1 s0 I r h
  unfold f121_b74 at h
  cases h
  exact go_ret aMi121 rfl aRetI ⟨rfl, rfl⟩
def f121 (kad : Nat → Nat) (N : Nat) (Z : AZ) (a0 : Nat) (a1 : Nat) (I : AI) : Option (Int32 × AI) :=
  if ¬ (I (a1 + 1) 0) = (3 : Int32) then
    if ¬ (I (a1 + 1) 0) = (1 : Int32) then
      if (I (a1 + 8) 1) ≤ (I a0 6) then
        (f111 kad N Z a1 (a0 + 2) (I a0 1) I).bind fun r51_1 =>
        if ¬ r51_1.1 = 0 then
          (f58 kad N Z (a1 + 8) r51_1.2).bind fun r63_2 =>
          if r63_2.1 = 0 then
            f121_b74 kad N Z a0 a1 (5 : Int32) r63_2.2
          else
            f121_b74 kad N Z a0 a1 (0 : Int32) r63_2.2
        else
          some ((4 : Int32), r51_1.2)
      else
        some ((3 : Int32), I)
    else
      some ((2 : Int32), I)
  else
    some ((1 : Int32), I)
set_option maxRecDepth 20000 in
theorem Tf121 {kad : Nat → Nat} {N : Nat} {Z : AZ} {d : Nat} {t : Option Nat × (Nat × Nat)} (hd : 4 ≤ d) : ∀ (a0 : Nat) (ha0 : sh9 kad Z a0) (a1 : Nat) (ha1 : sh8 kad Z a1) (I : AI) (r : Int32 × AI), f121 kad N Z a0 a1 I = some r → aGo kad d 121 (0, ([(0, .ref a0), (1, .ref a1)], [])) (aMem Z I, t) (qI Z t r) := by
  intro a0 ha0 a1 ha1 I r h
  unfold f121 at h
  refine go_ops aMi121 1 _ (f1 := (1, ([(0, .ref a0), (1, .ref a1)], [.ref a1]))) rfl ?_
  refine gg_gR (b := (a1 + 1)) aMi121 rfl rfl rfl (gR_of (sh8_z ha1) (sh8_r0 ha1)) ?_
  refine gg_gI aMi121 rfl rfl rfl (gI_of (sh2_z (sh8_s0 ha1))) ?_
  refine go_ops aMi121 1 _ (f1 := (8, ([(0, .ref a0), (1, .ref a1)], [.int (3 : Int32), .int (I (a1 + 1) 0)]))) rfl ?_
  refine gg_br (b := decide (¬ (I (a1 + 1) 0) = (3 : Int32))) (tg := 13) (off := 5) aMi121 rfl rfl rfl rfl (fun hb => ?_) (fun hb => ?_)
  · rw [if_pos (of_decide_eq_true hb)] at h
    refine go_ops aMi121 1 _ (f1 := (14, ([(0, .ref a0), (1, .ref a1)], [.ref a1]))) rfl ?_
    refine gg_gR (b := (a1 + 1)) aMi121 rfl rfl rfl (gR_of (sh8_z ha1) (sh8_r0 ha1)) ?_
    refine gg_gI aMi121 rfl rfl rfl (gI_of (sh2_z (sh8_s0 ha1))) ?_
    refine go_ops aMi121 1 _ (f1 := (21, ([(0, .ref a0), (1, .ref a1)], [.int (1 : Int32), .int (I (a1 + 1) 0)]))) rfl ?_
    refine gg_br (b := decide (¬ (I (a1 + 1) 0) = (1 : Int32))) (tg := 26) (off := 5) aMi121 rfl rfl rfl rfl (fun hb => ?_) (fun hb => ?_)
    · rw [if_pos (of_decide_eq_true hb)] at h
      refine go_ops aMi121 1 _ (f1 := (27, ([(0, .ref a0), (1, .ref a1)], [.ref a1]))) rfl ?_
      refine gg_gR (b := (a1 + 8)) aMi121 rfl rfl rfl (gR_of (sh8_z ha1) (sh8_r3 ha1)) ?_
      refine gg_gI aMi121 rfl rfl rfl (gI_of (sh3_z (sh8_s3 ha1))) ?_
      refine go_ops aMi121 1 _ (f1 := (34, ([(0, .ref a0), (1, .ref a1)], [.ref a0, .int (I (a1 + 8) 1)]))) rfl ?_
      refine gg_gI aMi121 rfl rfl rfl (gI_of (sh9_z ha0)) ?_
      refine gg_br (b := decide ((I (a1 + 8) 1) ≤ (I a0 6))) (tg := 42) (off := 5) aMi121 rfl rfl rfl rfl (fun hb => ?_) (fun hb => ?_)
      · rw [if_pos (of_decide_eq_true hb)] at h
        refine go_ops aMi121 2 _ (f1 := (44, ([(0, .ref a0), (1, .ref a1)], [.ref a0, .ref a1]))) rfl ?_
        refine gg_gR (b := (a0 + 2)) aMi121 rfl rfl rfl (gR_of (sh9_z ha0) (sh9_r4 ha0)) ?_
        refine go_ops aMi121 1 _ (f1 := (48, ([(0, .ref a0), (1, .ref a1)], [.ref a0, .ref (a0 + 2), .ref a1]))) rfl ?_
        refine gg_gI aMi121 rfl rfl rfl (gI_of (sh9_z ha0)) ?_
        obtain ⟨r51_1, hxr51_1, h⟩ := Option.bind_eq_some_iff.mp h
        refine gg_cv (as := [.ref (a0 + 2), .int (I a0 1)]) (r := []) aMi121 rfl rfl rfl aMi111 (Nat.le_of_ble_eq_true rfl) rfl (Nat.le_of_ble_eq_true rfl) (Nat.le_of_ble_eq_true rfl) (by omega) (isK_of (sh8_z ha1)) (Tf111 (by omega) a1 ha1 (a0 + 2) (I a0 1) I _ hxr51_1) ?_
        show aGo kad d 121 (54, ([(0, .ref a0), (1, .ref a1)], [.int r51_1.1])) (aMem Z r51_1.2, t) _
        refine gg_br (b := decide (¬ r51_1.1 = 0)) (tg := 59) (off := 5) aMi121 rfl rfl rfl rfl (fun hb => ?_) (fun hb => ?_)
        · rw [if_pos (of_decide_eq_true hb)] at h
          refine go_ops aMi121 1 _ (f1 := (60, ([(0, .ref a0), (1, .ref a1)], [.ref a1]))) rfl ?_
          refine gg_gR (b := (a1 + 8)) aMi121 rfl rfl rfl (gR_of (sh8_z ha1) (sh8_r3 ha1)) ?_
          obtain ⟨r63_2, hxr63_2, h⟩ := Option.bind_eq_some_iff.mp h
          refine gg_cv (as := []) (r := []) aMi121 rfl rfl rfl aMi58 (Nat.le_of_ble_eq_true rfl) rfl (Nat.le_of_ble_eq_true rfl) (Nat.le_of_ble_eq_true rfl) (by omega) (isK_of (sh3_z (sh8_s3 ha1))) (Tf58 (by omega) (a1 + 8) (sh8_s3 ha1) r51_1.2 _ hxr63_2) ?_
          show aGo kad d 121 (66, ([(0, .ref a0), (1, .ref a1)], [.int r63_2.1])) (aMem Z r63_2.2, t) _
          refine gg_br (b := decide (r63_2.1 = 0)) (tg := 73) (off := 7) aMi121 rfl rfl rfl rfl (fun hb => ?_) (fun hb => ?_)
          · rw [if_pos (of_decide_eq_true hb)] at h
            refine go_ops aMi121 1 _ (f1 := (74, ([(0, .ref a0), (1, .ref a1)], [.int (5 : Int32)]))) rfl ?_
            refine go_le (lv1 := []) (aLe_of (show (List.map (fun q => q.1) ([] : ALv)).Nodup from (by show ([] : List Nat).Nodup; decide)) aSubL_nil) ?_
            exact Tf121_b74 hd a0 ha0 a1 ha1 (5 : Int32) r63_2.2 _ h
          · rw [if_neg (of_decide_eq_false hb)] at h
            refine go_ops aMi121 2 _ (f1 := (74, ([(0, .ref a0), (1, .ref a1)], [.int (0 : Int32)]))) rfl ?_
            refine go_le (lv1 := []) (aLe_of (show (List.map (fun q => q.1) ([] : ALv)).Nodup from (by show ([] : List Nat).Nodup; decide)) aSubL_nil) ?_
            exact Tf121_b74 hd a0 ha0 a1 ha1 (0 : Int32) r63_2.2 _ h
        · rw [if_neg (of_decide_eq_false hb)] at h
          refine go_ops aMi121 1 _ (f1 := (58, ([(0, .ref a0), (1, .ref a1)], [.int (4 : Int32)]))) rfl ?_
          cases h
          exact go_ret aMi121 rfl aRetI ⟨rfl, rfl⟩
      · rw [if_neg (of_decide_eq_false hb)] at h
        refine go_ops aMi121 1 _ (f1 := (41, ([(0, .ref a0), (1, .ref a1)], [.int (3 : Int32)]))) rfl ?_
        cases h
        exact go_ret aMi121 rfl aRetI ⟨rfl, rfl⟩
    · rw [if_neg (of_decide_eq_false hb)] at h
      refine go_ops aMi121 1 _ (f1 := (25, ([(0, .ref a0), (1, .ref a1)], [.int (2 : Int32)]))) rfl ?_
      cases h
      exact go_ret aMi121 rfl aRetI ⟨rfl, rfl⟩
  · rw [if_neg (of_decide_eq_false hb)] at h
    refine go_ops aMi121 1 _ (f1 := (12, ([(0, .ref a0), (1, .ref a1)], [.int (1 : Int32)]))) rfl ?_
    cases h
    exact go_ret aMi121 rfl aRetI ⟨rfl, rfl⟩
-- KernelGym$Trial.makeOn (LKernelGym$Machine;[ILKernelGym$Kept;)V
def f120_b121 (kad : Nat → Nat) (N : Nat) (Z : AZ) (k63 : Nat → Nat → Nat → Nat → Int32 → AI → Option (Unit × AI)) (a0 : Nat) (a1 : Nat) (a3 : Nat) (b2 : Nat) (i4 : Int32) (I : AI) : Option (Unit × AI) :=
  k63 a0 a1 a3 b2 (i4 + (1 : Int32)) I
set_option maxRecDepth 20000 in
theorem Tf120_b121 {kad : Nat → Nat} {N : Nat} {Z : AZ} {d : Nat} {t : Option Nat × (Nat × Nat)} (hd : 6 ≤ d) (k63 : Nat → Nat → Nat → Nat → Int32 → AI → Option (Unit × AI))  (hk63 : ∀ (a0 : Nat) (ha0 : sh9 kad Z a0) (a1 : Nat) (ha1 : sh8 kad Z a1) (a3 : Nat) (ha3 : sh5 kad Z a3) (b2 : Nat) (i4 : Int32) (I : AI) (r : Unit × AI), k63 a0 a1 a3 b2 i4 I = some r → aGo kad d 120 (63, ([(0, .ref a0), (1, .ref a1), (2, .ref b2), (3, .ref a3), (4, .int i4)], [])) (aMem Z I, t) (qV Z t r)) : ∀ (a0 : Nat) (ha0 : sh9 kad Z a0) (a1 : Nat) (ha1 : sh8 kad Z a1) (a3 : Nat) (ha3 : sh5 kad Z a3) (b2 : Nat) (i4 : Int32) (I : AI) (r : Unit × AI), f120_b121 kad N Z k63 a0 a1 a3 b2 i4 I = some r → aGo kad d 120 (121, ([(0, .ref a0), (1, .ref a1), (2, .ref b2), (3, .ref a3), (4, .int i4)], [])) (aMem Z I, t) (qV Z t r) := by
  intro a0 ha0 a1 ha1 a3 ha3 b2 i4 I r h
  unfold f120_b121 at h
  refine go_ops aMi120 2 _ (f1 := (63, ([(4, .int (i4 + (1 : Int32))), (0, .ref a0), (1, .ref a1), (2, .ref b2), (3, .ref a3)], []))) rfl ?_
  refine go_le (lv1 := [(0, .ref a0), (1, .ref a1), (2, .ref b2), (3, .ref a3), (4, .int (i4 + (1 : Int32)))]) (aLe_of (show (List.map (fun q => q.1) ([(0, .ref a0), (1, .ref a1), (2, .ref b2), (3, .ref a3), (4, .int (i4 + (1 : Int32)))] : ALv)).Nodup from (by show ([0, 1, 2, 3, 4] : List Nat).Nodup; decide)) (aSubL_cons rfl (aSubL_cons rfl (aSubL_cons rfl (aSubL_cons rfl (aSubL_cons rfl aSubL_nil)))))) ?_
  exact hk63 a0 ha0 a1 ha1 a3 ha3 b2 (i4 + (1 : Int32)) I _ h
def f120_b156 (kad : Nat → Nat) (N : Nat) (Z : AZ) (a0 : Nat) (a1 : Nat) (a3 : Nat) (s0 : Int32) (I : AI) : Option (Unit × AI) :=
  (wB I a0 9 s0).bind fun I156_1 =>
  some ((), I156_1)
set_option maxRecDepth 20000 in
theorem Tf120_b156 {kad : Nat → Nat} {N : Nat} {Z : AZ} {d : Nat} {t : Option Nat × (Nat × Nat)} (hd : 6 ≤ d) : ∀ (a0 : Nat) (ha0 : sh9 kad Z a0) (a1 : Nat) (ha1 : sh8 kad Z a1) (a3 : Nat) (ha3 : sh5 kad Z a3) (s0 : Int32) (I : AI) (r : Unit × AI), f120_b156 kad N Z a0 a1 a3 s0 I = some r → aGo kad d 120 (156, ([], [.int s0, .ref a0])) (aMem Z I, t) (qV Z t r) := by
  intro a0 ha0 a1 ha1 a3 ha3 s0 I r h
  unfold f120_b156 at h
  obtain ⟨I156_1, hxI156_1, h⟩ := Option.bind_eq_some_iff.mp h
  refine gg_pB aMi120 rfl rfl rfl rfl (by decide) (pB_of (sh9_z ha0) hxI156_1) ?_
  cases h
  exact go_ret aMi120 rfl rfl ⟨rfl, rfl⟩
def f120_b151 (kad : Nat → Nat) (N : Nat) (Z : AZ) (a0 : Nat) (a1 : Nat) (a3 : Nat) (I : AI) : Option (Unit × AI) :=
  f120_b156 kad N Z a0 a1 a3 (1 : Int32) I
set_option maxRecDepth 20000 in
theorem Tf120_b151 {kad : Nat → Nat} {N : Nat} {Z : AZ} {d : Nat} {t : Option Nat × (Nat × Nat)} (hd : 6 ≤ d) : ∀ (a0 : Nat) (ha0 : sh9 kad Z a0) (a1 : Nat) (ha1 : sh8 kad Z a1) (a3 : Nat) (ha3 : sh5 kad Z a3) (I : AI) (r : Unit × AI), f120_b151 kad N Z a0 a1 a3 I = some r → aGo kad d 120 (151, ([], [.ref a0])) (aMem Z I, t) (qV Z t r) := by
  intro a0 ha0 a1 ha1 a3 ha3 I r h
  unfold f120_b151 at h
  refine go_ops aMi120 2 _ (f1 := (156, ([], [.int (1 : Int32), .ref a0]))) rfl ?_
  exact Tf120_b156 hd a0 ha0 a1 ha1 a3 ha3 (1 : Int32) I _ h
def f120_b127 (kad : Nat → Nat) (N : Nat) (Z : AZ) (a0 : Nat) (a1 : Nat) (a3 : Nat) (I : AI) : Option (Unit × AI) :=
  (f121 kad N Z a0 a1 I).bind fun r130_1 =>
  (wI r130_1.2 a0 2 r130_1.1).bind fun I133_2 =>
  if ¬ (I133_2 a0 9) = 0 then
    f120_b151 kad N Z a0 a1 a3 I133_2
  else
    if ¬ (I133_2 a0 2) = 0 then
      f120_b156 kad N Z a0 a1 a3 (0 : Int32) I133_2
    else
      f120_b151 kad N Z a0 a1 a3 I133_2
set_option maxRecDepth 20000 in
theorem Tf120_b127 {kad : Nat → Nat} {N : Nat} {Z : AZ} {d : Nat} {t : Option Nat × (Nat × Nat)} (hd : 6 ≤ d) : ∀ (a0 : Nat) (ha0 : sh9 kad Z a0) (a1 : Nat) (ha1 : sh8 kad Z a1) (a3 : Nat) (ha3 : sh5 kad Z a3) (I : AI) (r : Unit × AI), f120_b127 kad N Z a0 a1 a3 I = some r → aGo kad d 120 (127, ([(0, .ref a0), (1, .ref a1)], [])) (aMem Z I, t) (qV Z t r) := by
  intro a0 ha0 a1 ha1 a3 ha3 I r h
  unfold f120_b127 at h
  refine go_ops aMi120 3 _ (f1 := (130, ([(0, .ref a0), (1, .ref a1)], [.ref a1, .ref a0, .ref a0]))) rfl ?_
  obtain ⟨r130_1, hxr130_1, h⟩ := Option.bind_eq_some_iff.mp h
  refine gg_cv (as := [.ref a1]) (r := [.ref a0]) aMi120 rfl rfl rfl aMi121 (Nat.le_of_ble_eq_true rfl) rfl (Nat.le_of_ble_eq_true rfl) (Nat.le_of_ble_eq_true rfl) (by omega) (isK_of (sh9_z ha0)) (Tf121 (by omega) a0 ha0 a1 ha1 I _ hxr130_1) ?_
  show aGo kad d 120 (133, ([(0, .ref a0), (1, .ref a1)], [.int r130_1.1, .ref a0])) (aMem Z r130_1.2, t) _
  obtain ⟨I133_2, hxI133_2, h⟩ := Option.bind_eq_some_iff.mp h
  refine gg_pI aMi120 rfl rfl rfl rfl (by decide) (pI_of (sh9_z ha0) hxI133_2) ?_
  refine go_ops aMi120 2 _ (f1 := (138, ([(0, .ref a0), (1, .ref a1)], [.ref a0, .ref a0]))) rfl ?_
  refine gg_gI aMi120 rfl rfl rfl (gI_of (sh9_z ha0)) ?_
  refine gg_br (b := decide (¬ (I133_2 a0 9) = 0)) (tg := 151) (off := 10) aMi120 rfl rfl rfl rfl (fun hb => ?_) (fun hb => ?_)
  · rw [if_pos (of_decide_eq_true hb)] at h
    refine go_le (lv1 := []) (aLe_of (show (List.map (fun q => q.1) ([] : ALv)).Nodup from (by show ([] : List Nat).Nodup; decide)) aSubL_nil) ?_
    exact Tf120_b151 hd a0 ha0 a1 ha1 a3 ha3 I133_2 _ h
  · rw [if_neg (of_decide_eq_false hb)] at h
    refine go_ops aMi120 1 _ (f1 := (145, ([(0, .ref a0), (1, .ref a1)], [.ref a0, .ref a0]))) rfl ?_
    refine gg_gI aMi120 rfl rfl rfl (gI_of (sh9_z ha0)) ?_
    refine gg_br (b := decide (¬ (I133_2 a0 2) = 0)) (tg := 155) (off := 7) aMi120 rfl rfl rfl rfl (fun hb => ?_) (fun hb => ?_)
    · rw [if_pos (of_decide_eq_true hb)] at h
      refine go_ops aMi120 1 _ (f1 := (156, ([(0, .ref a0), (1, .ref a1)], [.int (0 : Int32), .ref a0]))) rfl ?_
      refine go_le (lv1 := []) (aLe_of (show (List.map (fun q => q.1) ([] : ALv)).Nodup from (by show ([] : List Nat).Nodup; decide)) aSubL_nil) ?_
      exact Tf120_b156 hd a0 ha0 a1 ha1 a3 ha3 (0 : Int32) I133_2 _ h
    · rw [if_neg (of_decide_eq_false hb)] at h
      refine go_le (lv1 := []) (aLe_of (show (List.map (fun q => q.1) ([] : ALv)).Nodup from (by show ([] : List Nat).Nodup; decide)) aSubL_nil) ?_
      exact Tf120_b151 hd a0 ha0 a1 ha1 a3 ha3 I133_2 _ h
def f120_b63 (kad : Nat → Nat) (N : Nat) (Z : AZ) : Nat → Nat → Nat → Nat → Nat → Int32 → AI → Option (Unit × AI)
  | 0, _, _, _, _, _, _ => none
  | F + 1, a0, a1, a3, b2, i4, I =>
    if (I a0 5) < i4 then
      f120_b127 kad N Z a0 a1 a3 I
    else
      (f82 kad N Z a1 I).bind fun r73_1 =>
      if r73_1.1 = 0 then
        f120_b127 kad N Z a0 a1 a3 r73_1.2
      else
        (f83 kad N Z a1 a3 r73_1.2).bind fun r81_2 =>
        if ¬ i4 = ((r81_2.2) a0 8) then
          f120_b121 kad N Z (fun p0 p1 p2 p3 p4 I => f120_b63 kad N Z F p0 p1 p2 p3 p4 I) a0 a1 a3 b2 i4 r81_2.2
        else
          if ¬ ((r81_2.2) (a1 + 1) 0) = (1 : Int32) then
            f120_b121 kad N Z (fun p0 p1 p2 p3 p4 I => f120_b63 kad N Z F p0 p1 p2 p3 p4 I) a0 a1 a3 b2 i4 r81_2.2
          else
            (f81 kad N Z a1 r81_2.2).bind fun r105_3 =>
            (f72 kad N Z (a1 + 10) r105_3.2).bind fun r112_4 =>
            (f80 kad N Z a1 b2 r112_4.2).bind fun r117_5 =>
            f120_b121 kad N Z (fun p0 p1 p2 p3 p4 I => f120_b63 kad N Z F p0 p1 p2 p3 p4 I) a0 a1 a3 b2 i4 r117_5.2
set_option maxRecDepth 20000 in
theorem Tf120_b63 {kad : Nat → Nat} {N : Nat} {Z : AZ} {d : Nat} {t : Option Nat × (Nat × Nat)} (hd : 6 ≤ d) : ∀ (F : Nat) (a0 : Nat) (ha0 : sh9 kad Z a0) (a1 : Nat) (ha1 : sh8 kad Z a1) (a3 : Nat) (ha3 : sh5 kad Z a3) (b2 : Nat) (i4 : Int32) (I : AI) (r : Unit × AI), f120_b63 kad N Z F a0 a1 a3 b2 i4 I = some r → aGo kad d 120 (63, ([(0, .ref a0), (1, .ref a1), (2, .ref b2), (3, .ref a3), (4, .int i4)], [])) (aMem Z I, t) (qV Z t r) := by
  intro F
  induction F with
  | zero => intro a0 ha0 a1 ha1 a3 ha3 b2 i4 I r h; cases h
  | succ F ih =>
    intro a0 ha0 a1 ha1 a3 ha3 b2 i4 I r h
    unfold f120_b63 at h
    refine go_ops aMi120 2 _ (f1 := (66, ([(0, .ref a0), (1, .ref a1), (2, .ref b2), (3, .ref a3), (4, .int i4)], [.ref a0, .int i4]))) rfl ?_
    refine gg_gI aMi120 rfl rfl rfl (gI_of (sh9_z ha0)) ?_
    refine gg_br (b := decide ((I a0 5) < i4)) (tg := 127) (off := 58) aMi120 rfl rfl rfl rfl (fun hb => ?_) (fun hb => ?_)
    · rw [if_pos (of_decide_eq_true hb)] at h
      refine go_le (lv1 := [(0, .ref a0), (1, .ref a1)]) (aLe_of (show (List.map (fun q => q.1) ([(0, .ref a0), (1, .ref a1)] : ALv)).Nodup from (by show ([0, 1] : List Nat).Nodup; decide)) (aSubL_cons rfl (aSubL_cons rfl aSubL_nil))) ?_
      exact Tf120_b127 hd a0 ha0 a1 ha1 a3 ha3 I _ h
    · rw [if_neg (of_decide_eq_false hb)] at h
      refine go_ops aMi120 1 _ (f1 := (73, ([(0, .ref a0), (1, .ref a1), (2, .ref b2), (3, .ref a3), (4, .int i4)], [.ref a1]))) rfl ?_
      obtain ⟨r73_1, hxr73_1, h⟩ := Option.bind_eq_some_iff.mp h
      refine gg_cv (as := []) (r := []) aMi120 rfl rfl rfl aMi82 (Nat.le_of_ble_eq_true rfl) rfl (Nat.le_of_ble_eq_true rfl) (Nat.le_of_ble_eq_true rfl) (by omega) (isK_of (sh8_z ha1)) (Tf82 (by omega) a1 ha1 I _ hxr73_1) ?_
      show aGo kad d 120 (76, ([(0, .ref a0), (1, .ref a1), (2, .ref b2), (3, .ref a3), (4, .int i4)], [.int r73_1.1])) (aMem Z r73_1.2, t) _
      refine gg_br (b := decide (r73_1.1 = 0)) (tg := 127) (off := 51) aMi120 rfl rfl rfl rfl (fun hb => ?_) (fun hb => ?_)
      · rw [if_pos (of_decide_eq_true hb)] at h
        refine go_le (lv1 := [(0, .ref a0), (1, .ref a1)]) (aLe_of (show (List.map (fun q => q.1) ([(0, .ref a0), (1, .ref a1)] : ALv)).Nodup from (by show ([0, 1] : List Nat).Nodup; decide)) (aSubL_cons rfl (aSubL_cons rfl aSubL_nil))) ?_
        exact Tf120_b127 hd a0 ha0 a1 ha1 a3 ha3 r73_1.2 _ h
      · rw [if_neg (of_decide_eq_false hb)] at h
        refine go_ops aMi120 2 _ (f1 := (81, ([(0, .ref a0), (1, .ref a1), (2, .ref b2), (3, .ref a3), (4, .int i4)], [.ref a3, .ref a1]))) rfl ?_
        obtain ⟨r81_2, hxr81_2, h⟩ := Option.bind_eq_some_iff.mp h
        refine gg_cv (as := [.ref a3]) (r := []) aMi120 rfl rfl rfl aMi83 (Nat.le_of_ble_eq_true rfl) rfl (Nat.le_of_ble_eq_true rfl) (Nat.le_of_ble_eq_true rfl) (by omega) (isK_of (sh8_z ha1)) (Tf83 (by omega) a1 ha1 a3 ha3 r73_1.2 _ hxr81_2) ?_
        show aGo kad d 120 (84, ([(0, .ref a0), (1, .ref a1), (2, .ref b2), (3, .ref a3), (4, .int i4)], [])) (aMem Z r81_2.2, t) _
        refine go_ops aMi120 2 _ (f1 := (87, ([(0, .ref a0), (1, .ref a1), (2, .ref b2), (3, .ref a3), (4, .int i4)], [.ref a0, .int i4]))) rfl ?_
        refine gg_gI aMi120 rfl rfl rfl (gI_of (sh9_z ha0)) ?_
        refine gg_br (b := decide (¬ i4 = ((r81_2.2) a0 8))) (tg := 121) (off := 31) aMi120 rfl rfl rfl rfl (fun hb => ?_) (fun hb => ?_)
        · rw [if_pos (of_decide_eq_true hb)] at h
          exact Tf120_b121 hd (fun p0 p1 p2 p3 p4 I => f120_b63 kad N Z F p0 p1 p2 p3 p4 I) (fun p0 q0 p1 q1 p2 q2 p3 p4 I r hh => ih p0 q0 p1 q1 p2 q2 p3 p4 I r hh) a0 ha0 a1 ha1 a3 ha3 b2 i4 r81_2.2 _ h
        · rw [if_neg (of_decide_eq_false hb)] at h
          refine go_ops aMi120 1 _ (f1 := (94, ([(0, .ref a0), (1, .ref a1), (2, .ref b2), (3, .ref a3), (4, .int i4)], [.ref a1]))) rfl ?_
          refine gg_gR (b := (a1 + 1)) aMi120 rfl rfl rfl (gR_of (sh8_z ha1) (sh8_r0 ha1)) ?_
          refine gg_gI aMi120 rfl rfl rfl (gI_of (sh2_z (sh8_s0 ha1))) ?_
          refine go_ops aMi120 1 _ (f1 := (101, ([(0, .ref a0), (1, .ref a1), (2, .ref b2), (3, .ref a3), (4, .int i4)], [.int (1 : Int32), .int ((r81_2.2) (a1 + 1) 0)]))) rfl ?_
          refine gg_br (b := decide (¬ ((r81_2.2) (a1 + 1) 0) = (1 : Int32))) (tg := 121) (off := 20) aMi120 rfl rfl rfl rfl (fun hb => ?_) (fun hb => ?_)
          · rw [if_pos (of_decide_eq_true hb)] at h
            exact Tf120_b121 hd (fun p0 p1 p2 p3 p4 I => f120_b63 kad N Z F p0 p1 p2 p3 p4 I) (fun p0 q0 p1 q1 p2 q2 p3 p4 I r hh => ih p0 q0 p1 q1 p2 q2 p3 p4 I r hh) a0 ha0 a1 ha1 a3 ha3 b2 i4 r81_2.2 _ h
          · rw [if_neg (of_decide_eq_false hb)] at h
            refine go_ops aMi120 1 _ (f1 := (105, ([(0, .ref a0), (1, .ref a1), (2, .ref b2), (3, .ref a3), (4, .int i4)], [.ref a1]))) rfl ?_
            obtain ⟨r105_3, hxr105_3, h⟩ := Option.bind_eq_some_iff.mp h
            refine gg_cv (as := []) (r := []) aMi120 rfl rfl rfl aMi81 (Nat.le_of_ble_eq_true rfl) rfl (Nat.le_of_ble_eq_true rfl) (Nat.le_of_ble_eq_true rfl) (by omega) (isK_of (sh8_z ha1)) (Tf81 (by omega) a1 ha1 r81_2.2 _ hxr105_3) ?_
            show aGo kad d 120 (108, ([(0, .ref a0), (1, .ref a1), (2, .ref b2), (3, .ref a3), (4, .int i4)], [])) (aMem Z r105_3.2, t) _
            refine go_ops aMi120 1 _ (f1 := (109, ([(0, .ref a0), (1, .ref a1), (2, .ref b2), (3, .ref a3), (4, .int i4)], [.ref a1]))) rfl ?_
            refine gg_gR (b := (a1 + 10)) aMi120 rfl rfl rfl (gR_of (sh8_z ha1) (sh8_r4 ha1)) ?_
            obtain ⟨r112_4, hxr112_4, h⟩ := Option.bind_eq_some_iff.mp h
            refine gg_cv (as := []) (r := []) aMi120 rfl rfl rfl aMi72 (Nat.le_of_ble_eq_true rfl) rfl (Nat.le_of_ble_eq_true rfl) (Nat.le_of_ble_eq_true rfl) (by omega) (isK_of (sh6_z (sh8_s4 ha1))) (Tf72 (by omega) (a1 + 10) (sh8_s4 ha1) r105_3.2 _ hxr112_4) ?_
            show aGo kad d 120 (115, ([(0, .ref a0), (1, .ref a1), (2, .ref b2), (3, .ref a3), (4, .int i4)], [])) (aMem Z r112_4.2, t) _
            refine go_ops aMi120 2 _ (f1 := (117, ([(0, .ref a0), (1, .ref a1), (2, .ref b2), (3, .ref a3), (4, .int i4)], [.ref b2, .ref a1]))) rfl ?_
            obtain ⟨r117_5, hxr117_5, h⟩ := Option.bind_eq_some_iff.mp h
            refine gg_cv (as := [.ref b2]) (r := []) aMi120 rfl rfl rfl aMi80 (Nat.le_of_ble_eq_true rfl) rfl (Nat.le_of_ble_eq_true rfl) (Nat.le_of_ble_eq_true rfl) (by omega) (isK_of (sh8_z ha1)) (Tf80 (by omega) a1 ha1 b2 r112_4.2 _ hxr117_5) ?_
            show aGo kad d 120 (120, ([(0, .ref a0), (1, .ref a1), (2, .ref b2), (3, .ref a3), (4, .int i4)], [.int r117_5.1])) (aMem Z r117_5.2, t) _
            refine go_ops aMi120 1 _ (f1 := (121, ([(0, .ref a0), (1, .ref a1), (2, .ref b2), (3, .ref a3), (4, .int i4)], []))) rfl ?_
            exact Tf120_b121 hd (fun p0 p1 p2 p3 p4 I => f120_b63 kad N Z F p0 p1 p2 p3 p4 I) (fun p0 q0 p1 q1 p2 q2 p3 p4 I r hh => ih p0 q0 p1 q1 p2 q2 p3 p4 I r hh) a0 ha0 a1 ha1 a3 ha3 b2 i4 r117_5.2 _ h
def f120_b54 (kad : Nat → Nat) (N : Nat) (Z : AZ) (a0 : Nat) (a1 : Nat) (a3 : Nat) (b2 : Nat) (I : AI) : Option (Unit × AI) :=
  (f80 kad N Z a1 b2 I).bind fun r56_1 =>
  f120_b63 kad N Z N a0 a1 a3 b2 (1 : Int32) r56_1.2
set_option maxRecDepth 20000 in
theorem Tf120_b54 {kad : Nat → Nat} {N : Nat} {Z : AZ} {d : Nat} {t : Option Nat × (Nat × Nat)} (hd : 6 ≤ d) : ∀ (a0 : Nat) (ha0 : sh9 kad Z a0) (a1 : Nat) (ha1 : sh8 kad Z a1) (a3 : Nat) (ha3 : sh5 kad Z a3) (b2 : Nat) (I : AI) (r : Unit × AI), f120_b54 kad N Z a0 a1 a3 b2 I = some r → aGo kad d 120 (54, ([(0, .ref a0), (1, .ref a1), (2, .ref b2), (3, .ref a3)], [])) (aMem Z I, t) (qV Z t r) := by
  intro a0 ha0 a1 ha1 a3 ha3 b2 I r h
  unfold f120_b54 at h
  refine go_ops aMi120 2 _ (f1 := (56, ([(0, .ref a0), (1, .ref a1), (2, .ref b2), (3, .ref a3)], [.ref b2, .ref a1]))) rfl ?_
  obtain ⟨r56_1, hxr56_1, h⟩ := Option.bind_eq_some_iff.mp h
  refine gg_cv (as := [.ref b2]) (r := []) aMi120 rfl rfl rfl aMi80 (Nat.le_of_ble_eq_true rfl) rfl (Nat.le_of_ble_eq_true rfl) (Nat.le_of_ble_eq_true rfl) (by omega) (isK_of (sh8_z ha1)) (Tf80 (by omega) a1 ha1 b2 I _ hxr56_1) ?_
  show aGo kad d 120 (59, ([(0, .ref a0), (1, .ref a1), (2, .ref b2), (3, .ref a3)], [.int r56_1.1])) (aMem Z r56_1.2, t) _
  refine go_ops aMi120 3 _ (f1 := (63, ([(4, .int (1 : Int32)), (0, .ref a0), (1, .ref a1), (2, .ref b2), (3, .ref a3)], []))) rfl ?_
  refine go_le (lv1 := [(0, .ref a0), (1, .ref a1), (2, .ref b2), (3, .ref a3), (4, .int (1 : Int32))]) (aLe_of (show (List.map (fun q => q.1) ([(0, .ref a0), (1, .ref a1), (2, .ref b2), (3, .ref a3), (4, .int (1 : Int32))] : ALv)).Nodup from (by show ([0, 1, 2, 3, 4] : List Nat).Nodup; decide)) (aSubL_cons rfl (aSubL_cons rfl (aSubL_cons rfl (aSubL_cons rfl (aSubL_cons rfl aSubL_nil)))))) ?_
  exact Tf120_b63 hd N a0 ha0 a1 ha1 a3 ha3 b2 (1 : Int32) r56_1.2 _ h
def f120_b17 (kad : Nat → Nat) (N : Nat) (Z : AZ) : Nat → Nat → Nat → Nat → Nat → Int32 → AI → Option (Unit × AI)
  | 0, _, _, _, _, _, _ => none
  | F + 1, a0, a1, a3, b2, i4, I =>
    if (I a0 0) ≤ i4 then
      f120_b54 kad N Z a0 a1 a3 b2 I
    else
      if (6 : Int32) ≤ i4 then
        f120_b54 kad N Z a0 a1 a3 b2 I
      else
        (ixA 6 i4).bind fun j43_1 =>
        (f74 kad N Z (a1 + 10) (I (a0 + 1) j43_1) (0 : Int32) I).bind fun r45_2 =>
        f120_b17 kad N Z F a0 a1 a3 b2 (i4 + (1 : Int32)) r45_2.2
set_option maxRecDepth 20000 in
theorem Tf120_b17 {kad : Nat → Nat} {N : Nat} {Z : AZ} {d : Nat} {t : Option Nat × (Nat × Nat)} (hd : 6 ≤ d) : ∀ (F : Nat) (a0 : Nat) (ha0 : sh9 kad Z a0) (a1 : Nat) (ha1 : sh8 kad Z a1) (a3 : Nat) (ha3 : sh5 kad Z a3) (b2 : Nat) (i4 : Int32) (I : AI) (r : Unit × AI), f120_b17 kad N Z F a0 a1 a3 b2 i4 I = some r → aGo kad d 120 (17, ([(0, .ref a0), (1, .ref a1), (2, .ref b2), (3, .ref a3), (4, .int i4)], [])) (aMem Z I, t) (qV Z t r) := by
  intro F
  induction F with
  | zero => intro a0 ha0 a1 ha1 a3 ha3 b2 i4 I r h; cases h
  | succ F ih =>
    intro a0 ha0 a1 ha1 a3 ha3 b2 i4 I r h
    unfold f120_b17 at h
    refine go_ops aMi120 2 _ (f1 := (20, ([(0, .ref a0), (1, .ref a1), (2, .ref b2), (3, .ref a3), (4, .int i4)], [.ref a0, .int i4]))) rfl ?_
    refine gg_gI aMi120 rfl rfl rfl (gI_of (sh9_z ha0)) ?_
    refine gg_br (b := decide ((I a0 0) ≤ i4)) (tg := 54) (off := 31) aMi120 rfl rfl rfl rfl (fun hb => ?_) (fun hb => ?_)
    · rw [if_pos (of_decide_eq_true hb)] at h
      refine go_le (lv1 := [(0, .ref a0), (1, .ref a1), (2, .ref b2), (3, .ref a3)]) (aLe_of (show (List.map (fun q => q.1) ([(0, .ref a0), (1, .ref a1), (2, .ref b2), (3, .ref a3)] : ALv)).Nodup from (by show ([0, 1, 2, 3] : List Nat).Nodup; decide)) (aSubL_cons rfl (aSubL_cons rfl (aSubL_cons rfl (aSubL_cons rfl aSubL_nil))))) ?_
      exact Tf120_b54 hd a0 ha0 a1 ha1 a3 ha3 b2 I _ h
    · rw [if_neg (of_decide_eq_false hb)] at h
      refine go_ops aMi120 2 _ (f1 := (30, ([(0, .ref a0), (1, .ref a1), (2, .ref b2), (3, .ref a3), (4, .int i4)], [.int (6 : Int32), .int i4]))) rfl ?_
      refine gg_br (b := decide ((6 : Int32) ≤ i4)) (tg := 54) (off := 24) aMi120 rfl rfl rfl rfl (fun hb => ?_) (fun hb => ?_)
      · rw [if_pos (of_decide_eq_true hb)] at h
        refine go_le (lv1 := [(0, .ref a0), (1, .ref a1), (2, .ref b2), (3, .ref a3)]) (aLe_of (show (List.map (fun q => q.1) ([(0, .ref a0), (1, .ref a1), (2, .ref b2), (3, .ref a3)] : ALv)).Nodup from (by show ([0, 1, 2, 3] : List Nat).Nodup; decide)) (aSubL_cons rfl (aSubL_cons rfl (aSubL_cons rfl (aSubL_cons rfl aSubL_nil))))) ?_
        exact Tf120_b54 hd a0 ha0 a1 ha1 a3 ha3 b2 I _ h
      · rw [if_neg (of_decide_eq_false hb)] at h
        refine go_ops aMi120 1 _ (f1 := (34, ([(0, .ref a0), (1, .ref a1), (2, .ref b2), (3, .ref a3), (4, .int i4)], [.ref a1]))) rfl ?_
        refine gg_gR (b := (a1 + 10)) aMi120 rfl rfl rfl (gR_of (sh8_z ha1) (sh8_r4 ha1)) ?_
        refine go_ops aMi120 1 _ (f1 := (38, ([(0, .ref a0), (1, .ref a1), (2, .ref b2), (3, .ref a3), (4, .int i4)], [.ref a0, .ref (a1 + 10)]))) rfl ?_
        refine gg_gR (b := (a0 + 1)) aMi120 rfl rfl rfl (gR_of (sh9_z ha0) (sh9_r3 ha0)) ?_
        refine go_ops aMi120 1 _ (f1 := (43, ([(0, .ref a0), (1, .ref a1), (2, .ref b2), (3, .ref a3), (4, .int i4)], [.int i4, .ref (a0 + 1), .ref (a1 + 10)]))) rfl ?_
        obtain ⟨j43_1, hxj43_1, h⟩ := Option.bind_eq_some_iff.mp h
        refine gg_lI (Or.inl ⟨rfl, rfl⟩) aMi120 rfl (lI_of (sh9_a3 ha0) hxj43_1) ?_
        refine go_ops aMi120 1 _ (f1 := (45, ([(0, .ref a0), (1, .ref a1), (2, .ref b2), (3, .ref a3), (4, .int i4)], [.int (0 : Int32), .int (I (a0 + 1) j43_1), .ref (a1 + 10)]))) rfl ?_
        obtain ⟨r45_2, hxr45_2, h⟩ := Option.bind_eq_some_iff.mp h
        refine gg_cv (as := [.int (I (a0 + 1) j43_1), .int (0 : Int32)]) (r := []) aMi120 rfl rfl rfl aMi74 (Nat.le_of_ble_eq_true rfl) rfl (Nat.le_of_ble_eq_true rfl) (Nat.le_of_ble_eq_true rfl) (by omega) (isK_of (sh6_z (sh8_s4 ha1))) (Tf74 (by omega) (a1 + 10) (sh8_s4 ha1) (I (a0 + 1) j43_1) (0 : Int32) I _ hxr45_2) ?_
        show aGo kad d 120 (48, ([(0, .ref a0), (1, .ref a1), (2, .ref b2), (3, .ref a3), (4, .int i4)], [])) (aMem Z r45_2.2, t) _
        refine go_ops aMi120 2 _ (f1 := (17, ([(4, .int (i4 + (1 : Int32))), (0, .ref a0), (1, .ref a1), (2, .ref b2), (3, .ref a3)], []))) rfl ?_
        refine go_le (lv1 := [(0, .ref a0), (1, .ref a1), (2, .ref b2), (3, .ref a3), (4, .int (i4 + (1 : Int32)))]) (aLe_of (show (List.map (fun q => q.1) ([(0, .ref a0), (1, .ref a1), (2, .ref b2), (3, .ref a3), (4, .int (i4 + (1 : Int32)))] : ALv)).Nodup from (by show ([0, 1, 2, 3, 4] : List Nat).Nodup; decide)) (aSubL_cons rfl (aSubL_cons rfl (aSubL_cons rfl (aSubL_cons rfl (aSubL_cons rfl aSubL_nil)))))) ?_
        exact ih a0 ha0 a1 ha1 a3 ha3 b2 (i4 + (1 : Int32)) r45_2.2 _ h
def f120 (kad : Nat → Nat) (N : Nat) (Z : AZ) (a0 : Nat) (a1 : Nat) (b2 : Nat) (a3 : Nat) (I : AI) : Option (Unit × AI) :=
  (f42 kad N Z (a1 + 8) I).bind fun r4_1 =>
  (f72 kad N Z (a1 + 10) r4_1.2).bind fun r11_2 =>
  f120_b17 kad N Z N a0 a1 a3 b2 (0 : Int32) r11_2.2
set_option maxRecDepth 20000 in
theorem Tf120 {kad : Nat → Nat} {N : Nat} {Z : AZ} {d : Nat} {t : Option Nat × (Nat × Nat)} (hd : 6 ≤ d) : ∀ (a0 : Nat) (ha0 : sh9 kad Z a0) (a1 : Nat) (ha1 : sh8 kad Z a1) (b2 : Nat) (a3 : Nat) (ha3 : sh5 kad Z a3) (I : AI) (r : Unit × AI), f120 kad N Z a0 a1 b2 a3 I = some r → aGo kad d 120 (0, ([(0, .ref a0), (1, .ref a1), (2, .ref b2), (3, .ref a3)], [])) (aMem Z I, t) (qV Z t r) := by
  intro a0 ha0 a1 ha1 b2 a3 ha3 I r h
  unfold f120 at h
  refine go_ops aMi120 1 _ (f1 := (1, ([(0, .ref a0), (1, .ref a1), (2, .ref b2), (3, .ref a3)], [.ref a1]))) rfl ?_
  refine gg_gR (b := (a1 + 8)) aMi120 rfl rfl rfl (gR_of (sh8_z ha1) (sh8_r3 ha1)) ?_
  obtain ⟨r4_1, hxr4_1, h⟩ := Option.bind_eq_some_iff.mp h
  refine gg_cv (as := []) (r := []) aMi120 rfl rfl rfl aMi42 (Nat.le_of_ble_eq_true rfl) rfl (Nat.le_of_ble_eq_true rfl) (Nat.le_of_ble_eq_true rfl) (by omega) (isK_of (sh3_z (sh8_s3 ha1))) (Tf42 (by omega) (a1 + 8) (sh8_s3 ha1) I _ hxr4_1) ?_
  show aGo kad d 120 (7, ([(0, .ref a0), (1, .ref a1), (2, .ref b2), (3, .ref a3)], [])) (aMem Z r4_1.2, t) _
  refine go_ops aMi120 1 _ (f1 := (8, ([(0, .ref a0), (1, .ref a1), (2, .ref b2), (3, .ref a3)], [.ref a1]))) rfl ?_
  refine gg_gR (b := (a1 + 10)) aMi120 rfl rfl rfl (gR_of (sh8_z ha1) (sh8_r4 ha1)) ?_
  obtain ⟨r11_2, hxr11_2, h⟩ := Option.bind_eq_some_iff.mp h
  refine gg_cv (as := []) (r := []) aMi120 rfl rfl rfl aMi72 (Nat.le_of_ble_eq_true rfl) rfl (Nat.le_of_ble_eq_true rfl) (Nat.le_of_ble_eq_true rfl) (by omega) (isK_of (sh6_z (sh8_s4 ha1))) (Tf72 (by omega) (a1 + 10) (sh8_s4 ha1) r4_1.2 _ hxr11_2) ?_
  show aGo kad d 120 (14, ([(0, .ref a0), (1, .ref a1), (2, .ref b2), (3, .ref a3)], [])) (aMem Z r11_2.2, t) _
  refine go_ops aMi120 2 _ (f1 := (17, ([(4, .int (0 : Int32)), (0, .ref a0), (1, .ref a1), (2, .ref b2), (3, .ref a3)], []))) rfl ?_
  refine go_le (lv1 := [(0, .ref a0), (1, .ref a1), (2, .ref b2), (3, .ref a3), (4, .int (0 : Int32))]) (aLe_of (show (List.map (fun q => q.1) ([(0, .ref a0), (1, .ref a1), (2, .ref b2), (3, .ref a3), (4, .int (0 : Int32))] : ALv)).Nodup from (by show ([0, 1, 2, 3, 4] : List Nat).Nodup; decide)) (aSubL_cons rfl (aSubL_cons rfl (aSubL_cons rfl (aSubL_cons rfl (aSubL_cons rfl aSubL_nil)))))) ?_
  exact Tf120_b17 hd N a0 ha0 a1 ha1 a3 ha3 b2 (0 : Int32) r11_2.2 _ h
-- KernelGym$Trial.share ()I
def f122_b32 (kad : Nat → Nat) (N : Nat) (Z : AZ) (a0 : Nat) (s0 : Int32) (I : AI) : Option (Int32 × AI) :=
  some (s0, I)
set_option maxRecDepth 20000 in
theorem Tf122_b32 {kad : Nat → Nat} {N : Nat} {Z : AZ} {d : Nat} {t : Option Nat × (Nat × Nat)} (hd : 0 ≤ d) : ∀ (a0 : Nat) (ha0 : sh9 kad Z a0) (s0 : Int32) (I : AI) (r : Int32 × AI), f122_b32 kad N Z a0 s0 I = some r → aGo kad d 122 (32, ([], [.int s0])) (aMem Z I, t) (qI Z t r) := by
  intro a0 ha0 s0 I r h
  unfold f122_b32 at h
  cases h
  exact go_ret aMi122 rfl aRetI ⟨rfl, rfl⟩
def f122 (kad : Nat → Nat) (N : Nat) (Z : AZ) (a0 : Nat) (I : AI) : Option (Int32 × AI) :=
  if ¬ (I a0 2) = 0 then
    if (I a0 9) = 0 then
      f122_b32 kad N Z a0 (0 : Int32) I
    else
      f122_b32 kad N Z a0 (-(((I a0 7) + (1 : Int32)) / (2 : Int32))) I
  else
    some ((I a0 7), I)
set_option maxRecDepth 20000 in
theorem Tf122 {kad : Nat → Nat} {N : Nat} {Z : AZ} {d : Nat} {t : Option Nat × (Nat × Nat)} (hd : 0 ≤ d) : ∀ (a0 : Nat) (ha0 : sh9 kad Z a0) (I : AI) (r : Int32 × AI), f122 kad N Z a0 I = some r → aGo kad d 122 (0, ([(0, .ref a0)], [])) (aMem Z I, t) (qI Z t r) := by
  intro a0 ha0 I r h
  unfold f122 at h
  refine go_ops aMi122 1 _ (f1 := (1, ([(0, .ref a0)], [.ref a0]))) rfl ?_
  refine gg_gI aMi122 rfl rfl rfl (gI_of (sh9_z ha0)) ?_
  refine gg_br (b := decide (¬ (I a0 2) = 0)) (tg := 12) (off := 8) aMi122 rfl rfl rfl rfl (fun hb => ?_) (fun hb => ?_)
  · rw [if_pos (of_decide_eq_true hb)] at h
    refine go_ops aMi122 1 _ (f1 := (13, ([(0, .ref a0)], [.ref a0]))) rfl ?_
    refine gg_gI aMi122 rfl rfl rfl (gI_of (sh9_z ha0)) ?_
    refine gg_br (b := decide ((I a0 9) = 0)) (tg := 31) (off := 15) aMi122 rfl rfl rfl rfl (fun hb => ?_) (fun hb => ?_)
    · rw [if_pos (of_decide_eq_true hb)] at h
      refine go_ops aMi122 1 _ (f1 := (32, ([(0, .ref a0)], [.int (0 : Int32)]))) rfl ?_
      refine go_le (lv1 := []) (aLe_of (show (List.map (fun q => q.1) ([] : ALv)).Nodup from (by show ([] : List Nat).Nodup; decide)) aSubL_nil) ?_
      exact Tf122_b32 hd a0 ha0 (0 : Int32) I _ h
    · rw [if_neg (of_decide_eq_false hb)] at h
      refine go_ops aMi122 1 _ (f1 := (20, ([(0, .ref a0)], [.ref a0]))) rfl ?_
      refine gg_gI aMi122 rfl rfl rfl (gI_of (sh9_z ha0)) ?_
      refine go_ops aMi122 6 _ (f1 := (32, ([(0, .ref a0)], [.int (-(((I a0 7) + (1 : Int32)) / (2 : Int32)))]))) rfl ?_
      refine go_le (lv1 := []) (aLe_of (show (List.map (fun q => q.1) ([] : ALv)).Nodup from (by show ([] : List Nat).Nodup; decide)) aSubL_nil) ?_
      exact Tf122_b32 hd a0 ha0 (-(((I a0 7) + (1 : Int32)) / (2 : Int32))) I _ h
  · rw [if_neg (of_decide_eq_false hb)] at h
    refine go_ops aMi122 1 _ (f1 := (8, ([(0, .ref a0)], [.ref a0]))) rfl ?_
    refine gg_gI aMi122 rfl rfl rfl (gI_of (sh9_z ha0)) ?_
    cases h
    exact go_ret aMi122 rfl aRetI ⟨rfl, rfl⟩
-- KernelGym.clear ()I
def f124 (kad : Nat → Nat) (N : Nat) (Z : AZ) (a0 : Nat) (I : AI) : Option (Int32 × AI) :=
  (f1 kad N Z (a0 + 1) I).bind fun r4_1 =>
  some (r4_1.1, r4_1.2)
set_option maxRecDepth 20000 in
theorem Tf124 {kad : Nat → Nat} {N : Nat} {Z : AZ} {d : Nat} {t : Option Nat × (Nat × Nat)} (hd : 1 ≤ d) : ∀ (a0 : Nat) (ha0 : sh10 kad Z a0) (I : AI) (r : Int32 × AI), f124 kad N Z a0 I = some r → aGo kad d 124 (0, ([(0, .ref a0)], [])) (aMem Z I, t) (qI Z t r) := by
  intro a0 ha0 I r h
  unfold f124 at h
  refine go_ops aMi124 1 _ (f1 := (1, ([(0, .ref a0)], [.ref a0]))) rfl ?_
  refine gg_gR (b := (a0 + 1)) aMi124 rfl rfl rfl (gR_of (sh10_z ha0) (sh10_r0 ha0)) ?_
  obtain ⟨r4_1, hxr4_1, h⟩ := Option.bind_eq_some_iff.mp h
  refine gg_cv (as := []) (r := []) aMi124 rfl rfl rfl aMi1 (Nat.le_of_ble_eq_true rfl) rfl (Nat.le_of_ble_eq_true rfl) (Nat.le_of_ble_eq_true rfl) (by omega) (isK_of (sh0_z (sh10_s0 ha0))) (Tf1 (by omega) (a0 + 1) (sh10_s0 ha0) I _ hxr4_1) ?_
  show aGo kad d 124 (7, ([(0, .ref a0)], [.int r4_1.1])) (aMem Z r4_1.2, t) _
  cases h
  exact go_ret aMi124 rfl aRetI ⟨rfl, rfl⟩
-- KernelGym.lines ()I
def f125 (kad : Nat → Nat) (N : Nat) (Z : AZ) (a0 : Nat) (I : AI) : Option (Int32 × AI) :=
  some ((I (a0 + 1) 0), I)
set_option maxRecDepth 20000 in
theorem Tf125 {kad : Nat → Nat} {N : Nat} {Z : AZ} {d : Nat} {t : Option Nat × (Nat × Nat)} (hd : 0 ≤ d) : ∀ (a0 : Nat) (ha0 : sh10 kad Z a0) (I : AI) (r : Int32 × AI), f125 kad N Z a0 I = some r → aGo kad d 125 (0, ([(0, .ref a0)], [])) (aMem Z I, t) (qI Z t r) := by
  intro a0 ha0 I r h
  unfold f125 at h
  refine go_ops aMi125 1 _ (f1 := (1, ([(0, .ref a0)], [.ref a0]))) rfl ?_
  refine gg_gR (b := (a0 + 1)) aMi125 rfl rfl rfl (gR_of (sh10_z ha0) (sh10_r0 ha0)) ?_
  refine gg_gI aMi125 rfl rfl rfl (gI_of (sh0_z (sh10_s0 ha0))) ?_
  cases h
  exact go_ret aMi125 rfl aRetI ⟨rfl, rfl⟩
-- KernelGym.requireRange (III)V
def f138_b10 (kad : Nat → Nat) (N : Nat) (Z : AZ)  (I : AI) : Option ((Unit ⊕ String) × AI) :=
  some (.inr (aEC 0), I)
set_option maxRecDepth 20000 in
theorem Tf138_b10 {kad : Nat → Nat} {N : Nat} {Z : AZ} {d : Nat} {t : Option Nat × (Nat × Nat)} (hd : 0 ≤ d) : ∀  (I : AI) (r : (Unit ⊕ String) × AI), f138_b10 kad N Z  I = some r → aGo kad d 138 (10, ([], [])) (aMem Z I, t) (qX tvV Z t r) := by
  intro  I r h
  unfold f138_b10 at h
  cases h
  exact go_thr (E := aEC 0) aMi138 rfl rfl rfl rfl rfl rfl qX_thr
def f138 (kad : Nat → Nat) (N : Nat) (Z : AZ) (i0 : Int32) (i1 : Int32) (i2 : Int32) (I : AI) : Option ((Unit ⊕ String) × AI) :=
  if i0 < i1 then
    f138_b10 kad N Z  I
  else
    if i0 ≤ i2 then
      some (.inl (), I)
    else
      f138_b10 kad N Z  I
set_option maxRecDepth 20000 in
theorem Tf138 {kad : Nat → Nat} {N : Nat} {Z : AZ} {d : Nat} {t : Option Nat × (Nat × Nat)} (hd : 0 ≤ d) : ∀ (i0 : Int32) (i1 : Int32) (i2 : Int32) (I : AI) (r : (Unit ⊕ String) × AI), f138 kad N Z i0 i1 i2 I = some r → aGo kad d 138 (0, ([(0, .int i0), (1, .int i1), (2, .int i2)], [])) (aMem Z I, t) (qX tvV Z t r) := by
  intro i0 i1 i2 I r h
  unfold f138 at h
  refine go_ops aMi138 2 _ (f1 := (2, ([(0, .int i0), (1, .int i1), (2, .int i2)], [.int i1, .int i0]))) rfl ?_
  refine gg_br (b := decide (i0 < i1)) (tg := 10) (off := 8) aMi138 rfl rfl rfl rfl (fun hb => ?_) (fun hb => ?_)
  · rw [if_pos (of_decide_eq_true hb)] at h
    refine go_le (lv1 := []) (aLe_of (show (List.map (fun q => q.1) ([] : ALv)).Nodup from (by show ([] : List Nat).Nodup; decide)) aSubL_nil) ?_
    exact Tf138_b10 hd  I _ h
  · rw [if_neg (of_decide_eq_false hb)] at h
    refine go_ops aMi138 2 _ (f1 := (7, ([(0, .int i0), (1, .int i1), (2, .int i2)], [.int i2, .int i0]))) rfl ?_
    refine gg_br (b := decide (i0 ≤ i2)) (tg := 20) (off := 13) aMi138 rfl rfl rfl rfl (fun hb => ?_) (fun hb => ?_)
    · rw [if_pos (of_decide_eq_true hb)] at h
      cases h
      exact go_ret aMi138 rfl rfl qX_ret
    · rw [if_neg (of_decide_eq_false hb)] at h
      refine go_le (lv1 := []) (aLe_of (show (List.map (fun q => q.1) ([] : ALv)).Nodup from (by show ([] : List Nat).Nodup; decide)) aSubL_nil) ?_
      exact Tf138_b10 hd  I _ h
-- KernelGym.addLine (LKernelGym$Does;III)I
def f142 (kad : Nat → Nat) (N : Nat) (Z : AZ) (a0 : Nat) (b1 : Nat) (i2 : Int32) (i3 : Int32) (i4 : Int32) (I : AI) : Option ((Int32 ⊕ String) × AI) :=
  if (I (a0 + 1) 0) < (100 : Int32) then
    (f2 kad N Z (a0 + 1) b1 i2 i3 i4 I).bind fun r31_1 =>
    some (.inl r31_1.1, r31_1.2)
  else
    some (.inr (aEC 1), I)
set_option maxRecDepth 20000 in
theorem Tf142 {kad : Nat → Nat} {N : Nat} {Z : AZ} {d : Nat} {t : Option Nat × (Nat × Nat)} (hd : 1 ≤ d) : ∀ (a0 : Nat) (ha0 : sh10 kad Z a0) (b1 : Nat) (i2 : Int32) (i3 : Int32) (i4 : Int32) (I : AI) (r : (Int32 ⊕ String) × AI), f142 kad N Z a0 b1 i2 i3 i4 I = some r → aGo kad d 142 (0, ([(0, .ref a0), (1, .ref b1), (2, .int i2), (3, .int i3), (4, .int i4)], [])) (aMem Z I, t) (qX tvI Z t r) := by
  intro a0 ha0 b1 i2 i3 i4 I r h
  unfold f142 at h
  refine go_ops aMi142 1 _ (f1 := (1, ([(0, .ref a0), (1, .ref b1), (2, .int i2), (3, .int i3), (4, .int i4)], [.ref a0]))) rfl ?_
  refine gg_gR (b := (a0 + 1)) aMi142 rfl rfl rfl (gR_of (sh10_z ha0) (sh10_r0 ha0)) ?_
  refine gg_gI aMi142 rfl rfl rfl (gI_of (sh0_z (sh10_s0 ha0))) ?_
  refine go_ops aMi142 1 _ (f1 := (9, ([(0, .ref a0), (1, .ref b1), (2, .int i2), (3, .int i3), (4, .int i4)], [.int (100 : Int32), .int (I (a0 + 1) 0)]))) rfl ?_
  refine gg_br (b := decide ((I (a0 + 1) 0) < (100 : Int32))) (tg := 22) (off := 13) aMi142 rfl rfl rfl rfl (fun hb => ?_) (fun hb => ?_)
  · rw [if_pos (of_decide_eq_true hb)] at h
    refine go_ops aMi142 1 _ (f1 := (23, ([(0, .ref a0), (1, .ref b1), (2, .int i2), (3, .int i3), (4, .int i4)], [.ref a0]))) rfl ?_
    refine gg_gR (b := (a0 + 1)) aMi142 rfl rfl rfl (gR_of (sh10_z ha0) (sh10_r0 ha0)) ?_
    refine go_ops aMi142 4 _ (f1 := (31, ([(0, .ref a0), (1, .ref b1), (2, .int i2), (3, .int i3), (4, .int i4)], [.int i4, .int i3, .int i2, .ref b1, .ref (a0 + 1)]))) rfl ?_
    obtain ⟨r31_1, hxr31_1, h⟩ := Option.bind_eq_some_iff.mp h
    refine gg_cv (as := [.ref b1, .int i2, .int i3, .int i4]) (r := []) aMi142 rfl rfl rfl aMi2 (Nat.le_of_ble_eq_true rfl) rfl (Nat.le_of_ble_eq_true rfl) (Nat.le_of_ble_eq_true rfl) (by omega) (isK_of (sh0_z (sh10_s0 ha0))) (Tf2 (by omega) (a0 + 1) (sh10_s0 ha0) b1 i2 i3 i4 I _ hxr31_1) ?_
    show aGo kad d 142 (34, ([(0, .ref a0), (1, .ref b1), (2, .int i2), (3, .int i3), (4, .int i4)], [.int r31_1.1])) (aMem Z r31_1.2, t) _
    cases h
    exact go_ret aMi142 rfl aRetI qX_ret
  · rw [if_neg (of_decide_eq_false hb)] at h
    cases h
    exact go_thr (E := aEC 1) aMi142 rfl rfl rfl rfl rfl rfl qX_thr
-- KernelGym.addLine (LKernelGym$Does;I)I
def f141 (kad : Nat → Nat) (N : Nat) (Z : AZ) (a0 : Nat) (b1 : Nat) (i2 : Int32) (I : AI) : Option ((Int32 ⊕ String) × AI) :=
  (f142 kad N Z a0 b1 i2 (0 : Int32) (0 : Int32) I).bind fun r5_1 =>
  xB r5_1 fun vr5_1 Ir5_1 =>
  some (.inl vr5_1, Ir5_1)
set_option maxRecDepth 20000 in
theorem Tf141 {kad : Nat → Nat} {N : Nat} {Z : AZ} {d : Nat} {t : Option Nat × (Nat × Nat)} (hd : 2 ≤ d) : ∀ (a0 : Nat) (ha0 : sh10 kad Z a0) (b1 : Nat) (i2 : Int32) (I : AI) (r : (Int32 ⊕ String) × AI), f141 kad N Z a0 b1 i2 I = some r → aGo kad d 141 (0, ([(0, .ref a0), (1, .ref b1), (2, .int i2)], [])) (aMem Z I, t) (qX tvI Z t r) := by
  intro a0 ha0 b1 i2 I r h
  unfold f141 at h
  refine go_ops aMi141 5 _ (f1 := (5, ([(0, .ref a0), (1, .ref b1), (2, .int i2)], [.int (0 : Int32), .int (0 : Int32), .int i2, .ref b1, .ref a0]))) rfl ?_
  obtain ⟨r5_1, hxr5_1, h⟩ := Option.bind_eq_some_iff.mp h
  rcases xB_eq h with ⟨vr5_1, Ir5_1, her5_1, h2⟩ | ⟨Er5_1, Ir5_1, her5_1, h2⟩
  rotate_left
  · clear h
    subst her5_1
    subst h2
    exact gg_cvt (as := [.ref b1, .int i2, .int (0 : Int32), .int (0 : Int32)]) (r := []) aMi141 rfl rfl rfl aMi142 (Nat.le_of_ble_eq_true rfl) rfl (Nat.le_of_ble_eq_true rfl) (Nat.le_of_ble_eq_true rfl) (by omega) (isK_of (sh10_z ha0)) (Tf142 (by omega) a0 ha0 b1 i2 (0 : Int32) (0 : Int32) I _ hxr5_1) qX_thr
  clear h
  subst her5_1
  have h := h2
  clear h2
  refine gg_cv (as := [.ref b1, .int i2, .int (0 : Int32), .int (0 : Int32)]) (r := []) aMi141 rfl rfl rfl aMi142 (Nat.le_of_ble_eq_true rfl) rfl (Nat.le_of_ble_eq_true rfl) (Nat.le_of_ble_eq_true rfl) (by omega) (isK_of (sh10_z ha0)) (Tf142 (by omega) a0 ha0 b1 i2 (0 : Int32) (0 : Int32) I _ hxr5_1) ?_
  show aGo kad d 141 (8, ([(0, .ref a0), (1, .ref b1), (2, .int i2)], [.int vr5_1])) (aMem Z Ir5_1, t) _
  cases h
  exact go_ret aMi141 rfl aRetI qX_ret
-- KernelGym.section (I)I
def f126 (kad : Nat → Nat) (N : Nat) (Z : AZ) (a0 : Nat) (i1 : Int32) (I : AI) : Option ((Int32 ⊕ String) × AI) :=
  (f138 kad N Z i1 (0 : Int32) (1 : Int32) I).bind fun r3_1 =>
  xB r3_1 fun vr3_1 Ir3_1 =>
  (f141 kad N Z a0 (kad 0) i1 Ir3_1).bind fun r11_2 =>
  xB r11_2 fun vr11_2 Ir11_2 =>
  some (.inl vr11_2, Ir11_2)
set_option maxRecDepth 20000 in
theorem Tf126 {kad : Nat → Nat} {N : Nat} {Z : AZ} {d : Nat} {t : Option Nat × (Nat × Nat)} (hd : 3 ≤ d) : ∀ (a0 : Nat) (ha0 : sh10 kad Z a0) (i1 : Int32) (I : AI) (r : (Int32 ⊕ String) × AI), f126 kad N Z a0 i1 I = some r → aGo kad d 126 (0, ([(0, .ref a0), (1, .int i1)], [])) (aMem Z I, t) (qX tvI Z t r) := by
  intro a0 ha0 i1 I r h
  unfold f126 at h
  refine go_ops aMi126 3 _ (f1 := (3, ([(0, .ref a0), (1, .int i1)], [.int (1 : Int32), .int (0 : Int32), .int i1]))) rfl ?_
  obtain ⟨r3_1, hxr3_1, h⟩ := Option.bind_eq_some_iff.mp h
  rcases xB_eq h with ⟨vr3_1, Ir3_1, her3_1, h2⟩ | ⟨Er3_1, Ir3_1, her3_1, h2⟩
  rotate_left
  · clear h
    subst her3_1
    subst h2
    exact gg_cst (as := [.int i1, .int (0 : Int32), .int (1 : Int32)]) (r := []) aMi126 rfl rfl rfl aMi138 rfl (Nat.le_of_ble_eq_true rfl) (Nat.le_of_ble_eq_true rfl) (by omega) (Tf138 (by omega) i1 (0 : Int32) (1 : Int32) I _ hxr3_1) qX_thr
  clear h
  subst her3_1
  have h := h2
  clear h2
  refine gg_cs (as := [.int i1, .int (0 : Int32), .int (1 : Int32)]) (r := []) aMi126 rfl rfl rfl aMi138 rfl (Nat.le_of_ble_eq_true rfl) (Nat.le_of_ble_eq_true rfl) (by omega) (Tf138 (by omega) i1 (0 : Int32) (1 : Int32) I _ hxr3_1) ?_
  show aGo kad d 126 (6, ([(0, .ref a0), (1, .int i1)], [])) (aMem Z Ir3_1, t) _
  refine go_ops aMi126 1 _ (f1 := (7, ([(0, .ref a0), (1, .int i1)], [.ref a0]))) rfl ?_
  refine gg_gs aMi126 rfl rfl ?_
  refine go_ops aMi126 1 _ (f1 := (11, ([(0, .ref a0), (1, .int i1)], [.int i1, .ref (kad 0), .ref a0]))) rfl ?_
  obtain ⟨r11_2, hxr11_2, h⟩ := Option.bind_eq_some_iff.mp h
  rcases xB_eq h with ⟨vr11_2, Ir11_2, her11_2, h2⟩ | ⟨Er11_2, Ir11_2, her11_2, h2⟩
  rotate_left
  · clear h
    subst her11_2
    subst h2
    exact gg_cvt (as := [.ref (kad 0), .int i1]) (r := []) aMi126 rfl rfl rfl aMi141 (Nat.le_of_ble_eq_true rfl) rfl (Nat.le_of_ble_eq_true rfl) (Nat.le_of_ble_eq_true rfl) (by omega) (isK_of (sh10_z ha0)) (Tf141 (by omega) a0 ha0 (kad 0) i1 Ir3_1 _ hxr11_2) qX_thr
  clear h
  subst her11_2
  have h := h2
  clear h2
  refine gg_cv (as := [.ref (kad 0), .int i1]) (r := []) aMi126 rfl rfl rfl aMi141 (Nat.le_of_ble_eq_true rfl) rfl (Nat.le_of_ble_eq_true rfl) (Nat.le_of_ble_eq_true rfl) (by omega) (isK_of (sh10_z ha0)) (Tf141 (by omega) a0 ha0 (kad 0) i1 Ir3_1 _ hxr11_2) ?_
  show aGo kad d 126 (14, ([(0, .ref a0), (1, .int i1)], [.int vr11_2])) (aMem Z Ir11_2, t) _
  cases h
  exact go_ret aMi126 rfl aRetI qX_ret
-- KernelGym.label (I)I
def f127 (kad : Nat → Nat) (N : Nat) (Z : AZ) (a0 : Nat) (i1 : Int32) (I : AI) : Option ((Int32 ⊕ String) × AI) :=
  (f138 kad N Z i1 (0 : Int32) (19 : Int32) I).bind fun r4_1 =>
  xB r4_1 fun vr4_1 Ir4_1 =>
  (f141 kad N Z a0 (kad 1) i1 Ir4_1).bind fun r12_2 =>
  xB r12_2 fun vr12_2 Ir12_2 =>
  some (.inl vr12_2, Ir12_2)
set_option maxRecDepth 20000 in
theorem Tf127 {kad : Nat → Nat} {N : Nat} {Z : AZ} {d : Nat} {t : Option Nat × (Nat × Nat)} (hd : 3 ≤ d) : ∀ (a0 : Nat) (ha0 : sh10 kad Z a0) (i1 : Int32) (I : AI) (r : (Int32 ⊕ String) × AI), f127 kad N Z a0 i1 I = some r → aGo kad d 127 (0, ([(0, .ref a0), (1, .int i1)], [])) (aMem Z I, t) (qX tvI Z t r) := by
  intro a0 ha0 i1 I r h
  unfold f127 at h
  refine go_ops aMi127 3 _ (f1 := (4, ([(0, .ref a0), (1, .int i1)], [.int (19 : Int32), .int (0 : Int32), .int i1]))) rfl ?_
  obtain ⟨r4_1, hxr4_1, h⟩ := Option.bind_eq_some_iff.mp h
  rcases xB_eq h with ⟨vr4_1, Ir4_1, her4_1, h2⟩ | ⟨Er4_1, Ir4_1, her4_1, h2⟩
  rotate_left
  · clear h
    subst her4_1
    subst h2
    exact gg_cst (as := [.int i1, .int (0 : Int32), .int (19 : Int32)]) (r := []) aMi127 rfl rfl rfl aMi138 rfl (Nat.le_of_ble_eq_true rfl) (Nat.le_of_ble_eq_true rfl) (by omega) (Tf138 (by omega) i1 (0 : Int32) (19 : Int32) I _ hxr4_1) qX_thr
  clear h
  subst her4_1
  have h := h2
  clear h2
  refine gg_cs (as := [.int i1, .int (0 : Int32), .int (19 : Int32)]) (r := []) aMi127 rfl rfl rfl aMi138 rfl (Nat.le_of_ble_eq_true rfl) (Nat.le_of_ble_eq_true rfl) (by omega) (Tf138 (by omega) i1 (0 : Int32) (19 : Int32) I _ hxr4_1) ?_
  show aGo kad d 127 (7, ([(0, .ref a0), (1, .int i1)], [])) (aMem Z Ir4_1, t) _
  refine go_ops aMi127 1 _ (f1 := (8, ([(0, .ref a0), (1, .int i1)], [.ref a0]))) rfl ?_
  refine gg_gs aMi127 rfl rfl ?_
  refine go_ops aMi127 1 _ (f1 := (12, ([(0, .ref a0), (1, .int i1)], [.int i1, .ref (kad 1), .ref a0]))) rfl ?_
  obtain ⟨r12_2, hxr12_2, h⟩ := Option.bind_eq_some_iff.mp h
  rcases xB_eq h with ⟨vr12_2, Ir12_2, her12_2, h2⟩ | ⟨Er12_2, Ir12_2, her12_2, h2⟩
  rotate_left
  · clear h
    subst her12_2
    subst h2
    exact gg_cvt (as := [.ref (kad 1), .int i1]) (r := []) aMi127 rfl rfl rfl aMi141 (Nat.le_of_ble_eq_true rfl) rfl (Nat.le_of_ble_eq_true rfl) (Nat.le_of_ble_eq_true rfl) (by omega) (isK_of (sh10_z ha0)) (Tf141 (by omega) a0 ha0 (kad 1) i1 Ir4_1 _ hxr12_2) qX_thr
  clear h
  subst her12_2
  have h := h2
  clear h2
  refine gg_cv (as := [.ref (kad 1), .int i1]) (r := []) aMi127 rfl rfl rfl aMi141 (Nat.le_of_ble_eq_true rfl) rfl (Nat.le_of_ble_eq_true rfl) (Nat.le_of_ble_eq_true rfl) (by omega) (isK_of (sh10_z ha0)) (Tf141 (by omega) a0 ha0 (kad 1) i1 Ir4_1 _ hxr12_2) ?_
  show aGo kad d 127 (15, ([(0, .ref a0), (1, .int i1)], [.int vr12_2])) (aMem Z Ir12_2, t) _
  cases h
  exact go_ret aMi127 rfl aRetI qX_ret
-- KernelGym.requireOperand (II)V
def f139_b20 (kad : Nat → Nat) (N : Nat) (Z : AZ) (s0 : Int32) (s1 : Int32) (s2 : Int32) (I : AI) : Option ((Unit ⊕ String) × AI) :=
  (f138 kad N Z s2 s1 s0 I).bind fun r20_1 =>
  xB r20_1 fun vr20_1 Ir20_1 =>
  some (.inl (), Ir20_1)
set_option maxRecDepth 20000 in
theorem Tf139_b20 {kad : Nat → Nat} {N : Nat} {Z : AZ} {d : Nat} {t : Option Nat × (Nat × Nat)} (hd : 1 ≤ d) : ∀ (s0 : Int32) (s1 : Int32) (s2 : Int32) (I : AI) (r : (Unit ⊕ String) × AI), f139_b20 kad N Z s0 s1 s2 I = some r → aGo kad d 139 (20, ([], [.int s0, .int s1, .int s2])) (aMem Z I, t) (qX tvV Z t r) := by
  intro s0 s1 s2 I r h
  unfold f139_b20 at h
  obtain ⟨r20_1, hxr20_1, h⟩ := Option.bind_eq_some_iff.mp h
  rcases xB_eq h with ⟨vr20_1, Ir20_1, her20_1, h2⟩ | ⟨Er20_1, Ir20_1, her20_1, h2⟩
  rotate_left
  · clear h
    subst her20_1
    subst h2
    exact gg_cst (as := [.int s2, .int s1, .int s0]) (r := []) aMi139 rfl rfl rfl aMi138 rfl (Nat.le_of_ble_eq_true rfl) (Nat.le_of_ble_eq_true rfl) (by omega) (Tf138 (by omega) s2 s1 s0 I _ hxr20_1) qX_thr
  clear h
  subst her20_1
  have h := h2
  clear h2
  refine gg_cs (as := [.int s2, .int s1, .int s0]) (r := []) aMi139 rfl rfl rfl aMi138 rfl (Nat.le_of_ble_eq_true rfl) (Nat.le_of_ble_eq_true rfl) (by omega) (Tf138 (by omega) s2 s1 s0 I _ hxr20_1) ?_
  show aGo kad d 139 (23, ([], [])) (aMem Z Ir20_1, t) _
  cases h
  exact go_ret aMi139 rfl rfl qX_ret
def f139 (kad : Nat → Nat) (N : Nat) (Z : AZ) (i0 : Int32) (i1 : Int32) (I : AI) : Option ((Unit ⊕ String) × AI) :=
  (f138 kad N Z i0 (0 : Int32) (3 : Int32) I).bind fun r3_1 =>
  xB r3_1 fun vr3_1 Ir3_1 =>
  if ¬ i0 = (1 : Int32) then
    f139_b20 kad N Z (65535 : Int32) (0 : Int32) i1 Ir3_1
  else
    f139_b20 kad N Z (19 : Int32) (0 : Int32) i1 Ir3_1
set_option maxRecDepth 20000 in
theorem Tf139 {kad : Nat → Nat} {N : Nat} {Z : AZ} {d : Nat} {t : Option Nat × (Nat × Nat)} (hd : 1 ≤ d) : ∀ (i0 : Int32) (i1 : Int32) (I : AI) (r : (Unit ⊕ String) × AI), f139 kad N Z i0 i1 I = some r → aGo kad d 139 (0, ([(0, .int i0), (1, .int i1)], [])) (aMem Z I, t) (qX tvV Z t r) := by
  intro i0 i1 I r h
  unfold f139 at h
  refine go_ops aMi139 3 _ (f1 := (3, ([(0, .int i0), (1, .int i1)], [.int (3 : Int32), .int (0 : Int32), .int i0]))) rfl ?_
  obtain ⟨r3_1, hxr3_1, h⟩ := Option.bind_eq_some_iff.mp h
  rcases xB_eq h with ⟨vr3_1, Ir3_1, her3_1, h2⟩ | ⟨Er3_1, Ir3_1, her3_1, h2⟩
  rotate_left
  · clear h
    subst her3_1
    subst h2
    exact gg_cst (as := [.int i0, .int (0 : Int32), .int (3 : Int32)]) (r := []) aMi139 rfl rfl rfl aMi138 rfl (Nat.le_of_ble_eq_true rfl) (Nat.le_of_ble_eq_true rfl) (by omega) (Tf138 (by omega) i0 (0 : Int32) (3 : Int32) I _ hxr3_1) qX_thr
  clear h
  subst her3_1
  have h := h2
  clear h2
  refine gg_cs (as := [.int i0, .int (0 : Int32), .int (3 : Int32)]) (r := []) aMi139 rfl rfl rfl aMi138 rfl (Nat.le_of_ble_eq_true rfl) (Nat.le_of_ble_eq_true rfl) (by omega) (Tf138 (by omega) i0 (0 : Int32) (3 : Int32) I _ hxr3_1) ?_
  show aGo kad d 139 (6, ([(0, .int i0), (1, .int i1)], [])) (aMem Z Ir3_1, t) _
  refine go_ops aMi139 4 _ (f1 := (10, ([(0, .int i0), (1, .int i1)], [.int (1 : Int32), .int i0, .int (0 : Int32), .int i1]))) rfl ?_
  refine gg_br (b := decide (¬ i0 = (1 : Int32))) (tg := 18) (off := 8) aMi139 rfl rfl rfl rfl (fun hb => ?_) (fun hb => ?_)
  · rw [if_pos (of_decide_eq_true hb)] at h
    refine gg_kI (Or.inl ⟨rfl, rfl⟩) aMi139 rfl rfl ?_
    refine go_le (lv1 := []) (aLe_of (show (List.map (fun q => q.1) ([] : ALv)).Nodup from (by show ([] : List Nat).Nodup; decide)) aSubL_nil) ?_
    exact Tf139_b20 hd (65535 : Int32) (0 : Int32) i1 Ir3_1 _ h
  · rw [if_neg (of_decide_eq_false hb)] at h
    refine go_ops aMi139 2 _ (f1 := (20, ([(0, .int i0), (1, .int i1)], [.int (19 : Int32), .int (0 : Int32), .int i1]))) rfl ?_
    refine go_le (lv1 := []) (aLe_of (show (List.map (fun q => q.1) ([] : ALv)).Nodup from (by show ([] : List Nat).Nodup; decide)) aSubL_nil) ?_
    exact Tf139_b20 hd (19 : Int32) (0 : Int32) i1 Ir3_1 _ h
-- KernelGym.code (IIIII)I
def f128 (kad : Nat → Nat) (N : Nat) (Z : AZ) (a0 : Nat) (i1 : Int32) (i2 : Int32) (i3 : Int32) (i4 : Int32) (i5 : Int32) (I : AI) : Option ((Int32 ⊕ String) × AI) :=
  (f138 kad N Z i1 (0 : Int32) (26 : Int32) I).bind fun r4_1 =>
  xB r4_1 fun vr4_1 Ir4_1 =>
  (f138 kad N Z i2 (0 : Int32) (3 : Int32) Ir4_1).bind fun r10_2 =>
  xB r10_2 fun vr10_2 Ir10_2 =>
  (f138 kad N Z i3 (0 : Int32) (3 : Int32) Ir10_2).bind fun r16_3 =>
  xB r16_3 fun vr16_3 Ir16_3 =>
  (f139 kad N Z i4 i5 Ir16_3).bind fun r23_4 =>
  xB r23_4 fun vr23_4 Ir23_4 =>
  (f142 kad N Z a0 (kad 2) ((((16 : Int32) * i1) + ((4 : Int32) * i2)) + i3) i4 i5 Ir23_4).bind fun r44_5 =>
  xB r44_5 fun vr44_5 Ir44_5 =>
  some (.inl vr44_5, Ir44_5)
set_option maxRecDepth 20000 in
theorem Tf128 {kad : Nat → Nat} {N : Nat} {Z : AZ} {d : Nat} {t : Option Nat × (Nat × Nat)} (hd : 2 ≤ d) : ∀ (a0 : Nat) (ha0 : sh10 kad Z a0) (i1 : Int32) (i2 : Int32) (i3 : Int32) (i4 : Int32) (i5 : Int32) (I : AI) (r : (Int32 ⊕ String) × AI), f128 kad N Z a0 i1 i2 i3 i4 i5 I = some r → aGo kad d 128 (0, ([(0, .ref a0), (1, .int i1), (2, .int i2), (3, .int i3), (4, .int i4), (5, .int i5)], [])) (aMem Z I, t) (qX tvI Z t r) := by
  intro a0 ha0 i1 i2 i3 i4 i5 I r h
  unfold f128 at h
  refine go_ops aMi128 3 _ (f1 := (4, ([(0, .ref a0), (1, .int i1), (2, .int i2), (3, .int i3), (4, .int i4), (5, .int i5)], [.int (26 : Int32), .int (0 : Int32), .int i1]))) rfl ?_
  obtain ⟨r4_1, hxr4_1, h⟩ := Option.bind_eq_some_iff.mp h
  rcases xB_eq h with ⟨vr4_1, Ir4_1, her4_1, h2⟩ | ⟨Er4_1, Ir4_1, her4_1, h2⟩
  rotate_left
  · clear h
    subst her4_1
    subst h2
    exact gg_cst (as := [.int i1, .int (0 : Int32), .int (26 : Int32)]) (r := []) aMi128 rfl rfl rfl aMi138 rfl (Nat.le_of_ble_eq_true rfl) (Nat.le_of_ble_eq_true rfl) (by omega) (Tf138 (by omega) i1 (0 : Int32) (26 : Int32) I _ hxr4_1) qX_thr
  clear h
  subst her4_1
  have h := h2
  clear h2
  refine gg_cs (as := [.int i1, .int (0 : Int32), .int (26 : Int32)]) (r := []) aMi128 rfl rfl rfl aMi138 rfl (Nat.le_of_ble_eq_true rfl) (Nat.le_of_ble_eq_true rfl) (by omega) (Tf138 (by omega) i1 (0 : Int32) (26 : Int32) I _ hxr4_1) ?_
  show aGo kad d 128 (7, ([(0, .ref a0), (1, .int i1), (2, .int i2), (3, .int i3), (4, .int i4), (5, .int i5)], [])) (aMem Z Ir4_1, t) _
  refine go_ops aMi128 3 _ (f1 := (10, ([(0, .ref a0), (1, .int i1), (2, .int i2), (3, .int i3), (4, .int i4), (5, .int i5)], [.int (3 : Int32), .int (0 : Int32), .int i2]))) rfl ?_
  obtain ⟨r10_2, hxr10_2, h⟩ := Option.bind_eq_some_iff.mp h
  rcases xB_eq h with ⟨vr10_2, Ir10_2, her10_2, h2⟩ | ⟨Er10_2, Ir10_2, her10_2, h2⟩
  rotate_left
  · clear h
    subst her10_2
    subst h2
    exact gg_cst (as := [.int i2, .int (0 : Int32), .int (3 : Int32)]) (r := []) aMi128 rfl rfl rfl aMi138 rfl (Nat.le_of_ble_eq_true rfl) (Nat.le_of_ble_eq_true rfl) (by omega) (Tf138 (by omega) i2 (0 : Int32) (3 : Int32) Ir4_1 _ hxr10_2) qX_thr
  clear h
  subst her10_2
  have h := h2
  clear h2
  refine gg_cs (as := [.int i2, .int (0 : Int32), .int (3 : Int32)]) (r := []) aMi128 rfl rfl rfl aMi138 rfl (Nat.le_of_ble_eq_true rfl) (Nat.le_of_ble_eq_true rfl) (by omega) (Tf138 (by omega) i2 (0 : Int32) (3 : Int32) Ir4_1 _ hxr10_2) ?_
  show aGo kad d 128 (13, ([(0, .ref a0), (1, .int i1), (2, .int i2), (3, .int i3), (4, .int i4), (5, .int i5)], [])) (aMem Z Ir10_2, t) _
  refine go_ops aMi128 3 _ (f1 := (16, ([(0, .ref a0), (1, .int i1), (2, .int i2), (3, .int i3), (4, .int i4), (5, .int i5)], [.int (3 : Int32), .int (0 : Int32), .int i3]))) rfl ?_
  obtain ⟨r16_3, hxr16_3, h⟩ := Option.bind_eq_some_iff.mp h
  rcases xB_eq h with ⟨vr16_3, Ir16_3, her16_3, h2⟩ | ⟨Er16_3, Ir16_3, her16_3, h2⟩
  rotate_left
  · clear h
    subst her16_3
    subst h2
    exact gg_cst (as := [.int i3, .int (0 : Int32), .int (3 : Int32)]) (r := []) aMi128 rfl rfl rfl aMi138 rfl (Nat.le_of_ble_eq_true rfl) (Nat.le_of_ble_eq_true rfl) (by omega) (Tf138 (by omega) i3 (0 : Int32) (3 : Int32) Ir10_2 _ hxr16_3) qX_thr
  clear h
  subst her16_3
  have h := h2
  clear h2
  refine gg_cs (as := [.int i3, .int (0 : Int32), .int (3 : Int32)]) (r := []) aMi128 rfl rfl rfl aMi138 rfl (Nat.le_of_ble_eq_true rfl) (Nat.le_of_ble_eq_true rfl) (by omega) (Tf138 (by omega) i3 (0 : Int32) (3 : Int32) Ir10_2 _ hxr16_3) ?_
  show aGo kad d 128 (19, ([(0, .ref a0), (1, .int i1), (2, .int i2), (3, .int i3), (4, .int i4), (5, .int i5)], [])) (aMem Z Ir16_3, t) _
  refine go_ops aMi128 2 _ (f1 := (23, ([(0, .ref a0), (1, .int i1), (2, .int i2), (3, .int i3), (4, .int i4), (5, .int i5)], [.int i5, .int i4]))) rfl ?_
  obtain ⟨r23_4, hxr23_4, h⟩ := Option.bind_eq_some_iff.mp h
  rcases xB_eq h with ⟨vr23_4, Ir23_4, her23_4, h2⟩ | ⟨Er23_4, Ir23_4, her23_4, h2⟩
  rotate_left
  · clear h
    subst her23_4
    subst h2
    exact gg_cst (as := [.int i4, .int i5]) (r := []) aMi128 rfl rfl rfl aMi139 rfl (Nat.le_of_ble_eq_true rfl) (Nat.le_of_ble_eq_true rfl) (by omega) (Tf139 (by omega) i4 i5 Ir16_3 _ hxr23_4) qX_thr
  clear h
  subst her23_4
  have h := h2
  clear h2
  refine gg_cs (as := [.int i4, .int i5]) (r := []) aMi128 rfl rfl rfl aMi139 rfl (Nat.le_of_ble_eq_true rfl) (Nat.le_of_ble_eq_true rfl) (by omega) (Tf139 (by omega) i4 i5 Ir16_3 _ hxr23_4) ?_
  show aGo kad d 128 (26, ([(0, .ref a0), (1, .int i1), (2, .int i2), (3, .int i3), (4, .int i4), (5, .int i5)], [])) (aMem Z Ir23_4, t) _
  refine go_ops aMi128 1 _ (f1 := (27, ([(0, .ref a0), (1, .int i1), (2, .int i2), (3, .int i3), (4, .int i4), (5, .int i5)], [.ref a0]))) rfl ?_
  refine gg_gs aMi128 rfl rfl ?_
  refine go_ops aMi128 11 _ (f1 := (44, ([(0, .ref a0), (1, .int i1), (2, .int i2), (3, .int i3), (4, .int i4), (5, .int i5)], [.int i5, .int i4, .int ((((16 : Int32) * i1) + ((4 : Int32) * i2)) + i3), .ref (kad 2), .ref a0]))) rfl ?_
  obtain ⟨r44_5, hxr44_5, h⟩ := Option.bind_eq_some_iff.mp h
  rcases xB_eq h with ⟨vr44_5, Ir44_5, her44_5, h2⟩ | ⟨Er44_5, Ir44_5, her44_5, h2⟩
  rotate_left
  · clear h
    subst her44_5
    subst h2
    exact gg_cvt (as := [.ref (kad 2), .int ((((16 : Int32) * i1) + ((4 : Int32) * i2)) + i3), .int i4, .int i5]) (r := []) aMi128 rfl rfl rfl aMi142 (Nat.le_of_ble_eq_true rfl) rfl (Nat.le_of_ble_eq_true rfl) (Nat.le_of_ble_eq_true rfl) (by omega) (isK_of (sh10_z ha0)) (Tf142 (by omega) a0 ha0 (kad 2) ((((16 : Int32) * i1) + ((4 : Int32) * i2)) + i3) i4 i5 Ir23_4 _ hxr44_5) qX_thr
  clear h
  subst her44_5
  have h := h2
  clear h2
  refine gg_cv (as := [.ref (kad 2), .int ((((16 : Int32) * i1) + ((4 : Int32) * i2)) + i3), .int i4, .int i5]) (r := []) aMi128 rfl rfl rfl aMi142 (Nat.le_of_ble_eq_true rfl) rfl (Nat.le_of_ble_eq_true rfl) (Nat.le_of_ble_eq_true rfl) (by omega) (isK_of (sh10_z ha0)) (Tf142 (by omega) a0 ha0 (kad 2) ((((16 : Int32) * i1) + ((4 : Int32) * i2)) + i3) i4 i5 Ir23_4 _ hxr44_5) ?_
  show aGo kad d 128 (47, ([(0, .ref a0), (1, .int i1), (2, .int i2), (3, .int i3), (4, .int i4), (5, .int i5)], [.int vr44_5])) (aMem Z Ir44_5, t) _
  cases h
  exact go_ret aMi128 rfl aRetI qX_ret
-- KernelGym.word (II)I
def f129 (kad : Nat → Nat) (N : Nat) (Z : AZ) (a0 : Nat) (i1 : Int32) (i2 : Int32) (I : AI) : Option ((Int32 ⊕ String) × AI) :=
  (f139 kad N Z i1 i2 I).bind fun r2_1 =>
  xB r2_1 fun vr2_1 Ir2_1 =>
  (f142 kad N Z a0 (kad 3) (0 : Int32) i1 i2 Ir2_1).bind fun r12_2 =>
  xB r12_2 fun vr12_2 Ir12_2 =>
  some (.inl vr12_2, Ir12_2)
set_option maxRecDepth 20000 in
theorem Tf129 {kad : Nat → Nat} {N : Nat} {Z : AZ} {d : Nat} {t : Option Nat × (Nat × Nat)} (hd : 2 ≤ d) : ∀ (a0 : Nat) (ha0 : sh10 kad Z a0) (i1 : Int32) (i2 : Int32) (I : AI) (r : (Int32 ⊕ String) × AI), f129 kad N Z a0 i1 i2 I = some r → aGo kad d 129 (0, ([(0, .ref a0), (1, .int i1), (2, .int i2)], [])) (aMem Z I, t) (qX tvI Z t r) := by
  intro a0 ha0 i1 i2 I r h
  unfold f129 at h
  refine go_ops aMi129 2 _ (f1 := (2, ([(0, .ref a0), (1, .int i1), (2, .int i2)], [.int i2, .int i1]))) rfl ?_
  obtain ⟨r2_1, hxr2_1, h⟩ := Option.bind_eq_some_iff.mp h
  rcases xB_eq h with ⟨vr2_1, Ir2_1, her2_1, h2⟩ | ⟨Er2_1, Ir2_1, her2_1, h2⟩
  rotate_left
  · clear h
    subst her2_1
    subst h2
    exact gg_cst (as := [.int i1, .int i2]) (r := []) aMi129 rfl rfl rfl aMi139 rfl (Nat.le_of_ble_eq_true rfl) (Nat.le_of_ble_eq_true rfl) (by omega) (Tf139 (by omega) i1 i2 I _ hxr2_1) qX_thr
  clear h
  subst her2_1
  have h := h2
  clear h2
  refine gg_cs (as := [.int i1, .int i2]) (r := []) aMi129 rfl rfl rfl aMi139 rfl (Nat.le_of_ble_eq_true rfl) (Nat.le_of_ble_eq_true rfl) (by omega) (Tf139 (by omega) i1 i2 I _ hxr2_1) ?_
  show aGo kad d 129 (5, ([(0, .ref a0), (1, .int i1), (2, .int i2)], [])) (aMem Z Ir2_1, t) _
  refine go_ops aMi129 1 _ (f1 := (6, ([(0, .ref a0), (1, .int i1), (2, .int i2)], [.ref a0]))) rfl ?_
  refine gg_gs aMi129 rfl rfl ?_
  refine go_ops aMi129 3 _ (f1 := (12, ([(0, .ref a0), (1, .int i1), (2, .int i2)], [.int i2, .int i1, .int (0 : Int32), .ref (kad 3), .ref a0]))) rfl ?_
  obtain ⟨r12_2, hxr12_2, h⟩ := Option.bind_eq_some_iff.mp h
  rcases xB_eq h with ⟨vr12_2, Ir12_2, her12_2, h2⟩ | ⟨Er12_2, Ir12_2, her12_2, h2⟩
  rotate_left
  · clear h
    subst her12_2
    subst h2
    exact gg_cvt (as := [.ref (kad 3), .int (0 : Int32), .int i1, .int i2]) (r := []) aMi129 rfl rfl rfl aMi142 (Nat.le_of_ble_eq_true rfl) rfl (Nat.le_of_ble_eq_true rfl) (Nat.le_of_ble_eq_true rfl) (by omega) (isK_of (sh10_z ha0)) (Tf142 (by omega) a0 ha0 (kad 3) (0 : Int32) i1 i2 Ir2_1 _ hxr12_2) qX_thr
  clear h
  subst her12_2
  have h := h2
  clear h2
  refine gg_cv (as := [.ref (kad 3), .int (0 : Int32), .int i1, .int i2]) (r := []) aMi129 rfl rfl rfl aMi142 (Nat.le_of_ble_eq_true rfl) rfl (Nat.le_of_ble_eq_true rfl) (Nat.le_of_ble_eq_true rfl) (by omega) (isK_of (sh10_z ha0)) (Tf142 (by omega) a0 ha0 (kad 3) (0 : Int32) i1 i2 Ir2_1 _ hxr12_2) ?_
  show aGo kad d 129 (15, ([(0, .ref a0), (1, .int i1), (2, .int i2)], [.int vr12_2])) (aMem Z Ir12_2, t) _
  cases h
  exact go_ret aMi129 rfl aRetI qX_ret
-- KernelGym.space (I)I
def f130 (kad : Nat → Nat) (N : Nat) (Z : AZ) (a0 : Nat) (i1 : Int32) (I : AI) : Option ((Int32 ⊕ String) × AI) :=
  (f138 kad N Z i1 (1 : Int32) (32 : Int32) I).bind fun r4_1 =>
  xB r4_1 fun vr4_1 Ir4_1 =>
  (f141 kad N Z a0 (kad 4) i1 Ir4_1).bind fun r12_2 =>
  xB r12_2 fun vr12_2 Ir12_2 =>
  some (.inl vr12_2, Ir12_2)
set_option maxRecDepth 20000 in
theorem Tf130 {kad : Nat → Nat} {N : Nat} {Z : AZ} {d : Nat} {t : Option Nat × (Nat × Nat)} (hd : 3 ≤ d) : ∀ (a0 : Nat) (ha0 : sh10 kad Z a0) (i1 : Int32) (I : AI) (r : (Int32 ⊕ String) × AI), f130 kad N Z a0 i1 I = some r → aGo kad d 130 (0, ([(0, .ref a0), (1, .int i1)], [])) (aMem Z I, t) (qX tvI Z t r) := by
  intro a0 ha0 i1 I r h
  unfold f130 at h
  refine go_ops aMi130 3 _ (f1 := (4, ([(0, .ref a0), (1, .int i1)], [.int (32 : Int32), .int (1 : Int32), .int i1]))) rfl ?_
  obtain ⟨r4_1, hxr4_1, h⟩ := Option.bind_eq_some_iff.mp h
  rcases xB_eq h with ⟨vr4_1, Ir4_1, her4_1, h2⟩ | ⟨Er4_1, Ir4_1, her4_1, h2⟩
  rotate_left
  · clear h
    subst her4_1
    subst h2
    exact gg_cst (as := [.int i1, .int (1 : Int32), .int (32 : Int32)]) (r := []) aMi130 rfl rfl rfl aMi138 rfl (Nat.le_of_ble_eq_true rfl) (Nat.le_of_ble_eq_true rfl) (by omega) (Tf138 (by omega) i1 (1 : Int32) (32 : Int32) I _ hxr4_1) qX_thr
  clear h
  subst her4_1
  have h := h2
  clear h2
  refine gg_cs (as := [.int i1, .int (1 : Int32), .int (32 : Int32)]) (r := []) aMi130 rfl rfl rfl aMi138 rfl (Nat.le_of_ble_eq_true rfl) (Nat.le_of_ble_eq_true rfl) (by omega) (Tf138 (by omega) i1 (1 : Int32) (32 : Int32) I _ hxr4_1) ?_
  show aGo kad d 130 (7, ([(0, .ref a0), (1, .int i1)], [])) (aMem Z Ir4_1, t) _
  refine go_ops aMi130 1 _ (f1 := (8, ([(0, .ref a0), (1, .int i1)], [.ref a0]))) rfl ?_
  refine gg_gs aMi130 rfl rfl ?_
  refine go_ops aMi130 1 _ (f1 := (12, ([(0, .ref a0), (1, .int i1)], [.int i1, .ref (kad 4), .ref a0]))) rfl ?_
  obtain ⟨r12_2, hxr12_2, h⟩ := Option.bind_eq_some_iff.mp h
  rcases xB_eq h with ⟨vr12_2, Ir12_2, her12_2, h2⟩ | ⟨Er12_2, Ir12_2, her12_2, h2⟩
  rotate_left
  · clear h
    subst her12_2
    subst h2
    exact gg_cvt (as := [.ref (kad 4), .int i1]) (r := []) aMi130 rfl rfl rfl aMi141 (Nat.le_of_ble_eq_true rfl) rfl (Nat.le_of_ble_eq_true rfl) (Nat.le_of_ble_eq_true rfl) (by omega) (isK_of (sh10_z ha0)) (Tf141 (by omega) a0 ha0 (kad 4) i1 Ir4_1 _ hxr12_2) qX_thr
  clear h
  subst her12_2
  have h := h2
  clear h2
  refine gg_cv (as := [.ref (kad 4), .int i1]) (r := []) aMi130 rfl rfl rfl aMi141 (Nat.le_of_ble_eq_true rfl) rfl (Nat.le_of_ble_eq_true rfl) (Nat.le_of_ble_eq_true rfl) (by omega) (isK_of (sh10_z ha0)) (Tf141 (by omega) a0 ha0 (kad 4) i1 Ir4_1 _ hxr12_2) ?_
  show aGo kad d 130 (15, ([(0, .ref a0), (1, .int i1)], [.int vr12_2])) (aMem Z Ir12_2, t) _
  cases h
  exact go_ret aMi130 rfl aRetI qX_ret
-- KernelGym.vector (III)I
def f131 (kad : Nat → Nat) (N : Nat) (Z : AZ) (a0 : Nat) (i1 : Int32) (i2 : Int32) (i3 : Int32) (I : AI) : Option ((Int32 ⊕ String) × AI) :=
  (f138 kad N Z i1 (0 : Int32) (1 : Int32) I).bind fun r3_1 =>
  xB r3_1 fun vr3_1 Ir3_1 =>
  (f139 kad N Z i2 i3 Ir3_1).bind fun r8_2 =>
  xB r8_2 fun vr8_2 Ir8_2 =>
  (f142 kad N Z a0 (kad 5) i1 i2 i3 Ir8_2).bind fun r18_3 =>
  xB r18_3 fun vr18_3 Ir18_3 =>
  some (.inl vr18_3, Ir18_3)
set_option maxRecDepth 20000 in
theorem Tf131 {kad : Nat → Nat} {N : Nat} {Z : AZ} {d : Nat} {t : Option Nat × (Nat × Nat)} (hd : 2 ≤ d) : ∀ (a0 : Nat) (ha0 : sh10 kad Z a0) (i1 : Int32) (i2 : Int32) (i3 : Int32) (I : AI) (r : (Int32 ⊕ String) × AI), f131 kad N Z a0 i1 i2 i3 I = some r → aGo kad d 131 (0, ([(0, .ref a0), (1, .int i1), (2, .int i2), (3, .int i3)], [])) (aMem Z I, t) (qX tvI Z t r) := by
  intro a0 ha0 i1 i2 i3 I r h
  unfold f131 at h
  refine go_ops aMi131 3 _ (f1 := (3, ([(0, .ref a0), (1, .int i1), (2, .int i2), (3, .int i3)], [.int (1 : Int32), .int (0 : Int32), .int i1]))) rfl ?_
  obtain ⟨r3_1, hxr3_1, h⟩ := Option.bind_eq_some_iff.mp h
  rcases xB_eq h with ⟨vr3_1, Ir3_1, her3_1, h2⟩ | ⟨Er3_1, Ir3_1, her3_1, h2⟩
  rotate_left
  · clear h
    subst her3_1
    subst h2
    exact gg_cst (as := [.int i1, .int (0 : Int32), .int (1 : Int32)]) (r := []) aMi131 rfl rfl rfl aMi138 rfl (Nat.le_of_ble_eq_true rfl) (Nat.le_of_ble_eq_true rfl) (by omega) (Tf138 (by omega) i1 (0 : Int32) (1 : Int32) I _ hxr3_1) qX_thr
  clear h
  subst her3_1
  have h := h2
  clear h2
  refine gg_cs (as := [.int i1, .int (0 : Int32), .int (1 : Int32)]) (r := []) aMi131 rfl rfl rfl aMi138 rfl (Nat.le_of_ble_eq_true rfl) (Nat.le_of_ble_eq_true rfl) (by omega) (Tf138 (by omega) i1 (0 : Int32) (1 : Int32) I _ hxr3_1) ?_
  show aGo kad d 131 (6, ([(0, .ref a0), (1, .int i1), (2, .int i2), (3, .int i3)], [])) (aMem Z Ir3_1, t) _
  refine go_ops aMi131 2 _ (f1 := (8, ([(0, .ref a0), (1, .int i1), (2, .int i2), (3, .int i3)], [.int i3, .int i2]))) rfl ?_
  obtain ⟨r8_2, hxr8_2, h⟩ := Option.bind_eq_some_iff.mp h
  rcases xB_eq h with ⟨vr8_2, Ir8_2, her8_2, h2⟩ | ⟨Er8_2, Ir8_2, her8_2, h2⟩
  rotate_left
  · clear h
    subst her8_2
    subst h2
    exact gg_cst (as := [.int i2, .int i3]) (r := []) aMi131 rfl rfl rfl aMi139 rfl (Nat.le_of_ble_eq_true rfl) (Nat.le_of_ble_eq_true rfl) (by omega) (Tf139 (by omega) i2 i3 Ir3_1 _ hxr8_2) qX_thr
  clear h
  subst her8_2
  have h := h2
  clear h2
  refine gg_cs (as := [.int i2, .int i3]) (r := []) aMi131 rfl rfl rfl aMi139 rfl (Nat.le_of_ble_eq_true rfl) (Nat.le_of_ble_eq_true rfl) (by omega) (Tf139 (by omega) i2 i3 Ir3_1 _ hxr8_2) ?_
  show aGo kad d 131 (11, ([(0, .ref a0), (1, .int i1), (2, .int i2), (3, .int i3)], [])) (aMem Z Ir8_2, t) _
  refine go_ops aMi131 1 _ (f1 := (12, ([(0, .ref a0), (1, .int i1), (2, .int i2), (3, .int i3)], [.ref a0]))) rfl ?_
  refine gg_gs aMi131 rfl rfl ?_
  refine go_ops aMi131 3 _ (f1 := (18, ([(0, .ref a0), (1, .int i1), (2, .int i2), (3, .int i3)], [.int i3, .int i2, .int i1, .ref (kad 5), .ref a0]))) rfl ?_
  obtain ⟨r18_3, hxr18_3, h⟩ := Option.bind_eq_some_iff.mp h
  rcases xB_eq h with ⟨vr18_3, Ir18_3, her18_3, h2⟩ | ⟨Er18_3, Ir18_3, her18_3, h2⟩
  rotate_left
  · clear h
    subst her18_3
    subst h2
    exact gg_cvt (as := [.ref (kad 5), .int i1, .int i2, .int i3]) (r := []) aMi131 rfl rfl rfl aMi142 (Nat.le_of_ble_eq_true rfl) rfl (Nat.le_of_ble_eq_true rfl) (Nat.le_of_ble_eq_true rfl) (by omega) (isK_of (sh10_z ha0)) (Tf142 (by omega) a0 ha0 (kad 5) i1 i2 i3 Ir8_2 _ hxr18_3) qX_thr
  clear h
  subst her18_3
  have h := h2
  clear h2
  refine gg_cv (as := [.ref (kad 5), .int i1, .int i2, .int i3]) (r := []) aMi131 rfl rfl rfl aMi142 (Nat.le_of_ble_eq_true rfl) rfl (Nat.le_of_ble_eq_true rfl) (Nat.le_of_ble_eq_true rfl) (by omega) (isK_of (sh10_z ha0)) (Tf142 (by omega) a0 ha0 (kad 5) i1 i2 i3 Ir8_2 _ hxr18_3) ?_
  show aGo kad d 131 (21, ([(0, .ref a0), (1, .int i1), (2, .int i2), (3, .int i3)], [.int vr18_3])) (aMem Z Ir18_3, t) _
  cases h
  exact go_ret aMi131 rfl aRetI qX_ret
-- KernelGym.macro (I)I
def f132 (kad : Nat → Nat) (N : Nat) (Z : AZ) (a0 : Nat) (i1 : Int32) (I : AI) : Option ((Int32 ⊕ String) × AI) :=
  (f138 kad N Z i1 (0 : Int32) (4 : Int32) I).bind fun r3_1 =>
  xB r3_1 fun vr3_1 Ir3_1 =>
  (f141 kad N Z a0 (kad 6) i1 Ir3_1).bind fun r11_2 =>
  xB r11_2 fun vr11_2 Ir11_2 =>
  some (.inl vr11_2, Ir11_2)
set_option maxRecDepth 20000 in
theorem Tf132 {kad : Nat → Nat} {N : Nat} {Z : AZ} {d : Nat} {t : Option Nat × (Nat × Nat)} (hd : 3 ≤ d) : ∀ (a0 : Nat) (ha0 : sh10 kad Z a0) (i1 : Int32) (I : AI) (r : (Int32 ⊕ String) × AI), f132 kad N Z a0 i1 I = some r → aGo kad d 132 (0, ([(0, .ref a0), (1, .int i1)], [])) (aMem Z I, t) (qX tvI Z t r) := by
  intro a0 ha0 i1 I r h
  unfold f132 at h
  refine go_ops aMi132 3 _ (f1 := (3, ([(0, .ref a0), (1, .int i1)], [.int (4 : Int32), .int (0 : Int32), .int i1]))) rfl ?_
  obtain ⟨r3_1, hxr3_1, h⟩ := Option.bind_eq_some_iff.mp h
  rcases xB_eq h with ⟨vr3_1, Ir3_1, her3_1, h2⟩ | ⟨Er3_1, Ir3_1, her3_1, h2⟩
  rotate_left
  · clear h
    subst her3_1
    subst h2
    exact gg_cst (as := [.int i1, .int (0 : Int32), .int (4 : Int32)]) (r := []) aMi132 rfl rfl rfl aMi138 rfl (Nat.le_of_ble_eq_true rfl) (Nat.le_of_ble_eq_true rfl) (by omega) (Tf138 (by omega) i1 (0 : Int32) (4 : Int32) I _ hxr3_1) qX_thr
  clear h
  subst her3_1
  have h := h2
  clear h2
  refine gg_cs (as := [.int i1, .int (0 : Int32), .int (4 : Int32)]) (r := []) aMi132 rfl rfl rfl aMi138 rfl (Nat.le_of_ble_eq_true rfl) (Nat.le_of_ble_eq_true rfl) (by omega) (Tf138 (by omega) i1 (0 : Int32) (4 : Int32) I _ hxr3_1) ?_
  show aGo kad d 132 (6, ([(0, .ref a0), (1, .int i1)], [])) (aMem Z Ir3_1, t) _
  refine go_ops aMi132 1 _ (f1 := (7, ([(0, .ref a0), (1, .int i1)], [.ref a0]))) rfl ?_
  refine gg_gs aMi132 rfl rfl ?_
  refine go_ops aMi132 1 _ (f1 := (11, ([(0, .ref a0), (1, .int i1)], [.int i1, .ref (kad 6), .ref a0]))) rfl ?_
  obtain ⟨r11_2, hxr11_2, h⟩ := Option.bind_eq_some_iff.mp h
  rcases xB_eq h with ⟨vr11_2, Ir11_2, her11_2, h2⟩ | ⟨Er11_2, Ir11_2, her11_2, h2⟩
  rotate_left
  · clear h
    subst her11_2
    subst h2
    exact gg_cvt (as := [.ref (kad 6), .int i1]) (r := []) aMi132 rfl rfl rfl aMi141 (Nat.le_of_ble_eq_true rfl) rfl (Nat.le_of_ble_eq_true rfl) (Nat.le_of_ble_eq_true rfl) (by omega) (isK_of (sh10_z ha0)) (Tf141 (by omega) a0 ha0 (kad 6) i1 Ir3_1 _ hxr11_2) qX_thr
  clear h
  subst her11_2
  have h := h2
  clear h2
  refine gg_cv (as := [.ref (kad 6), .int i1]) (r := []) aMi132 rfl rfl rfl aMi141 (Nat.le_of_ble_eq_true rfl) rfl (Nat.le_of_ble_eq_true rfl) (Nat.le_of_ble_eq_true rfl) (by omega) (isK_of (sh10_z ha0)) (Tf141 (by omega) a0 ha0 (kad 6) i1 Ir3_1 _ hxr11_2) ?_
  show aGo kad d 132 (14, ([(0, .ref a0), (1, .int i1)], [.int vr11_2])) (aMem Z Ir11_2, t) _
  cases h
  exact go_ret aMi132 rfl aRetI qX_ret
-- KernelGym.endMacro ()I
def f133 (kad : Nat → Nat) (N : Nat) (Z : AZ) (a0 : Nat) (I : AI) : Option ((Int32 ⊕ String) × AI) :=
  (f141 kad N Z a0 (kad 7) (0 : Int32) I).bind fun r5_1 =>
  xB r5_1 fun vr5_1 Ir5_1 =>
  some (.inl vr5_1, Ir5_1)
set_option maxRecDepth 20000 in
theorem Tf133 {kad : Nat → Nat} {N : Nat} {Z : AZ} {d : Nat} {t : Option Nat × (Nat × Nat)} (hd : 3 ≤ d) : ∀ (a0 : Nat) (ha0 : sh10 kad Z a0) (I : AI) (r : (Int32 ⊕ String) × AI), f133 kad N Z a0 I = some r → aGo kad d 133 (0, ([(0, .ref a0)], [])) (aMem Z I, t) (qX tvI Z t r) := by
  intro a0 ha0 I r h
  unfold f133 at h
  refine go_ops aMi133 1 _ (f1 := (1, ([(0, .ref a0)], [.ref a0]))) rfl ?_
  refine gg_gs aMi133 rfl rfl ?_
  refine go_ops aMi133 1 _ (f1 := (5, ([(0, .ref a0)], [.int (0 : Int32), .ref (kad 7), .ref a0]))) rfl ?_
  obtain ⟨r5_1, hxr5_1, h⟩ := Option.bind_eq_some_iff.mp h
  rcases xB_eq h with ⟨vr5_1, Ir5_1, her5_1, h2⟩ | ⟨Er5_1, Ir5_1, her5_1, h2⟩
  rotate_left
  · clear h
    subst her5_1
    subst h2
    exact gg_cvt (as := [.ref (kad 7), .int (0 : Int32)]) (r := []) aMi133 rfl rfl rfl aMi141 (Nat.le_of_ble_eq_true rfl) rfl (Nat.le_of_ble_eq_true rfl) (Nat.le_of_ble_eq_true rfl) (by omega) (isK_of (sh10_z ha0)) (Tf141 (by omega) a0 ha0 (kad 7) (0 : Int32) I _ hxr5_1) qX_thr
  clear h
  subst her5_1
  have h := h2
  clear h2
  refine gg_cv (as := [.ref (kad 7), .int (0 : Int32)]) (r := []) aMi133 rfl rfl rfl aMi141 (Nat.le_of_ble_eq_true rfl) rfl (Nat.le_of_ble_eq_true rfl) (Nat.le_of_ble_eq_true rfl) (by omega) (isK_of (sh10_z ha0)) (Tf141 (by omega) a0 ha0 (kad 7) (0 : Int32) I _ hxr5_1) ?_
  show aGo kad d 133 (8, ([(0, .ref a0)], [.int vr5_1])) (aMem Z Ir5_1, t) _
  cases h
  exact go_ret aMi133 rfl aRetI qX_ret
-- KernelGym.use (IIIII)I
def f134 (kad : Nat → Nat) (N : Nat) (Z : AZ) (a0 : Nat) (i1 : Int32) (i2 : Int32) (i3 : Int32) (i4 : Int32) (i5 : Int32) (I : AI) : Option ((Int32 ⊕ String) × AI) :=
  (f138 kad N Z i1 (0 : Int32) (4 : Int32) I).bind fun r3_1 =>
  xB r3_1 fun vr3_1 Ir3_1 =>
  (f139 kad N Z i2 i3 Ir3_1).bind fun r8_2 =>
  xB r8_2 fun vr8_2 Ir8_2 =>
  (f139 kad N Z i4 i5 Ir8_2).bind fun r15_3 =>
  xB r15_3 fun vr15_3 Ir15_3 =>
  (f142 kad N Z a0 (kad 8) i1 i2 i3 Ir15_3).bind fun r25_4 =>
  xB r25_4 fun vr25_4 Ir25_4 =>
  (f3 kad N Z (a0 + 1) i4 i5 Ir25_4).bind fun r38_5 =>
  some (.inl vr25_4, r38_5.2)
set_option maxRecDepth 20000 in
theorem Tf134 {kad : Nat → Nat} {N : Nat} {Z : AZ} {d : Nat} {t : Option Nat × (Nat × Nat)} (hd : 2 ≤ d) : ∀ (a0 : Nat) (ha0 : sh10 kad Z a0) (i1 : Int32) (i2 : Int32) (i3 : Int32) (i4 : Int32) (i5 : Int32) (I : AI) (r : (Int32 ⊕ String) × AI), f134 kad N Z a0 i1 i2 i3 i4 i5 I = some r → aGo kad d 134 (0, ([(0, .ref a0), (1, .int i1), (2, .int i2), (3, .int i3), (4, .int i4), (5, .int i5)], [])) (aMem Z I, t) (qX tvI Z t r) := by
  intro a0 ha0 i1 i2 i3 i4 i5 I r h
  unfold f134 at h
  refine go_ops aMi134 3 _ (f1 := (3, ([(0, .ref a0), (1, .int i1), (2, .int i2), (3, .int i3), (4, .int i4), (5, .int i5)], [.int (4 : Int32), .int (0 : Int32), .int i1]))) rfl ?_
  obtain ⟨r3_1, hxr3_1, h⟩ := Option.bind_eq_some_iff.mp h
  rcases xB_eq h with ⟨vr3_1, Ir3_1, her3_1, h2⟩ | ⟨Er3_1, Ir3_1, her3_1, h2⟩
  rotate_left
  · clear h
    subst her3_1
    subst h2
    exact gg_cst (as := [.int i1, .int (0 : Int32), .int (4 : Int32)]) (r := []) aMi134 rfl rfl rfl aMi138 rfl (Nat.le_of_ble_eq_true rfl) (Nat.le_of_ble_eq_true rfl) (by omega) (Tf138 (by omega) i1 (0 : Int32) (4 : Int32) I _ hxr3_1) qX_thr
  clear h
  subst her3_1
  have h := h2
  clear h2
  refine gg_cs (as := [.int i1, .int (0 : Int32), .int (4 : Int32)]) (r := []) aMi134 rfl rfl rfl aMi138 rfl (Nat.le_of_ble_eq_true rfl) (Nat.le_of_ble_eq_true rfl) (by omega) (Tf138 (by omega) i1 (0 : Int32) (4 : Int32) I _ hxr3_1) ?_
  show aGo kad d 134 (6, ([(0, .ref a0), (1, .int i1), (2, .int i2), (3, .int i3), (4, .int i4), (5, .int i5)], [])) (aMem Z Ir3_1, t) _
  refine go_ops aMi134 2 _ (f1 := (8, ([(0, .ref a0), (1, .int i1), (2, .int i2), (3, .int i3), (4, .int i4), (5, .int i5)], [.int i3, .int i2]))) rfl ?_
  obtain ⟨r8_2, hxr8_2, h⟩ := Option.bind_eq_some_iff.mp h
  rcases xB_eq h with ⟨vr8_2, Ir8_2, her8_2, h2⟩ | ⟨Er8_2, Ir8_2, her8_2, h2⟩
  rotate_left
  · clear h
    subst her8_2
    subst h2
    exact gg_cst (as := [.int i2, .int i3]) (r := []) aMi134 rfl rfl rfl aMi139 rfl (Nat.le_of_ble_eq_true rfl) (Nat.le_of_ble_eq_true rfl) (by omega) (Tf139 (by omega) i2 i3 Ir3_1 _ hxr8_2) qX_thr
  clear h
  subst her8_2
  have h := h2
  clear h2
  refine gg_cs (as := [.int i2, .int i3]) (r := []) aMi134 rfl rfl rfl aMi139 rfl (Nat.le_of_ble_eq_true rfl) (Nat.le_of_ble_eq_true rfl) (by omega) (Tf139 (by omega) i2 i3 Ir3_1 _ hxr8_2) ?_
  show aGo kad d 134 (11, ([(0, .ref a0), (1, .int i1), (2, .int i2), (3, .int i3), (4, .int i4), (5, .int i5)], [])) (aMem Z Ir8_2, t) _
  refine go_ops aMi134 2 _ (f1 := (15, ([(0, .ref a0), (1, .int i1), (2, .int i2), (3, .int i3), (4, .int i4), (5, .int i5)], [.int i5, .int i4]))) rfl ?_
  obtain ⟨r15_3, hxr15_3, h⟩ := Option.bind_eq_some_iff.mp h
  rcases xB_eq h with ⟨vr15_3, Ir15_3, her15_3, h2⟩ | ⟨Er15_3, Ir15_3, her15_3, h2⟩
  rotate_left
  · clear h
    subst her15_3
    subst h2
    exact gg_cst (as := [.int i4, .int i5]) (r := []) aMi134 rfl rfl rfl aMi139 rfl (Nat.le_of_ble_eq_true rfl) (Nat.le_of_ble_eq_true rfl) (by omega) (Tf139 (by omega) i4 i5 Ir8_2 _ hxr15_3) qX_thr
  clear h
  subst her15_3
  have h := h2
  clear h2
  refine gg_cs (as := [.int i4, .int i5]) (r := []) aMi134 rfl rfl rfl aMi139 rfl (Nat.le_of_ble_eq_true rfl) (Nat.le_of_ble_eq_true rfl) (by omega) (Tf139 (by omega) i4 i5 Ir8_2 _ hxr15_3) ?_
  show aGo kad d 134 (18, ([(0, .ref a0), (1, .int i1), (2, .int i2), (3, .int i3), (4, .int i4), (5, .int i5)], [])) (aMem Z Ir15_3, t) _
  refine go_ops aMi134 1 _ (f1 := (19, ([(0, .ref a0), (1, .int i1), (2, .int i2), (3, .int i3), (4, .int i4), (5, .int i5)], [.ref a0]))) rfl ?_
  refine gg_gs aMi134 rfl rfl ?_
  refine go_ops aMi134 3 _ (f1 := (25, ([(0, .ref a0), (1, .int i1), (2, .int i2), (3, .int i3), (4, .int i4), (5, .int i5)], [.int i3, .int i2, .int i1, .ref (kad 8), .ref a0]))) rfl ?_
  obtain ⟨r25_4, hxr25_4, h⟩ := Option.bind_eq_some_iff.mp h
  rcases xB_eq h with ⟨vr25_4, Ir25_4, her25_4, h2⟩ | ⟨Er25_4, Ir25_4, her25_4, h2⟩
  rotate_left
  · clear h
    subst her25_4
    subst h2
    exact gg_cvt (as := [.ref (kad 8), .int i1, .int i2, .int i3]) (r := []) aMi134 rfl rfl rfl aMi142 (Nat.le_of_ble_eq_true rfl) rfl (Nat.le_of_ble_eq_true rfl) (Nat.le_of_ble_eq_true rfl) (by omega) (isK_of (sh10_z ha0)) (Tf142 (by omega) a0 ha0 (kad 8) i1 i2 i3 Ir15_3 _ hxr25_4) qX_thr
  clear h
  subst her25_4
  have h := h2
  clear h2
  refine gg_cv (as := [.ref (kad 8), .int i1, .int i2, .int i3]) (r := []) aMi134 rfl rfl rfl aMi142 (Nat.le_of_ble_eq_true rfl) rfl (Nat.le_of_ble_eq_true rfl) (Nat.le_of_ble_eq_true rfl) (by omega) (isK_of (sh10_z ha0)) (Tf142 (by omega) a0 ha0 (kad 8) i1 i2 i3 Ir15_3 _ hxr25_4) ?_
  show aGo kad d 134 (28, ([(0, .ref a0), (1, .int i1), (2, .int i2), (3, .int i3), (4, .int i4), (5, .int i5)], [.int vr25_4])) (aMem Z Ir25_4, t) _
  refine go_ops aMi134 2 _ (f1 := (31, ([(6, .int vr25_4), (0, .ref a0), (1, .int i1), (2, .int i2), (3, .int i3), (4, .int i4), (5, .int i5)], [.ref a0]))) rfl ?_
  refine gg_gR (b := (a0 + 1)) aMi134 rfl rfl rfl (gR_of (sh10_z ha0) (sh10_r0 ha0)) ?_
  refine go_ops aMi134 2 _ (f1 := (38, ([(6, .int vr25_4), (0, .ref a0), (1, .int i1), (2, .int i2), (3, .int i3), (4, .int i4), (5, .int i5)], [.int i5, .int i4, .ref (a0 + 1)]))) rfl ?_
  obtain ⟨r38_5, hxr38_5, h⟩ := Option.bind_eq_some_iff.mp h
  refine gg_cv (as := [.int i4, .int i5]) (r := []) aMi134 rfl rfl rfl aMi3 (Nat.le_of_ble_eq_true rfl) rfl (Nat.le_of_ble_eq_true rfl) (Nat.le_of_ble_eq_true rfl) (by omega) (isK_of (sh0_z (sh10_s0 ha0))) (Tf3 (by omega) (a0 + 1) (sh10_s0 ha0) i4 i5 Ir25_4 _ hxr38_5) ?_
  show aGo kad d 134 (41, ([(6, .int vr25_4), (0, .ref a0), (1, .int i1), (2, .int i2), (3, .int i3), (4, .int i4), (5, .int i5)], [])) (aMem Z r38_5.2, t) _
  refine go_ops aMi134 1 _ (f1 := (43, ([(6, .int vr25_4), (0, .ref a0), (1, .int i1), (2, .int i2), (3, .int i3), (4, .int i4), (5, .int i5)], [.int vr25_4]))) rfl ?_
  cases h
  exact go_ret aMi134 rfl aRetI qX_ret
-- KernelGym.error ()I
def f135 (kad : Nat → Nat) (N : Nat) (Z : AZ) (a0 : Nat) (I : AI) : Option (Int32 × AI) :=
  (f5 kad N Z (a0 + 1) I).bind fun r4_1 =>
  some (r4_1.1, r4_1.2)
set_option maxRecDepth 20000 in
theorem Tf135 {kad : Nat → Nat} {N : Nat} {Z : AZ} {d : Nat} {t : Option Nat × (Nat × Nat)} (hd : 20 ≤ d) : ∀ (a0 : Nat) (ha0 : sh10 kad Z a0) (I : AI) (r : Int32 × AI), f135 kad N Z a0 I = some r → aGo kad d 135 (0, ([(0, .ref a0)], [])) (aMem Z I, t) (qI Z t r) := by
  intro a0 ha0 I r h
  unfold f135 at h
  refine go_ops aMi135 1 _ (f1 := (1, ([(0, .ref a0)], [.ref a0]))) rfl ?_
  refine gg_gR (b := (a0 + 1)) aMi135 rfl rfl rfl (gR_of (sh10_z ha0) (sh10_r0 ha0)) ?_
  obtain ⟨r4_1, hxr4_1, h⟩ := Option.bind_eq_some_iff.mp h
  refine gg_cv (as := []) (r := []) aMi135 rfl rfl rfl aMi5 (Nat.le_of_ble_eq_true rfl) rfl (Nat.le_of_ble_eq_true rfl) (Nat.le_of_ble_eq_true rfl) (by omega) (isK_of (sh0_z (sh10_s0 ha0))) (Tf5 (by omega) (a0 + 1) (sh10_s0 ha0) I _ hxr4_1) ?_
  show aGo kad d 135 (7, ([(0, .ref a0)], [.int r4_1.1])) (aMem Z r4_1.2, t) _
  cases h
  exact go_ret aMi135 rfl aRetI ⟨rfl, rfl⟩
-- KernelGym.assemble ()I
def f136 (kad : Nat → Nat) (N : Nat) (Z : AZ) (a0 : Nat) (I : AI) : Option ((Int32 ⊕ String) × AI) :=
  (f5 kad N Z (a0 + 1) I).bind fun r4_1 =>
  if r4_1.1 = 0 then
    (cA r4_1.2 (a0 + 2) 256 (0 : Int32) (a0 + 113) 256 (0 : Int32) (256 : Int32)).bind fun I36_2 =>
    (wI I36_2 a0 2 (1 : Int32)).bind fun I41_3 =>
    (f4 kad N Z (a0 + 1) I41_3).bind fun r48_4 =>
    some (.inl r48_4.1, r48_4.2)
  else
    some (.inr (aEC 1), r4_1.2)
set_option maxRecDepth 20000 in
theorem Tf136 {kad : Nat → Nat} {N : Nat} {Z : AZ} {d : Nat} {t : Option Nat × (Nat × Nat)} (hd : 20 ≤ d) : ∀ (a0 : Nat) (ha0 : sh10 kad Z a0) (I : AI) (r : (Int32 ⊕ String) × AI), f136 kad N Z a0 I = some r → aGo kad d 136 (0, ([(0, .ref a0)], [])) (aMem Z I, t) (qX tvI Z t r) := by
  intro a0 ha0 I r h
  unfold f136 at h
  refine go_ops aMi136 1 _ (f1 := (1, ([(0, .ref a0)], [.ref a0]))) rfl ?_
  refine gg_gR (b := (a0 + 1)) aMi136 rfl rfl rfl (gR_of (sh10_z ha0) (sh10_r0 ha0)) ?_
  obtain ⟨r4_1, hxr4_1, h⟩ := Option.bind_eq_some_iff.mp h
  refine gg_cv (as := []) (r := []) aMi136 rfl rfl rfl aMi5 (Nat.le_of_ble_eq_true rfl) rfl (Nat.le_of_ble_eq_true rfl) (Nat.le_of_ble_eq_true rfl) (by omega) (isK_of (sh0_z (sh10_s0 ha0))) (Tf5 (by omega) (a0 + 1) (sh10_s0 ha0) I _ hxr4_1) ?_
  show aGo kad d 136 (7, ([(0, .ref a0)], [.int r4_1.1])) (aMem Z r4_1.2, t) _
  refine gg_br (b := decide (r4_1.1 = 0)) (tg := 20) (off := 13) aMi136 rfl rfl rfl rfl (fun hb => ?_) (fun hb => ?_)
  · rw [if_pos (of_decide_eq_true hb)] at h
    refine go_ops aMi136 1 _ (f1 := (21, ([(0, .ref a0)], [.ref a0]))) rfl ?_
    refine gg_gR (b := (a0 + 1)) aMi136 rfl rfl rfl (gR_of (sh10_z ha0) (sh10_r0 ha0)) ?_
    refine gg_gR (b := (a0 + 2)) aMi136 rfl rfl rfl (gR_of (sh0_z (sh10_s0 ha0)) (sh0_r1 (sh10_s0 ha0))) ?_
    refine go_ops aMi136 2 _ (f1 := (29, ([(0, .ref a0)], [.ref a0, .int (0 : Int32), .ref (a0 + 2)]))) rfl ?_
    refine gg_gR (b := (a0 + 113)) aMi136 rfl rfl rfl (gR_of (sh10_z ha0) (sh10_r1 ha0)) ?_
    refine go_ops aMi136 2 _ (f1 := (36, ([(0, .ref a0)], [.int (256 : Int32), .int (0 : Int32), .ref (a0 + 113), .int (0 : Int32), .ref (a0 + 2)]))) rfl ?_
    obtain ⟨I36_2, hxI36_2, h⟩ := Option.bind_eq_some_iff.mp h
    refine gg_cp aMi136 rfl rfl (Nat.le_of_ble_eq_true rfl) (cI_of (sh0_a1 (sh10_s0 ha0)) (sh10_a1 ha0) hxI36_2) ?_
    refine go_ops aMi136 2 _ (f1 := (41, ([(0, .ref a0)], [.int (1 : Int32), .ref a0]))) rfl ?_
    obtain ⟨I41_3, hxI41_3, h⟩ := Option.bind_eq_some_iff.mp h
    refine gg_pB aMi136 rfl rfl rfl rfl (by decide) (pB_lit (sh10_z ha0) (Or.inr rfl) hxI41_3) ?_
    refine go_ops aMi136 1 _ (f1 := (45, ([(0, .ref a0)], [.ref a0]))) rfl ?_
    refine gg_gR (b := (a0 + 1)) aMi136 rfl rfl rfl (gR_of (sh10_z ha0) (sh10_r0 ha0)) ?_
    obtain ⟨r48_4, hxr48_4, h⟩ := Option.bind_eq_some_iff.mp h
    refine gg_cv (as := []) (r := []) aMi136 rfl rfl rfl aMi4 (Nat.le_of_ble_eq_true rfl) rfl (Nat.le_of_ble_eq_true rfl) (Nat.le_of_ble_eq_true rfl) (by omega) (isK_of (sh0_z (sh10_s0 ha0))) (Tf4 (by omega) (a0 + 1) (sh10_s0 ha0) I41_3 _ hxr48_4) ?_
    show aGo kad d 136 (51, ([(0, .ref a0)], [.int r48_4.1])) (aMem Z r48_4.2, t) _
    cases h
    exact go_ret aMi136 rfl aRetI qX_ret
  · rw [if_neg (of_decide_eq_false hb)] at h
    cases h
    exact go_thr (E := aEC 1) aMi136 rfl rfl rfl rfl rfl rfl qX_thr
-- KernelGym.requireAssembled ()V
def f140 (kad : Nat → Nat) (N : Nat) (Z : AZ) (a0 : Nat) (I : AI) : Option ((Unit ⊕ String) × AI) :=
  if ¬ (I a0 2) = 0 then
    some (.inl (), I)
  else
    some (.inr (aEC 1), I)
set_option maxRecDepth 20000 in
theorem Tf140 {kad : Nat → Nat} {N : Nat} {Z : AZ} {d : Nat} {t : Option Nat × (Nat × Nat)} (hd : 0 ≤ d) : ∀ (a0 : Nat) (ha0 : sh10 kad Z a0) (I : AI) (r : (Unit ⊕ String) × AI), f140 kad N Z a0 I = some r → aGo kad d 140 (0, ([(0, .ref a0)], [])) (aMem Z I, t) (qX tvV Z t r) := by
  intro a0 ha0 I r h
  unfold f140 at h
  refine go_ops aMi140 1 _ (f1 := (1, ([(0, .ref a0)], [.ref a0]))) rfl ?_
  refine gg_gI aMi140 rfl rfl rfl (gI_of (sh10_z ha0)) ?_
  refine gg_br (b := decide (¬ (I a0 2) = 0)) (tg := 17) (off := 13) aMi140 rfl rfl rfl rfl (fun hb => ?_) (fun hb => ?_)
  · rw [if_pos (of_decide_eq_true hb)] at h
    cases h
    exact go_ret aMi140 rfl rfl qX_ret
  · rw [if_neg (of_decide_eq_false hb)] at h
    cases h
    exact go_thr (E := aEC 1) aMi140 rfl rfl rfl rfl rfl rfl qX_thr
-- KernelGym.image (I)I
def f137 (kad : Nat → Nat) (N : Nat) (Z : AZ) (a0 : Nat) (i1 : Int32) (I : AI) : Option ((Int32 ⊕ String) × AI) :=
  (f138 kad N Z i1 (0 : Int32) (255 : Int32) I).bind fun r5_1 =>
  xB r5_1 fun vr5_1 Ir5_1 =>
  (f140 kad N Z a0 Ir5_1).bind fun r9_2 =>
  xB r9_2 fun vr9_2 Ir9_2 =>
  (ixA 256 i1).bind fun j17_3 =>
  some (.inl (Ir9_2 (a0 + 113) j17_3), Ir9_2)
set_option maxRecDepth 20000 in
theorem Tf137 {kad : Nat → Nat} {N : Nat} {Z : AZ} {d : Nat} {t : Option Nat × (Nat × Nat)} (hd : 1 ≤ d) : ∀ (a0 : Nat) (ha0 : sh10 kad Z a0) (i1 : Int32) (I : AI) (r : (Int32 ⊕ String) × AI), f137 kad N Z a0 i1 I = some r → aGo kad d 137 (0, ([(0, .ref a0), (1, .int i1)], [])) (aMem Z I, t) (qX tvI Z t r) := by
  intro a0 ha0 i1 I r h
  unfold f137 at h
  refine go_ops aMi137 3 _ (f1 := (5, ([(0, .ref a0), (1, .int i1)], [.int (255 : Int32), .int (0 : Int32), .int i1]))) rfl ?_
  obtain ⟨r5_1, hxr5_1, h⟩ := Option.bind_eq_some_iff.mp h
  rcases xB_eq h with ⟨vr5_1, Ir5_1, her5_1, h2⟩ | ⟨Er5_1, Ir5_1, her5_1, h2⟩
  rotate_left
  · clear h
    subst her5_1
    subst h2
    exact gg_cst (as := [.int i1, .int (0 : Int32), .int (255 : Int32)]) (r := []) aMi137 rfl rfl rfl aMi138 rfl (Nat.le_of_ble_eq_true rfl) (Nat.le_of_ble_eq_true rfl) (by omega) (Tf138 (by omega) i1 (0 : Int32) (255 : Int32) I _ hxr5_1) qX_thr
  clear h
  subst her5_1
  have h := h2
  clear h2
  refine gg_cs (as := [.int i1, .int (0 : Int32), .int (255 : Int32)]) (r := []) aMi137 rfl rfl rfl aMi138 rfl (Nat.le_of_ble_eq_true rfl) (Nat.le_of_ble_eq_true rfl) (by omega) (Tf138 (by omega) i1 (0 : Int32) (255 : Int32) I _ hxr5_1) ?_
  show aGo kad d 137 (8, ([(0, .ref a0), (1, .int i1)], [])) (aMem Z Ir5_1, t) _
  refine go_ops aMi137 1 _ (f1 := (9, ([(0, .ref a0), (1, .int i1)], [.ref a0]))) rfl ?_
  obtain ⟨r9_2, hxr9_2, h⟩ := Option.bind_eq_some_iff.mp h
  rcases xB_eq h with ⟨vr9_2, Ir9_2, her9_2, h2⟩ | ⟨Er9_2, Ir9_2, her9_2, h2⟩
  rotate_left
  · clear h
    subst her9_2
    subst h2
    exact gg_cvt (as := []) (r := []) aMi137 rfl rfl rfl aMi140 (Nat.le_of_ble_eq_true rfl) rfl (Nat.le_of_ble_eq_true rfl) (Nat.le_of_ble_eq_true rfl) (by omega) (isK_of (sh10_z ha0)) (Tf140 (by omega) a0 ha0 Ir5_1 _ hxr9_2) qX_thr
  clear h
  subst her9_2
  have h := h2
  clear h2
  refine gg_cv (as := []) (r := []) aMi137 rfl rfl rfl aMi140 (Nat.le_of_ble_eq_true rfl) rfl (Nat.le_of_ble_eq_true rfl) (Nat.le_of_ble_eq_true rfl) (by omega) (isK_of (sh10_z ha0)) (Tf140 (by omega) a0 ha0 Ir5_1 _ hxr9_2) ?_
  show aGo kad d 137 (12, ([(0, .ref a0), (1, .int i1)], [])) (aMem Z Ir9_2, t) _
  refine go_ops aMi137 1 _ (f1 := (13, ([(0, .ref a0), (1, .int i1)], [.ref a0]))) rfl ?_
  refine gg_gR (b := (a0 + 113)) aMi137 rfl rfl rfl (gR_of (sh10_z ha0) (sh10_r1 ha0)) ?_
  refine go_ops aMi137 1 _ (f1 := (17, ([(0, .ref a0), (1, .int i1)], [.int i1, .ref (a0 + 113)]))) rfl ?_
  obtain ⟨j17_3, hxj17_3, h⟩ := Option.bind_eq_some_iff.mp h
  refine gg_lI (Or.inl ⟨rfl, rfl⟩) aMi137 rfl (lI_of (sh10_a1 ha0) hxj17_3) ?_
  cases h
  exact go_ret aMi137 rfl aRetI qX_ret
-- KernelGym.start ()I
def f143 (kad : Nat → Nat) (N : Nat) (Z : AZ) (a0 : Nat) (I : AI) : Option ((Int32 ⊕ String) × AI) :=
  if (I (a0 + 115) 0) = 0 then
    (f140 kad N Z a0 I).bind fun r24_1 =>
    xB r24_1 fun vr24_1 Ir24_1 =>
    (f72 kad N Z (a0 + 124) Ir24_1).bind fun r34_2 =>
    (f80 kad N Z (a0 + 114) (a0 + 113) r34_2.2).bind fun r45_3 =>
    (cA r45_3.2 (a0 + 113) 256 (0 : Int32) (a0 + 141) 256 (0 : Int32) (256 : Int32)).bind fun I62_4 =>
    (cA I62_4 (a0 + 123) 256 (0 : Int32) (a0 + 142) 256 (0 : Int32) (256 : Int32)).bind fun I84_5 =>
    some (.inl r45_3.1, I84_5)
  else
    some (.inr (aEC 1), I)
set_option maxRecDepth 20000 in
theorem Tf143 {kad : Nat → Nat} {N : Nat} {Z : AZ} {d : Nat} {t : Option Nat × (Nat × Nat)} (hd : 4 ≤ d) : ∀ (a0 : Nat) (ha0 : sh10 kad Z a0) (I : AI) (r : (Int32 ⊕ String) × AI), f143 kad N Z a0 I = some r → aGo kad d 143 (0, ([(0, .ref a0)], [])) (aMem Z I, t) (qX tvI Z t r) := by
  intro a0 ha0 I r h
  unfold f143 at h
  refine go_ops aMi143 1 _ (f1 := (1, ([(0, .ref a0)], [.ref a0]))) rfl ?_
  refine gg_gR (b := (a0 + 114)) aMi143 rfl rfl rfl (gR_of (sh10_z ha0) (sh10_r3 ha0)) ?_
  refine gg_gR (b := (a0 + 115)) aMi143 rfl rfl rfl (gR_of (sh8_z (sh10_s3 ha0)) (sh8_r0 (sh10_s3 ha0))) ?_
  refine gg_gI aMi143 rfl rfl rfl (gI_of (sh2_z (sh8_s0 (sh10_s3 ha0)))) ?_
  refine gg_br (b := decide ((I (a0 + 115) 0) = 0)) (tg := 23) (off := 13) aMi143 rfl rfl rfl rfl (fun hb => ?_) (fun hb => ?_)
  · rw [if_pos (of_decide_eq_true hb)] at h
    refine go_ops aMi143 1 _ (f1 := (24, ([(0, .ref a0)], [.ref a0]))) rfl ?_
    obtain ⟨r24_1, hxr24_1, h⟩ := Option.bind_eq_some_iff.mp h
    rcases xB_eq h with ⟨vr24_1, Ir24_1, her24_1, h2⟩ | ⟨Er24_1, Ir24_1, her24_1, h2⟩
    rotate_left
    · clear h
      subst her24_1
      subst h2
      exact gg_cvt (as := []) (r := []) aMi143 rfl rfl rfl aMi140 (Nat.le_of_ble_eq_true rfl) rfl (Nat.le_of_ble_eq_true rfl) (Nat.le_of_ble_eq_true rfl) (by omega) (isK_of (sh10_z ha0)) (Tf140 (by omega) a0 ha0 I _ hxr24_1) qX_thr
    clear h
    subst her24_1
    have h := h2
    clear h2
    refine gg_cv (as := []) (r := []) aMi143 rfl rfl rfl aMi140 (Nat.le_of_ble_eq_true rfl) rfl (Nat.le_of_ble_eq_true rfl) (Nat.le_of_ble_eq_true rfl) (by omega) (isK_of (sh10_z ha0)) (Tf140 (by omega) a0 ha0 I _ hxr24_1) ?_
    show aGo kad d 143 (27, ([(0, .ref a0)], [])) (aMem Z Ir24_1, t) _
    refine go_ops aMi143 1 _ (f1 := (28, ([(0, .ref a0)], [.ref a0]))) rfl ?_
    refine gg_gR (b := (a0 + 114)) aMi143 rfl rfl rfl (gR_of (sh10_z ha0) (sh10_r3 ha0)) ?_
    refine gg_gR (b := (a0 + 124)) aMi143 rfl rfl rfl (gR_of (sh8_z (sh10_s3 ha0)) (sh8_r4 (sh10_s3 ha0))) ?_
    obtain ⟨r34_2, hxr34_2, h⟩ := Option.bind_eq_some_iff.mp h
    refine gg_cv (as := []) (r := []) aMi143 rfl rfl rfl aMi72 (Nat.le_of_ble_eq_true rfl) rfl (Nat.le_of_ble_eq_true rfl) (Nat.le_of_ble_eq_true rfl) (by omega) (isK_of (sh6_z (sh8_s4 (sh10_s3 ha0)))) (Tf72 (by omega) (a0 + 124) (sh8_s4 (sh10_s3 ha0)) Ir24_1 _ hxr34_2) ?_
    show aGo kad d 143 (37, ([(0, .ref a0)], [])) (aMem Z r34_2.2, t) _
    refine go_ops aMi143 1 _ (f1 := (38, ([(0, .ref a0)], [.ref a0]))) rfl ?_
    refine gg_gR (b := (a0 + 114)) aMi143 rfl rfl rfl (gR_of (sh10_z ha0) (sh10_r3 ha0)) ?_
    refine go_ops aMi143 1 _ (f1 := (42, ([(0, .ref a0)], [.ref a0, .ref (a0 + 114)]))) rfl ?_
    refine gg_gR (b := (a0 + 113)) aMi143 rfl rfl rfl (gR_of (sh10_z ha0) (sh10_r1 ha0)) ?_
    obtain ⟨r45_3, hxr45_3, h⟩ := Option.bind_eq_some_iff.mp h
    refine gg_cv (as := [.ref (a0 + 113)]) (r := []) aMi143 rfl rfl rfl aMi80 (Nat.le_of_ble_eq_true rfl) rfl (Nat.le_of_ble_eq_true rfl) (Nat.le_of_ble_eq_true rfl) (by omega) (isK_of (sh8_z (sh10_s3 ha0))) (Tf80 (by omega) (a0 + 114) (sh10_s3 ha0) (a0 + 113) r34_2.2 _ hxr45_3) ?_
    show aGo kad d 143 (48, ([(0, .ref a0)], [.int r45_3.1])) (aMem Z r45_3.2, t) _
    refine go_ops aMi143 2 _ (f1 := (50, ([(1, .int r45_3.1), (0, .ref a0)], [.ref a0]))) rfl ?_
    refine gg_gR (b := (a0 + 113)) aMi143 rfl rfl rfl (gR_of (sh10_z ha0) (sh10_r1 ha0)) ?_
    refine go_ops aMi143 2 _ (f1 := (55, ([(1, .int r45_3.1), (0, .ref a0)], [.ref a0, .int (0 : Int32), .ref (a0 + 113)]))) rfl ?_
    refine gg_gR (b := (a0 + 141)) aMi143 rfl rfl rfl (gR_of (sh10_z ha0) (sh10_r6 ha0)) ?_
    refine go_ops aMi143 2 _ (f1 := (62, ([(1, .int r45_3.1), (0, .ref a0)], [.int (256 : Int32), .int (0 : Int32), .ref (a0 + 141), .int (0 : Int32), .ref (a0 + 113)]))) rfl ?_
    obtain ⟨I62_4, hxI62_4, h⟩ := Option.bind_eq_some_iff.mp h
    refine gg_cp aMi143 rfl rfl (Nat.le_of_ble_eq_true rfl) (cI_of (sh10_a1 ha0) (sh10_a6 ha0) hxI62_4) ?_
    refine go_ops aMi143 1 _ (f1 := (66, ([(1, .int r45_3.1), (0, .ref a0)], [.ref a0]))) rfl ?_
    refine gg_gR (b := (a0 + 114)) aMi143 rfl rfl rfl (gR_of (sh10_z ha0) (sh10_r3 ha0)) ?_
    refine gg_gR (b := (a0 + 122)) aMi143 rfl rfl rfl (gR_of (sh8_z (sh10_s3 ha0)) (sh8_r3 (sh10_s3 ha0))) ?_
    refine gg_gR (b := (a0 + 123)) aMi143 rfl rfl rfl (gR_of (sh3_z (sh8_s3 (sh10_s3 ha0))) (sh3_r0 (sh8_s3 (sh10_s3 ha0)))) ?_
    refine go_ops aMi143 2 _ (f1 := (77, ([(1, .int r45_3.1), (0, .ref a0)], [.ref a0, .int (0 : Int32), .ref (a0 + 123)]))) rfl ?_
    refine gg_gR (b := (a0 + 142)) aMi143 rfl rfl rfl (gR_of (sh10_z ha0) (sh10_r7 ha0)) ?_
    refine go_ops aMi143 2 _ (f1 := (84, ([(1, .int r45_3.1), (0, .ref a0)], [.int (256 : Int32), .int (0 : Int32), .ref (a0 + 142), .int (0 : Int32), .ref (a0 + 123)]))) rfl ?_
    obtain ⟨I84_5, hxI84_5, h⟩ := Option.bind_eq_some_iff.mp h
    refine gg_cp aMi143 rfl rfl (Nat.le_of_ble_eq_true rfl) (cI_of (sh3_a0 (sh8_s3 (sh10_s3 ha0))) (sh10_a7 ha0) hxI84_5) ?_
    refine go_ops aMi143 1 _ (f1 := (88, ([(1, .int r45_3.1), (0, .ref a0)], [.int r45_3.1]))) rfl ?_
    cases h
    exact go_ret aMi143 rfl aRetI qX_ret
  · rw [if_neg (of_decide_eq_false hb)] at h
    cases h
    exact go_thr (E := aEC 1) aMi143 rfl rfl rfl rfl rfl rfl qX_thr
-- KernelGym.requireOn ()V
def f165 (kad : Nat → Nat) (N : Nat) (Z : AZ) (a0 : Nat) (I : AI) : Option ((Unit ⊕ String) × AI) :=
  if ¬ (I (a0 + 115) 0) = 0 then
    some (.inl (), I)
  else
    some (.inr (aEC 1), I)
set_option maxRecDepth 20000 in
theorem Tf165 {kad : Nat → Nat} {N : Nat} {Z : AZ} {d : Nat} {t : Option Nat × (Nat × Nat)} (hd : 0 ≤ d) : ∀ (a0 : Nat) (ha0 : sh10 kad Z a0) (I : AI) (r : (Unit ⊕ String) × AI), f165 kad N Z a0 I = some r → aGo kad d 165 (0, ([(0, .ref a0)], [])) (aMem Z I, t) (qX tvV Z t r) := by
  intro a0 ha0 I r h
  unfold f165 at h
  refine go_ops aMi165 1 _ (f1 := (1, ([(0, .ref a0)], [.ref a0]))) rfl ?_
  refine gg_gR (b := (a0 + 114)) aMi165 rfl rfl rfl (gR_of (sh10_z ha0) (sh10_r3 ha0)) ?_
  refine gg_gR (b := (a0 + 115)) aMi165 rfl rfl rfl (gR_of (sh8_z (sh10_s3 ha0)) (sh8_r0 (sh10_s3 ha0))) ?_
  refine gg_gI aMi165 rfl rfl rfl (gI_of (sh2_z (sh8_s0 (sh10_s3 ha0)))) ?_
  refine gg_br (b := decide (¬ (I (a0 + 115) 0) = 0)) (tg := 24) (off := 14) aMi165 rfl rfl rfl rfl (fun hb => ?_) (fun hb => ?_)
  · rw [if_pos (of_decide_eq_true hb)] at h
    cases h
    exact go_ret aMi165 rfl rfl qX_ret
  · rw [if_neg (of_decide_eq_false hb)] at h
    cases h
    exact go_thr (E := aEC 1) aMi165 rfl rfl rfl rfl rfl rfl qX_thr
