-- KernelGymModel.instructs ()V
def f228_b161 (kad : Nat → Nat) (N : Nat) (Z : AZ) (a0 : Nat) (I : AI) : Option (Unit × AI) :=
  some ((), I)
set_option maxRecDepth 20000 in
theorem Tf228_b161 {kad : Nat → Nat} {N : Nat} {Z : AZ} {d : Nat} {t : Option Nat × (Nat × Nat)} (hd : 5 ≤ d) : ∀ (a0 : Nat) (ha0 : sh11 kad Z a0) (I : AI) (r : Unit × AI), f228_b161 kad N Z a0 I = some r → aGo kad d 228 (161, ([], [])) (aMem Z I, t) (qV Z t r) := by
  intro a0 ha0 I r h
  unfold f228_b161 at h
  cases h
  exact go_ret aMi228 rfl rfl ⟨rfl, rfl⟩
def f228_b76 (kad : Nat → Nat) (N : Nat) (Z : AZ) (a0 : Nat) (i1 : Int32) (i2 : Int32) (s0 : Int32) (I : AI) : Option (Unit × AI) :=
  (f227 kad N Z a0 (i1 / (16 : Int32)) s0 I).bind fun r85_1 =>
  if r85_1.1 = 0 then
    if (12 : Int32) ≤ (i1 / (16 : Int32)) then
      if (19 : Int32) ≤ (i1 / (16 : Int32)) then
        (f233 kad N Z a0 (i1 / (16 : Int32)) i2 s0 r85_1.2).bind fun r158_2 =>
        f228_b161 kad N Z a0 r158_2.2
      else
        (f232 kad N Z a0 (i1 / (16 : Int32)) i2 s0 r85_1.2).bind fun r144_3 =>
        f228_b161 kad N Z a0 r144_3.2
    else
      (f231 kad N Z a0 (i1 / (16 : Int32)) i2 s0 r85_1.2).bind fun r121_4 =>
      f228_b161 kad N Z a0 r121_4.2
  else
    (f221 kad N Z a0 r85_1.1 r85_1.2).bind fun r98_5 =>
    f228_b161 kad N Z a0 r98_5.2
set_option maxRecDepth 20000 in
theorem Tf228_b76 {kad : Nat → Nat} {N : Nat} {Z : AZ} {d : Nat} {t : Option Nat × (Nat × Nat)} (hd : 5 ≤ d) : ∀ (a0 : Nat) (ha0 : sh11 kad Z a0) (i1 : Int32) (i2 : Int32) (s0 : Int32) (I : AI) (r : Unit × AI), f228_b76 kad N Z a0 i1 i2 s0 I = some r → aGo kad d 228 (76, ([(0, .ref a0), (1, .int i1), (2, .int i2)], [.int s0])) (aMem Z I, t) (qV Z t r) := by
  intro a0 ha0 i1 i2 s0 I r h
  unfold f228_b76 at h
  refine go_ops aMi228 6 _ (f1 := (85, ([(4, .int s0), (0, .ref a0), (1, .int i1), (2, .int i2)], [.int s0, .int (i1 / (16 : Int32)), .ref a0]))) rfl ?_
  obtain ⟨r85_1, hxr85_1, h⟩ := Option.bind_eq_some_iff.mp h
  refine gg_cv (as := [.int (i1 / (16 : Int32)), .int s0]) (r := []) aMi228 rfl rfl rfl aMi227 (Nat.le_of_ble_eq_true rfl) rfl (Nat.le_of_ble_eq_true rfl) (Nat.le_of_ble_eq_true rfl) (by omega) (isK_of (sh11_z ha0)) (Tf227 (by omega) a0 ha0 (i1 / (16 : Int32)) s0 I _ hxr85_1) ?_
  show aGo kad d 228 (88, ([(4, .int s0), (0, .ref a0), (1, .int i1), (2, .int i2)], [.int r85_1.1])) (aMem Z r85_1.2, t) _
  refine go_ops aMi228 2 _ (f1 := (92, ([(5, .int r85_1.1), (4, .int s0), (0, .ref a0), (1, .int i1), (2, .int i2)], [.int r85_1.1]))) rfl ?_
  refine gg_br (b := decide (r85_1.1 = 0)) (tg := 104) (off := 12) aMi228 rfl rfl rfl rfl (fun hb => ?_) (fun hb => ?_)
  · rw [if_pos (of_decide_eq_true hb)] at h
    refine go_ops aMi228 4 _ (f1 := (110, ([(5, .int r85_1.1), (4, .int s0), (0, .ref a0), (1, .int i1), (2, .int i2)], [.int (12 : Int32), .int (i1 / (16 : Int32))]))) rfl ?_
    refine gg_br (b := decide ((12 : Int32) ≤ (i1 / (16 : Int32)))) (tg := 127) (off := 17) aMi228 rfl rfl rfl rfl (fun hb => ?_) (fun hb => ?_)
    · rw [if_pos (of_decide_eq_true hb)] at h
      refine go_ops aMi228 4 _ (f1 := (133, ([(5, .int r85_1.1), (4, .int s0), (0, .ref a0), (1, .int i1), (2, .int i2)], [.int (19 : Int32), .int (i1 / (16 : Int32))]))) rfl ?_
      refine gg_br (b := decide ((19 : Int32) ≤ (i1 / (16 : Int32)))) (tg := 150) (off := 17) aMi228 rfl rfl rfl rfl (fun hb => ?_) (fun hb => ?_)
      · rw [if_pos (of_decide_eq_true hb)] at h
        refine go_ops aMi228 6 _ (f1 := (158, ([(5, .int r85_1.1), (4, .int s0), (0, .ref a0), (1, .int i1), (2, .int i2)], [.int s0, .int i2, .int (i1 / (16 : Int32)), .ref a0]))) rfl ?_
        obtain ⟨r158_2, hxr158_2, h⟩ := Option.bind_eq_some_iff.mp h
        refine gg_cv (as := [.int (i1 / (16 : Int32)), .int i2, .int s0]) (r := []) aMi228 rfl rfl rfl aMi233 (Nat.le_of_ble_eq_true rfl) rfl (Nat.le_of_ble_eq_true rfl) (Nat.le_of_ble_eq_true rfl) (by omega) (isK_of (sh11_z ha0)) (Tf233 (by omega) a0 ha0 (i1 / (16 : Int32)) i2 s0 r85_1.2 _ hxr158_2) ?_
        show aGo kad d 228 (161, ([(5, .int r85_1.1), (4, .int s0), (0, .ref a0), (1, .int i1), (2, .int i2)], [])) (aMem Z r158_2.2, t) _
        refine go_le (lv1 := []) (aLe_of (show (List.map (fun q => q.1) ([] : ALv)).Nodup from (by show ([] : List Nat).Nodup; decide)) aSubL_nil) ?_
        exact Tf228_b161 hd a0 ha0 r158_2.2 _ h
      · rw [if_neg (of_decide_eq_false hb)] at h
        refine go_ops aMi228 6 _ (f1 := (144, ([(5, .int r85_1.1), (4, .int s0), (0, .ref a0), (1, .int i1), (2, .int i2)], [.int s0, .int i2, .int (i1 / (16 : Int32)), .ref a0]))) rfl ?_
        obtain ⟨r144_3, hxr144_3, h⟩ := Option.bind_eq_some_iff.mp h
        refine gg_cv (as := [.int (i1 / (16 : Int32)), .int i2, .int s0]) (r := []) aMi228 rfl rfl rfl aMi232 (Nat.le_of_ble_eq_true rfl) rfl (Nat.le_of_ble_eq_true rfl) (Nat.le_of_ble_eq_true rfl) (by omega) (isK_of (sh11_z ha0)) (Tf232 (by omega) a0 ha0 (i1 / (16 : Int32)) i2 s0 r85_1.2 _ hxr144_3) ?_
        show aGo kad d 228 (147, ([(5, .int r85_1.1), (4, .int s0), (0, .ref a0), (1, .int i1), (2, .int i2)], [])) (aMem Z r144_3.2, t) _
        refine go_ops aMi228 1 _ (f1 := (161, ([(5, .int r85_1.1), (4, .int s0), (0, .ref a0), (1, .int i1), (2, .int i2)], []))) rfl ?_
        refine go_le (lv1 := []) (aLe_of (show (List.map (fun q => q.1) ([] : ALv)).Nodup from (by show ([] : List Nat).Nodup; decide)) aSubL_nil) ?_
        exact Tf228_b161 hd a0 ha0 r144_3.2 _ h
    · rw [if_neg (of_decide_eq_false hb)] at h
      refine go_ops aMi228 6 _ (f1 := (121, ([(5, .int r85_1.1), (4, .int s0), (0, .ref a0), (1, .int i1), (2, .int i2)], [.int s0, .int i2, .int (i1 / (16 : Int32)), .ref a0]))) rfl ?_
      obtain ⟨r121_4, hxr121_4, h⟩ := Option.bind_eq_some_iff.mp h
      refine gg_cv (as := [.int (i1 / (16 : Int32)), .int i2, .int s0]) (r := []) aMi228 rfl rfl rfl aMi231 (Nat.le_of_ble_eq_true rfl) rfl (Nat.le_of_ble_eq_true rfl) (Nat.le_of_ble_eq_true rfl) (by omega) (isK_of (sh11_z ha0)) (Tf231 (by omega) a0 ha0 (i1 / (16 : Int32)) i2 s0 r85_1.2 _ hxr121_4) ?_
      show aGo kad d 228 (124, ([(5, .int r85_1.1), (4, .int s0), (0, .ref a0), (1, .int i1), (2, .int i2)], [])) (aMem Z r121_4.2, t) _
      refine go_ops aMi228 1 _ (f1 := (161, ([(5, .int r85_1.1), (4, .int s0), (0, .ref a0), (1, .int i1), (2, .int i2)], []))) rfl ?_
      refine go_le (lv1 := []) (aLe_of (show (List.map (fun q => q.1) ([] : ALv)).Nodup from (by show ([] : List Nat).Nodup; decide)) aSubL_nil) ?_
      exact Tf228_b161 hd a0 ha0 r121_4.2 _ h
  · rw [if_neg (of_decide_eq_false hb)] at h
    refine go_ops aMi228 2 _ (f1 := (98, ([(5, .int r85_1.1), (4, .int s0), (0, .ref a0), (1, .int i1), (2, .int i2)], [.int r85_1.1, .ref a0]))) rfl ?_
    obtain ⟨r98_5, hxr98_5, h⟩ := Option.bind_eq_some_iff.mp h
    refine gg_cv (as := [.int r85_1.1]) (r := []) aMi228 rfl rfl rfl aMi221 (Nat.le_of_ble_eq_true rfl) rfl (Nat.le_of_ble_eq_true rfl) (Nat.le_of_ble_eq_true rfl) (by omega) (isK_of (sh11_z ha0)) (Tf221 (by omega) a0 ha0 r85_1.1 r85_1.2 _ hxr98_5) ?_
    show aGo kad d 228 (101, ([(5, .int r85_1.1), (4, .int s0), (0, .ref a0), (1, .int i1), (2, .int i2)], [])) (aMem Z r98_5.2, t) _
    refine go_ops aMi228 1 _ (f1 := (161, ([(5, .int r85_1.1), (4, .int s0), (0, .ref a0), (1, .int i1), (2, .int i2)], []))) rfl ?_
    refine go_le (lv1 := []) (aLe_of (show (List.map (fun q => q.1) ([] : ALv)).Nodup from (by show ([] : List Nat).Nodup; decide)) aSubL_nil) ?_
    exact Tf228_b161 hd a0 ha0 r98_5.2 _ h
def f228 (kad : Nat → Nat) (N : Nat) (Z : AZ) (a0 : Nat) (I : AI) : Option (Unit × AI) :=
  if (I a0 27) ≤ (254 : Int32) then
    (ixA 256 (I a0 27)).bind fun j24_1 =>
    if ¬ (((I (a0 + 15) j24_1) / (4 : Int32)) - ((I (a0 + 15) j24_1) / (4 : Int32)) / (4 : Int32) * (4 : Int32)) = ((I (a0 + 15) j24_1) - (I (a0 + 15) j24_1) / (4 : Int32) * (4 : Int32)) then
      (ixA 4 ((I (a0 + 15) j24_1) - (I (a0 + 15) j24_1) / (4 : Int32) * (4 : Int32))).bind fun j60_2 =>
      (ixA 256 ((I a0 27) + (1 : Int32))).bind fun j71_3 =>
      f228_b76 kad N Z a0 (I (a0 + 15) j24_1) (((I (a0 + 15) j24_1) / (4 : Int32)) - ((I (a0 + 15) j24_1) / (4 : Int32)) / (4 : Int32) * (4 : Int32)) (((I (a0 + 16) j60_2) + (I (a0 + 15) j71_3)) - ((I (a0 + 16) j60_2) + (I (a0 + 15) j71_3)) / (65536 : Int32) * (65536 : Int32)) I
    else
      (ixA 256 ((I a0 27) + (1 : Int32))).bind fun j51_4 =>
      f228_b76 kad N Z a0 (I (a0 + 15) j24_1) (((I (a0 + 15) j24_1) / (4 : Int32)) - ((I (a0 + 15) j24_1) / (4 : Int32)) / (4 : Int32) * (4 : Int32)) (I (a0 + 15) j51_4) I
  else
    (f221 kad N Z a0 (1 : Int32) I).bind fun r12_5 =>
    some ((), r12_5.2)
set_option maxRecDepth 20000 in
theorem Tf228 {kad : Nat → Nat} {N : Nat} {Z : AZ} {d : Nat} {t : Option Nat × (Nat × Nat)} (hd : 5 ≤ d) : ∀ (a0 : Nat) (ha0 : sh11 kad Z a0) (I : AI) (r : Unit × AI), f228 kad N Z a0 I = some r → aGo kad d 228 (0, ([(0, .ref a0)], [])) (aMem Z I, t) (qV Z t r) := by
  intro a0 ha0 I r h
  unfold f228 at h
  refine go_ops aMi228 1 _ (f1 := (1, ([(0, .ref a0)], [.ref a0]))) rfl ?_
  refine gg_gI aMi228 rfl rfl rfl (gI_of (sh11_z ha0)) ?_
  refine go_ops aMi228 1 _ (f1 := (7, ([(0, .ref a0)], [.int (254 : Int32), .int (I a0 27)]))) rfl ?_
  refine gg_br (b := decide ((I a0 27) ≤ (254 : Int32))) (tg := 16) (off := 9) aMi228 rfl rfl rfl rfl (fun hb => ?_) (fun hb => ?_)
  · rw [if_pos (of_decide_eq_true hb)] at h
    refine go_ops aMi228 1 _ (f1 := (17, ([(0, .ref a0)], [.ref a0]))) rfl ?_
    refine gg_gR (b := (a0 + 15)) aMi228 rfl rfl rfl (gR_of (sh11_z ha0) (sh11_r25 ha0)) ?_
    refine go_ops aMi228 1 _ (f1 := (21, ([(0, .ref a0)], [.ref a0, .ref (a0 + 15)]))) rfl ?_
    refine gg_gI aMi228 rfl rfl rfl (gI_of (sh11_z ha0)) ?_
    obtain ⟨j24_1, hxj24_1, h⟩ := Option.bind_eq_some_iff.mp h
    refine gg_lI (Or.inl ⟨rfl, rfl⟩) aMi228 rfl (lI_of (sh11_a25 ha0) hxj24_1) ?_
    refine go_ops aMi228 13 _ (f1 := (38, ([(3, .int ((I (a0 + 15) j24_1) - (I (a0 + 15) j24_1) / (4 : Int32) * (4 : Int32))), (2, .int (((I (a0 + 15) j24_1) / (4 : Int32)) - ((I (a0 + 15) j24_1) / (4 : Int32)) / (4 : Int32) * (4 : Int32))), (1, .int (I (a0 + 15) j24_1)), (0, .ref a0)], [.int ((I (a0 + 15) j24_1) - (I (a0 + 15) j24_1) / (4 : Int32) * (4 : Int32)), .int (((I (a0 + 15) j24_1) / (4 : Int32)) - ((I (a0 + 15) j24_1) / (4 : Int32)) / (4 : Int32) * (4 : Int32))]))) rfl ?_
    refine gg_br (b := decide (¬ (((I (a0 + 15) j24_1) / (4 : Int32)) - ((I (a0 + 15) j24_1) / (4 : Int32)) / (4 : Int32) * (4 : Int32)) = ((I (a0 + 15) j24_1) - (I (a0 + 15) j24_1) / (4 : Int32) * (4 : Int32)))) (tg := 55) (off := 17) aMi228 rfl rfl rfl rfl (fun hb => ?_) (fun hb => ?_)
    · rw [if_pos (of_decide_eq_true hb)] at h
      refine go_ops aMi228 1 _ (f1 := (56, ([(3, .int ((I (a0 + 15) j24_1) - (I (a0 + 15) j24_1) / (4 : Int32) * (4 : Int32))), (2, .int (((I (a0 + 15) j24_1) / (4 : Int32)) - ((I (a0 + 15) j24_1) / (4 : Int32)) / (4 : Int32) * (4 : Int32))), (1, .int (I (a0 + 15) j24_1)), (0, .ref a0)], [.ref a0]))) rfl ?_
      refine gg_gR (b := (a0 + 16)) aMi228 rfl rfl rfl (gR_of (sh11_z ha0) (sh11_r26 ha0)) ?_
      refine go_ops aMi228 1 _ (f1 := (60, ([(3, .int ((I (a0 + 15) j24_1) - (I (a0 + 15) j24_1) / (4 : Int32) * (4 : Int32))), (2, .int (((I (a0 + 15) j24_1) / (4 : Int32)) - ((I (a0 + 15) j24_1) / (4 : Int32)) / (4 : Int32) * (4 : Int32))), (1, .int (I (a0 + 15) j24_1)), (0, .ref a0)], [.int ((I (a0 + 15) j24_1) - (I (a0 + 15) j24_1) / (4 : Int32) * (4 : Int32)), .ref (a0 + 16)]))) rfl ?_
      obtain ⟨j60_2, hxj60_2, h⟩ := Option.bind_eq_some_iff.mp h
      refine gg_lI (Or.inl ⟨rfl, rfl⟩) aMi228 rfl (lI_of (sh11_a26 ha0) hxj60_2) ?_
      refine go_ops aMi228 1 _ (f1 := (62, ([(3, .int ((I (a0 + 15) j24_1) - (I (a0 + 15) j24_1) / (4 : Int32) * (4 : Int32))), (2, .int (((I (a0 + 15) j24_1) / (4 : Int32)) - ((I (a0 + 15) j24_1) / (4 : Int32)) / (4 : Int32) * (4 : Int32))), (1, .int (I (a0 + 15) j24_1)), (0, .ref a0)], [.ref a0, .int (I (a0 + 16) j60_2)]))) rfl ?_
      refine gg_gR (b := (a0 + 15)) aMi228 rfl rfl rfl (gR_of (sh11_z ha0) (sh11_r25 ha0)) ?_
      refine go_ops aMi228 1 _ (f1 := (66, ([(3, .int ((I (a0 + 15) j24_1) - (I (a0 + 15) j24_1) / (4 : Int32) * (4 : Int32))), (2, .int (((I (a0 + 15) j24_1) / (4 : Int32)) - ((I (a0 + 15) j24_1) / (4 : Int32)) / (4 : Int32) * (4 : Int32))), (1, .int (I (a0 + 15) j24_1)), (0, .ref a0)], [.ref a0, .ref (a0 + 15), .int (I (a0 + 16) j60_2)]))) rfl ?_
      refine gg_gI aMi228 rfl rfl rfl (gI_of (sh11_z ha0)) ?_
      refine go_ops aMi228 2 _ (f1 := (71, ([(3, .int ((I (a0 + 15) j24_1) - (I (a0 + 15) j24_1) / (4 : Int32) * (4 : Int32))), (2, .int (((I (a0 + 15) j24_1) / (4 : Int32)) - ((I (a0 + 15) j24_1) / (4 : Int32)) / (4 : Int32) * (4 : Int32))), (1, .int (I (a0 + 15) j24_1)), (0, .ref a0)], [.int ((I a0 27) + (1 : Int32)), .ref (a0 + 15), .int (I (a0 + 16) j60_2)]))) rfl ?_
      obtain ⟨j71_3, hxj71_3, h⟩ := Option.bind_eq_some_iff.mp h
      refine gg_lI (Or.inl ⟨rfl, rfl⟩) aMi228 rfl (lI_of (sh11_a25 ha0) hxj71_3) ?_
      refine go_ops aMi228 1 _ (f1 := (73, ([(3, .int ((I (a0 + 15) j24_1) - (I (a0 + 15) j24_1) / (4 : Int32) * (4 : Int32))), (2, .int (((I (a0 + 15) j24_1) / (4 : Int32)) - ((I (a0 + 15) j24_1) / (4 : Int32)) / (4 : Int32) * (4 : Int32))), (1, .int (I (a0 + 15) j24_1)), (0, .ref a0)], [.int ((I (a0 + 16) j60_2) + (I (a0 + 15) j71_3))]))) rfl ?_
      refine gg_kI (Or.inl ⟨rfl, rfl⟩) aMi228 rfl rfl ?_
      refine go_ops aMi228 1 _ (f1 := (76, ([(3, .int ((I (a0 + 15) j24_1) - (I (a0 + 15) j24_1) / (4 : Int32) * (4 : Int32))), (2, .int (((I (a0 + 15) j24_1) / (4 : Int32)) - ((I (a0 + 15) j24_1) / (4 : Int32)) / (4 : Int32) * (4 : Int32))), (1, .int (I (a0 + 15) j24_1)), (0, .ref a0)], [.int (((I (a0 + 16) j60_2) + (I (a0 + 15) j71_3)) - ((I (a0 + 16) j60_2) + (I (a0 + 15) j71_3)) / (65536 : Int32) * (65536 : Int32))]))) rfl ?_
      refine go_le (lv1 := [(0, .ref a0), (1, .int (I (a0 + 15) j24_1)), (2, .int (((I (a0 + 15) j24_1) / (4 : Int32)) - ((I (a0 + 15) j24_1) / (4 : Int32)) / (4 : Int32) * (4 : Int32)))]) (aLe_of (show (List.map (fun q => q.1) ([(0, .ref a0), (1, .int (I (a0 + 15) j24_1)), (2, .int (((I (a0 + 15) j24_1) / (4 : Int32)) - ((I (a0 + 15) j24_1) / (4 : Int32)) / (4 : Int32) * (4 : Int32)))] : ALv)).Nodup from (by show ([0, 1, 2] : List Nat).Nodup; decide)) (aSubL_cons rfl (aSubL_cons rfl (aSubL_cons rfl aSubL_nil)))) ?_
      exact Tf228_b76 hd a0 ha0 (I (a0 + 15) j24_1) (((I (a0 + 15) j24_1) / (4 : Int32)) - ((I (a0 + 15) j24_1) / (4 : Int32)) / (4 : Int32) * (4 : Int32)) (((I (a0 + 16) j60_2) + (I (a0 + 15) j71_3)) - ((I (a0 + 16) j60_2) + (I (a0 + 15) j71_3)) / (65536 : Int32) * (65536 : Int32)) I _ h
    · rw [if_neg (of_decide_eq_false hb)] at h
      refine go_ops aMi228 1 _ (f1 := (42, ([(3, .int ((I (a0 + 15) j24_1) - (I (a0 + 15) j24_1) / (4 : Int32) * (4 : Int32))), (2, .int (((I (a0 + 15) j24_1) / (4 : Int32)) - ((I (a0 + 15) j24_1) / (4 : Int32)) / (4 : Int32) * (4 : Int32))), (1, .int (I (a0 + 15) j24_1)), (0, .ref a0)], [.ref a0]))) rfl ?_
      refine gg_gR (b := (a0 + 15)) aMi228 rfl rfl rfl (gR_of (sh11_z ha0) (sh11_r25 ha0)) ?_
      refine go_ops aMi228 1 _ (f1 := (46, ([(3, .int ((I (a0 + 15) j24_1) - (I (a0 + 15) j24_1) / (4 : Int32) * (4 : Int32))), (2, .int (((I (a0 + 15) j24_1) / (4 : Int32)) - ((I (a0 + 15) j24_1) / (4 : Int32)) / (4 : Int32) * (4 : Int32))), (1, .int (I (a0 + 15) j24_1)), (0, .ref a0)], [.ref a0, .ref (a0 + 15)]))) rfl ?_
      refine gg_gI aMi228 rfl rfl rfl (gI_of (sh11_z ha0)) ?_
      refine go_ops aMi228 2 _ (f1 := (51, ([(3, .int ((I (a0 + 15) j24_1) - (I (a0 + 15) j24_1) / (4 : Int32) * (4 : Int32))), (2, .int (((I (a0 + 15) j24_1) / (4 : Int32)) - ((I (a0 + 15) j24_1) / (4 : Int32)) / (4 : Int32) * (4 : Int32))), (1, .int (I (a0 + 15) j24_1)), (0, .ref a0)], [.int ((I a0 27) + (1 : Int32)), .ref (a0 + 15)]))) rfl ?_
      obtain ⟨j51_4, hxj51_4, h⟩ := Option.bind_eq_some_iff.mp h
      refine gg_lI (Or.inl ⟨rfl, rfl⟩) aMi228 rfl (lI_of (sh11_a25 ha0) hxj51_4) ?_
      refine go_ops aMi228 1 _ (f1 := (76, ([(3, .int ((I (a0 + 15) j24_1) - (I (a0 + 15) j24_1) / (4 : Int32) * (4 : Int32))), (2, .int (((I (a0 + 15) j24_1) / (4 : Int32)) - ((I (a0 + 15) j24_1) / (4 : Int32)) / (4 : Int32) * (4 : Int32))), (1, .int (I (a0 + 15) j24_1)), (0, .ref a0)], [.int (I (a0 + 15) j51_4)]))) rfl ?_
      refine go_le (lv1 := [(0, .ref a0), (1, .int (I (a0 + 15) j24_1)), (2, .int (((I (a0 + 15) j24_1) / (4 : Int32)) - ((I (a0 + 15) j24_1) / (4 : Int32)) / (4 : Int32) * (4 : Int32)))]) (aLe_of (show (List.map (fun q => q.1) ([(0, .ref a0), (1, .int (I (a0 + 15) j24_1)), (2, .int (((I (a0 + 15) j24_1) / (4 : Int32)) - ((I (a0 + 15) j24_1) / (4 : Int32)) / (4 : Int32) * (4 : Int32)))] : ALv)).Nodup from (by show ([0, 1, 2] : List Nat).Nodup; decide)) (aSubL_cons rfl (aSubL_cons rfl (aSubL_cons rfl aSubL_nil)))) ?_
      exact Tf228_b76 hd a0 ha0 (I (a0 + 15) j24_1) (((I (a0 + 15) j24_1) / (4 : Int32)) - ((I (a0 + 15) j24_1) / (4 : Int32)) / (4 : Int32) * (4 : Int32)) (I (a0 + 15) j51_4) I _ h
  · rw [if_neg (of_decide_eq_false hb)] at h
    refine go_ops aMi228 2 _ (f1 := (12, ([(0, .ref a0)], [.int (1 : Int32), .ref a0]))) rfl ?_
    obtain ⟨r12_5, hxr12_5, h⟩ := Option.bind_eq_some_iff.mp h
    refine gg_cv (as := [.int (1 : Int32)]) (r := []) aMi228 rfl rfl rfl aMi221 (Nat.le_of_ble_eq_true rfl) rfl (Nat.le_of_ble_eq_true rfl) (Nat.le_of_ble_eq_true rfl) (by omega) (isK_of (sh11_z ha0)) (Tf221 (by omega) a0 ha0 (1 : Int32) I _ hxr12_5) ?_
    show aGo kad d 228 (15, ([(0, .ref a0)], [])) (aMem Z r12_5.2, t) _
    cases h
    exact go_ret aMi228 rfl rfl ⟨rfl, rfl⟩
-- KernelGymModel.writesHead (Z)V
def f251_b82 (kad : Nat → Nat) (N : Nat) (Z : AZ) : Nat → Nat → Int32 → Int32 → AI → Option (Unit × AI)
  | 0, _, _, _, _ => none
  | F + 1, a0, i2, i3, I =>
    if ((8 : Int32) * (I a0 47)) ≤ i3 then
      (ixA 256 (4 : Int32)).bind fun j117_2 =>
      (wI I (a0 + 24) j117_2 (i2 - i2 / (65536 : Int32) * (65536 : Int32))).bind fun I117_1 =>
      some ((), I117_1)
    else
      (ixA 24 i3).bind fun j99_3 =>
      f251_b82 kad N Z F a0 (i2 + (I (a0 + 23) j99_3)) (i3 + (1 : Int32)) I
set_option maxRecDepth 20000 in
theorem Tf251_b82 {kad : Nat → Nat} {N : Nat} {Z : AZ} {d : Nat} {t : Option Nat × (Nat × Nat)} (hd : 0 ≤ d) : ∀ (F : Nat) (a0 : Nat) (ha0 : sh11 kad Z a0) (i2 : Int32) (i3 : Int32) (I : AI) (r : Unit × AI), f251_b82 kad N Z F a0 i2 i3 I = some r → aGo kad d 251 (82, ([(0, .ref a0), (2, .int i2), (3, .int i3)], [])) (aMem Z I, t) (qV Z t r) := by
  intro F
  induction F with
  | zero => intro a0 ha0 i2 i3 I r h; cases h
  | succ F ih =>
    intro a0 ha0 i2 i3 I r h
    unfold f251_b82 at h
    refine go_ops aMi251 3 _ (f1 := (86, ([(0, .ref a0), (2, .int i2), (3, .int i3)], [.ref a0, .int (8 : Int32), .int i3]))) rfl ?_
    refine gg_gI aMi251 rfl rfl rfl (gI_of (sh11_z ha0)) ?_
    refine go_ops aMi251 1 _ (f1 := (90, ([(0, .ref a0), (2, .int i2), (3, .int i3)], [.int ((8 : Int32) * (I a0 47)), .int i3]))) rfl ?_
    refine gg_br (b := decide (((8 : Int32) * (I a0 47)) ≤ i3)) (tg := 108) (off := 18) aMi251 rfl rfl rfl rfl (fun hb => ?_) (fun hb => ?_)
    · rw [if_pos (of_decide_eq_true hb)] at h
      refine go_ops aMi251 1 _ (f1 := (109, ([(0, .ref a0), (2, .int i2), (3, .int i3)], [.ref a0]))) rfl ?_
      refine gg_gR (b := (a0 + 24)) aMi251 rfl rfl rfl (gR_of (sh11_z ha0) (sh11_r50 ha0)) ?_
      refine go_ops aMi251 2 _ (f1 := (114, ([(0, .ref a0), (2, .int i2), (3, .int i3)], [.int i2, .int (4 : Int32), .ref (a0 + 24)]))) rfl ?_
      refine gg_kI (Or.inl ⟨rfl, rfl⟩) aMi251 rfl rfl ?_
      refine go_ops aMi251 1 _ (f1 := (117, ([(0, .ref a0), (2, .int i2), (3, .int i3)], [.int (i2 - i2 / (65536 : Int32) * (65536 : Int32)), .int (4 : Int32), .ref (a0 + 24)]))) rfl ?_
      obtain ⟨j117_2, hxj117_2, h⟩ := Option.bind_eq_some_iff.mp h
      obtain ⟨I117_1, hxI117_1, h⟩ := Option.bind_eq_some_iff.mp h
      refine gg_sI (Or.inl ⟨rfl, rfl⟩) aMi251 rfl (sI_of (sh11_a50 ha0) hxj117_2 hxI117_1) ?_
      cases h
      exact go_ret aMi251 rfl rfl ⟨rfl, rfl⟩
    · rw [if_neg (of_decide_eq_false hb)] at h
      refine go_ops aMi251 2 _ (f1 := (95, ([(0, .ref a0), (2, .int i2), (3, .int i3)], [.ref a0, .int i2]))) rfl ?_
      refine gg_gR (b := (a0 + 23)) aMi251 rfl rfl rfl (gR_of (sh11_z ha0) (sh11_r49 ha0)) ?_
      refine go_ops aMi251 1 _ (f1 := (99, ([(0, .ref a0), (2, .int i2), (3, .int i3)], [.int i3, .ref (a0 + 23), .int i2]))) rfl ?_
      obtain ⟨j99_3, hxj99_3, h⟩ := Option.bind_eq_some_iff.mp h
      refine gg_lI (Or.inl ⟨rfl, rfl⟩) aMi251 rfl (lI_of (sh11_a49 ha0) hxj99_3) ?_
      refine go_ops aMi251 4 _ (f1 := (82, ([(3, .int (i3 + (1 : Int32))), (2, .int (i2 + (I (a0 + 23) j99_3))), (0, .ref a0)], []))) rfl ?_
      refine go_le (lv1 := [(0, .ref a0), (2, .int (i2 + (I (a0 + 23) j99_3))), (3, .int (i3 + (1 : Int32)))]) (aLe_of (show (List.map (fun q => q.1) ([(0, .ref a0), (2, .int (i2 + (I (a0 + 23) j99_3))), (3, .int (i3 + (1 : Int32)))] : ALv)).Nodup from (by show ([0, 2, 3] : List Nat).Nodup; decide)) (aSubL_cons rfl (aSubL_cons rfl (aSubL_cons rfl aSubL_nil)))) ?_
      exact ih a0 ha0 (i2 + (I (a0 + 23) j99_3)) (i3 + (1 : Int32)) I _ h
def f251_b43 (kad : Nat → Nat) (N : Nat) (Z : AZ) : Nat → Nat → Int32 → Int32 → AI → Option (Unit × AI)
  | 0, _, _, _, _ => none
  | F + 1, a0, i2, i3, I =>
    if (I a0 47) ≤ i3 then
      f251_b82 kad N Z N a0 i2 (0 : Int32) I
    else
      (ixA 3 i3).bind fun j63_1 =>
      (ixA 256 ((1 : Int32) + i3)).bind fun j64_3 =>
      (wI I (a0 + 24) j64_3 (I (a0 + 22) j63_1)).bind fun I64_2 =>
      (ixA 3 i3).bind fun j71_4 =>
      f251_b43 kad N Z F a0 (i2 + (I64_2 (a0 + 22) j71_4)) (i3 + (1 : Int32)) I64_2
set_option maxRecDepth 20000 in
theorem Tf251_b43 {kad : Nat → Nat} {N : Nat} {Z : AZ} {d : Nat} {t : Option Nat × (Nat × Nat)} (hd : 0 ≤ d) : ∀ (F : Nat) (a0 : Nat) (ha0 : sh11 kad Z a0) (i2 : Int32) (i3 : Int32) (I : AI) (r : Unit × AI), f251_b43 kad N Z F a0 i2 i3 I = some r → aGo kad d 251 (43, ([(0, .ref a0), (2, .int i2), (3, .int i3)], [])) (aMem Z I, t) (qV Z t r) := by
  intro F
  induction F with
  | zero => intro a0 ha0 i2 i3 I r h; cases h
  | succ F ih =>
    intro a0 ha0 i2 i3 I r h
    unfold f251_b43 at h
    refine go_ops aMi251 2 _ (f1 := (45, ([(0, .ref a0), (2, .int i2), (3, .int i3)], [.ref a0, .int i3]))) rfl ?_
    refine gg_gI aMi251 rfl rfl rfl (gI_of (sh11_z ha0)) ?_
    refine gg_br (b := decide ((I a0 47) ≤ i3)) (tg := 80) (off := 32) aMi251 rfl rfl rfl rfl (fun hb => ?_) (fun hb => ?_)
    · rw [if_pos (of_decide_eq_true hb)] at h
      refine go_ops aMi251 2 _ (f1 := (82, ([(3, .int (0 : Int32)), (0, .ref a0), (2, .int i2)], []))) rfl ?_
      refine go_le (lv1 := [(0, .ref a0), (2, .int i2), (3, .int (0 : Int32))]) (aLe_of (show (List.map (fun q => q.1) ([(0, .ref a0), (2, .int i2), (3, .int (0 : Int32))] : ALv)).Nodup from (by show ([0, 2, 3] : List Nat).Nodup; decide)) (aSubL_cons rfl (aSubL_cons rfl (aSubL_cons rfl aSubL_nil)))) ?_
      exact Tf251_b82 hd N a0 ha0 i2 (0 : Int32) I _ h
    · rw [if_neg (of_decide_eq_false hb)] at h
      refine go_ops aMi251 1 _ (f1 := (52, ([(0, .ref a0), (2, .int i2), (3, .int i3)], [.ref a0]))) rfl ?_
      refine gg_gR (b := (a0 + 24)) aMi251 rfl rfl rfl (gR_of (sh11_z ha0) (sh11_r50 ha0)) ?_
      refine go_ops aMi251 4 _ (f1 := (59, ([(0, .ref a0), (2, .int i2), (3, .int i3)], [.ref a0, .int ((1 : Int32) + i3), .ref (a0 + 24)]))) rfl ?_
      refine gg_gR (b := (a0 + 22)) aMi251 rfl rfl rfl (gR_of (sh11_z ha0) (sh11_r48 ha0)) ?_
      refine go_ops aMi251 1 _ (f1 := (63, ([(0, .ref a0), (2, .int i2), (3, .int i3)], [.int i3, .ref (a0 + 22), .int ((1 : Int32) + i3), .ref (a0 + 24)]))) rfl ?_
      obtain ⟨j63_1, hxj63_1, h⟩ := Option.bind_eq_some_iff.mp h
      refine gg_lI (Or.inl ⟨rfl, rfl⟩) aMi251 rfl (lI_of (sh11_a48 ha0) hxj63_1) ?_
      obtain ⟨j64_3, hxj64_3, h⟩ := Option.bind_eq_some_iff.mp h
      obtain ⟨I64_2, hxI64_2, h⟩ := Option.bind_eq_some_iff.mp h
      refine gg_sI (Or.inl ⟨rfl, rfl⟩) aMi251 rfl (sI_of (sh11_a50 ha0) hxj64_3 hxI64_2) ?_
      refine go_ops aMi251 2 _ (f1 := (67, ([(0, .ref a0), (2, .int i2), (3, .int i3)], [.ref a0, .int i2]))) rfl ?_
      refine gg_gR (b := (a0 + 22)) aMi251 rfl rfl rfl (gR_of (sh11_z ha0) (sh11_r48 ha0)) ?_
      refine go_ops aMi251 1 _ (f1 := (71, ([(0, .ref a0), (2, .int i2), (3, .int i3)], [.int i3, .ref (a0 + 22), .int i2]))) rfl ?_
      obtain ⟨j71_4, hxj71_4, h⟩ := Option.bind_eq_some_iff.mp h
      refine gg_lI (Or.inl ⟨rfl, rfl⟩) aMi251 rfl (lI_of (sh11_a48 ha0) hxj71_4) ?_
      refine go_ops aMi251 4 _ (f1 := (43, ([(3, .int (i3 + (1 : Int32))), (2, .int (i2 + (I64_2 (a0 + 22) j71_4))), (0, .ref a0)], []))) rfl ?_
      refine go_le (lv1 := [(0, .ref a0), (2, .int (i2 + (I64_2 (a0 + 22) j71_4))), (3, .int (i3 + (1 : Int32)))]) (aLe_of (show (List.map (fun q => q.1) ([(0, .ref a0), (2, .int (i2 + (I64_2 (a0 + 22) j71_4))), (3, .int (i3 + (1 : Int32)))] : ALv)).Nodup from (by show ([0, 2, 3] : List Nat).Nodup; decide)) (aSubL_cons rfl (aSubL_cons rfl (aSubL_cons rfl aSubL_nil)))) ?_
      exact ih a0 ha0 (i2 + (I64_2 (a0 + 22) j71_4)) (i3 + (1 : Int32)) I64_2 _ h
def f251_b2 (kad : Nat → Nat) (N : Nat) (Z : AZ) : Nat → Nat → Int32 → Int32 → AI → Option (Unit × AI)
  | 0, _, _, _, _ => none
  | F + 1, a0, i1, i2, I =>
    if (8 : Int32) ≤ i2 then
      if ¬ i1 = 0 then
        (ixA 256 (0 : Int32)).bind fun j40_2 =>
        (wI I (a0 + 24) j40_2 (I a0 47)).bind fun I40_1 =>
        f251_b43 kad N Z N a0 (I a0 47) (0 : Int32) I40_1
      else
        some ((), I)
    else
      (ixA 256 i2).bind fun j14_4 =>
      (wI I (a0 + 24) j14_4 (0 : Int32)).bind fun I14_3 =>
      f251_b2 kad N Z F a0 i1 (i2 + (1 : Int32)) I14_3
set_option maxRecDepth 20000 in
theorem Tf251_b2 {kad : Nat → Nat} {N : Nat} {Z : AZ} {d : Nat} {t : Option Nat × (Nat × Nat)} (hd : 0 ≤ d) : ∀ (F : Nat) (a0 : Nat) (ha0 : sh11 kad Z a0) (i1 : Int32) (i2 : Int32) (I : AI) (r : Unit × AI), f251_b2 kad N Z F a0 i1 i2 I = some r → aGo kad d 251 (2, ([(0, .ref a0), (1, .int i1), (2, .int i2)], [])) (aMem Z I, t) (qV Z t r) := by
  intro F
  induction F with
  | zero => intro a0 ha0 i1 i2 I r h; cases h
  | succ F ih =>
    intro a0 ha0 i1 i2 I r h
    unfold f251_b2 at h
    refine go_ops aMi251 2 _ (f1 := (5, ([(0, .ref a0), (1, .int i1), (2, .int i2)], [.int (8 : Int32), .int i2]))) rfl ?_
    refine gg_br (b := decide ((8 : Int32) ≤ i2)) (tg := 21) (off := 16) aMi251 rfl rfl rfl rfl (fun hb => ?_) (fun hb => ?_)
    · rw [if_pos (of_decide_eq_true hb)] at h
      refine go_ops aMi251 1 _ (f1 := (22, ([(0, .ref a0), (1, .int i1), (2, .int i2)], [.int i1]))) rfl ?_
      refine gg_br (b := decide (¬ i1 = 0)) (tg := 26) (off := 4) aMi251 rfl rfl rfl rfl (fun hb => ?_) (fun hb => ?_)
      · rw [if_pos (of_decide_eq_true hb)] at h
        refine go_ops aMi251 1 _ (f1 := (27, ([(0, .ref a0), (1, .int i1), (2, .int i2)], [.ref a0]))) rfl ?_
        refine gg_gI aMi251 rfl rfl rfl (gI_of (sh11_z ha0)) ?_
        refine go_ops aMi251 2 _ (f1 := (32, ([(2, .int (I a0 47)), (0, .ref a0), (1, .int i1)], [.ref a0]))) rfl ?_
        refine gg_gR (b := (a0 + 24)) aMi251 rfl rfl rfl (gR_of (sh11_z ha0) (sh11_r50 ha0)) ?_
        refine go_ops aMi251 2 _ (f1 := (37, ([(2, .int (I a0 47)), (0, .ref a0), (1, .int i1)], [.ref a0, .int (0 : Int32), .ref (a0 + 24)]))) rfl ?_
        refine gg_gI aMi251 rfl rfl rfl (gI_of (sh11_z ha0)) ?_
        obtain ⟨j40_2, hxj40_2, h⟩ := Option.bind_eq_some_iff.mp h
        obtain ⟨I40_1, hxI40_1, h⟩ := Option.bind_eq_some_iff.mp h
        refine gg_sI (Or.inl ⟨rfl, rfl⟩) aMi251 rfl (sI_of (sh11_a50 ha0) hxj40_2 hxI40_1) ?_
        refine go_ops aMi251 2 _ (f1 := (43, ([(3, .int (0 : Int32)), (2, .int (I a0 47)), (0, .ref a0), (1, .int i1)], []))) rfl ?_
        refine go_le (lv1 := [(0, .ref a0), (2, .int (I a0 47)), (3, .int (0 : Int32))]) (aLe_of (show (List.map (fun q => q.1) ([(0, .ref a0), (2, .int (I a0 47)), (3, .int (0 : Int32))] : ALv)).Nodup from (by show ([0, 2, 3] : List Nat).Nodup; decide)) (aSubL_cons rfl (aSubL_cons rfl (aSubL_cons rfl aSubL_nil)))) ?_
        exact Tf251_b43 hd N a0 ha0 (I a0 47) (0 : Int32) I40_1 _ h
      · rw [if_neg (of_decide_eq_false hb)] at h
        cases h
        exact go_ret aMi251 rfl rfl ⟨rfl, rfl⟩
    · rw [if_neg (of_decide_eq_false hb)] at h
      refine go_ops aMi251 1 _ (f1 := (9, ([(0, .ref a0), (1, .int i1), (2, .int i2)], [.ref a0]))) rfl ?_
      refine gg_gR (b := (a0 + 24)) aMi251 rfl rfl rfl (gR_of (sh11_z ha0) (sh11_r50 ha0)) ?_
      refine go_ops aMi251 2 _ (f1 := (14, ([(0, .ref a0), (1, .int i1), (2, .int i2)], [.int (0 : Int32), .int i2, .ref (a0 + 24)]))) rfl ?_
      obtain ⟨j14_4, hxj14_4, h⟩ := Option.bind_eq_some_iff.mp h
      obtain ⟨I14_3, hxI14_3, h⟩ := Option.bind_eq_some_iff.mp h
      refine gg_sI (Or.inl ⟨rfl, rfl⟩) aMi251 rfl (sI_of (sh11_a50 ha0) hxj14_4 hxI14_3) ?_
      refine go_ops aMi251 2 _ (f1 := (2, ([(2, .int (i2 + (1 : Int32))), (0, .ref a0), (1, .int i1)], []))) rfl ?_
      refine go_le (lv1 := [(0, .ref a0), (1, .int i1), (2, .int (i2 + (1 : Int32)))]) (aLe_of (show (List.map (fun q => q.1) ([(0, .ref a0), (1, .int i1), (2, .int (i2 + (1 : Int32)))] : ALv)).Nodup from (by show ([0, 1, 2] : List Nat).Nodup; decide)) (aSubL_cons rfl (aSubL_cons rfl (aSubL_cons rfl aSubL_nil)))) ?_
      exact ih a0 ha0 i1 (i2 + (1 : Int32)) I14_3 _ h
def f251 (kad : Nat → Nat) (N : Nat) (Z : AZ) (a0 : Nat) (i1 : Int32) (I : AI) : Option (Unit × AI) :=
  f251_b2 kad N Z N a0 i1 (0 : Int32) I
set_option maxRecDepth 20000 in
theorem Tf251 {kad : Nat → Nat} {N : Nat} {Z : AZ} {d : Nat} {t : Option Nat × (Nat × Nat)} (hd : 0 ≤ d) : ∀ (a0 : Nat) (ha0 : sh11 kad Z a0) (i1 : Int32) (I : AI) (r : Unit × AI), f251 kad N Z a0 i1 I = some r → aGo kad d 251 (0, ([(0, .ref a0), (1, .int i1)], [])) (aMem Z I, t) (qV Z t r) := by
  intro a0 ha0 i1 I r h
  unfold f251 at h
  refine go_ops aMi251 2 _ (f1 := (2, ([(2, .int (0 : Int32)), (0, .ref a0), (1, .int i1)], []))) rfl ?_
  refine go_le (lv1 := [(0, .ref a0), (1, .int i1), (2, .int (0 : Int32))]) (aLe_of (show (List.map (fun q => q.1) ([(0, .ref a0), (1, .int i1), (2, .int (0 : Int32))] : ALv)).Nodup from (by show ([0, 1, 2] : List Nat).Nodup; decide)) (aSubL_cons rfl (aSubL_cons rfl (aSubL_cons rfl aSubL_nil)))) ?_
  exact Tf251_b2 hd N a0 ha0 i1 (0 : Int32) I _ h
-- KernelGymModel.writesBlock ()V
def f250_b180 (kad : Nat → Nat) (N : Nat) (Z : AZ) (a0 : Nat) (I : AI) : Option (Unit × AI) :=
  some ((), I)
set_option maxRecDepth 20000 in
theorem Tf250_b180 {kad : Nat → Nat} {N : Nat} {Z : AZ} {d : Nat} {t : Option Nat × (Nat × Nat)} (hd : 1 ≤ d) : ∀ (a0 : Nat) (ha0 : sh11 kad Z a0) (I : AI) (r : Unit × AI), f250_b180 kad N Z a0 I = some r → aGo kad d 250 (180, ([], [])) (aMem Z I, t) (qV Z t r) := by
  intro a0 ha0 I r h
  unfold f250_b180 at h
  cases h
  exact go_ret aMi250 rfl rfl ⟨rfl, rfl⟩
def f250_b156 (kad : Nat → Nat) (N : Nat) (Z : AZ) (a0 : Nat) (I : AI) : Option (Unit × AI) :=
  if ¬ (I a0 46) = 0 then
    f250_b180 kad N Z a0 I
  else
    (ixA 4 (3 : Int32)).bind fun j169_2 =>
    (wI I (a0 + 16) j169_2 (0 : Int32)).bind fun I169_1 =>
    (wI I169_1 a0 27 ((I169_1 a0 27) + (2 : Int32))).bind fun I177_3 =>
    f250_b180 kad N Z a0 I177_3
set_option maxRecDepth 20000 in
theorem Tf250_b156 {kad : Nat → Nat} {N : Nat} {Z : AZ} {d : Nat} {t : Option Nat × (Nat × Nat)} (hd : 1 ≤ d) : ∀ (a0 : Nat) (ha0 : sh11 kad Z a0) (I : AI) (r : Unit × AI), f250_b156 kad N Z a0 I = some r → aGo kad d 250 (156, ([(0, .ref a0)], [])) (aMem Z I, t) (qV Z t r) := by
  intro a0 ha0 I r h
  unfold f250_b156 at h
  refine go_ops aMi250 1 _ (f1 := (157, ([(0, .ref a0)], [.ref a0]))) rfl ?_
  refine gg_gI aMi250 rfl rfl rfl (gI_of (sh11_z ha0)) ?_
  refine gg_br (b := decide (¬ (I a0 46) = 0)) (tg := 180) (off := 20) aMi250 rfl rfl rfl rfl (fun hb => ?_) (fun hb => ?_)
  · rw [if_pos (of_decide_eq_true hb)] at h
    refine go_le (lv1 := []) (aLe_of (show (List.map (fun q => q.1) ([] : ALv)).Nodup from (by show ([] : List Nat).Nodup; decide)) aSubL_nil) ?_
    exact Tf250_b180 hd a0 ha0 I _ h
  · rw [if_neg (of_decide_eq_false hb)] at h
    refine go_ops aMi250 1 _ (f1 := (164, ([(0, .ref a0)], [.ref a0]))) rfl ?_
    refine gg_gR (b := (a0 + 16)) aMi250 rfl rfl rfl (gR_of (sh11_z ha0) (sh11_r26 ha0)) ?_
    refine go_ops aMi250 2 _ (f1 := (169, ([(0, .ref a0)], [.int (0 : Int32), .int (3 : Int32), .ref (a0 + 16)]))) rfl ?_
    obtain ⟨j169_2, hxj169_2, h⟩ := Option.bind_eq_some_iff.mp h
    obtain ⟨I169_1, hxI169_1, h⟩ := Option.bind_eq_some_iff.mp h
    refine gg_sI (Or.inl ⟨rfl, rfl⟩) aMi250 rfl (sI_of (sh11_a26 ha0) hxj169_2 hxI169_1) ?_
    refine go_ops aMi250 2 _ (f1 := (172, ([(0, .ref a0)], [.ref a0, .ref a0]))) rfl ?_
    refine gg_gI aMi250 rfl rfl rfl (gI_of (sh11_z ha0)) ?_
    refine go_ops aMi250 2 _ (f1 := (177, ([(0, .ref a0)], [.int ((I169_1 a0 27) + (2 : Int32)), .ref a0]))) rfl ?_
    obtain ⟨I177_3, hxI177_3, h⟩ := Option.bind_eq_some_iff.mp h
    refine gg_pI aMi250 rfl rfl rfl rfl (by decide) (pI_of (sh11_z ha0) hxI177_3) ?_
    refine go_le (lv1 := []) (aLe_of (show (List.map (fun q => q.1) ([] : ALv)).Nodup from (by show ([] : List Nat).Nodup; decide)) aSubL_nil) ?_
    exact Tf250_b180 hd a0 ha0 I177_3 _ h
def f250_b68 (kad : Nat → Nat) (N : Nat) (Z : AZ) (a0 : Nat) (s0 : Int32) (I : AI) : Option (Unit × AI) :=
  (f251 kad N Z a0 s0 I).bind fun r68_1 =>
  f250_b156 kad N Z a0 r68_1.2
set_option maxRecDepth 20000 in
theorem Tf250_b68 {kad : Nat → Nat} {N : Nat} {Z : AZ} {d : Nat} {t : Option Nat × (Nat × Nat)} (hd : 1 ≤ d) : ∀ (a0 : Nat) (ha0 : sh11 kad Z a0) (s0 : Int32) (I : AI) (r : Unit × AI), f250_b68 kad N Z a0 s0 I = some r → aGo kad d 250 (68, ([(0, .ref a0)], [.int s0, .ref a0])) (aMem Z I, t) (qV Z t r) := by
  intro a0 ha0 s0 I r h
  unfold f250_b68 at h
  obtain ⟨r68_1, hxr68_1, h⟩ := Option.bind_eq_some_iff.mp h
  refine gg_cv (as := [.int s0]) (r := []) aMi250 rfl rfl rfl aMi251 (Nat.le_of_ble_eq_true rfl) rfl (Nat.le_of_ble_eq_true rfl) (Nat.le_of_ble_eq_true rfl) (by omega) (isK_of (sh11_z ha0)) (Tf251 (by omega) a0 ha0 s0 I _ hxr68_1) ?_
  show aGo kad d 250 (71, ([(0, .ref a0)], [])) (aMem Z r68_1.2, t) _
  refine go_ops aMi250 1 _ (f1 := (156, ([(0, .ref a0)], []))) rfl ?_
  exact Tf250_b156 hd a0 ha0 r68_1.2 _ h
def f250_b54 (kad : Nat → Nat) (N : Nat) (Z : AZ) (a0 : Nat) (i1 : Int32) (I : AI) : Option (Unit × AI) :=
  if ¬ i1 = (I a0 47) then
    f250_b68 kad N Z a0 (0 : Int32) I
  else
    f250_b68 kad N Z a0 (1 : Int32) I
set_option maxRecDepth 20000 in
theorem Tf250_b54 {kad : Nat → Nat} {N : Nat} {Z : AZ} {d : Nat} {t : Option Nat × (Nat × Nat)} (hd : 1 ≤ d) : ∀ (a0 : Nat) (ha0 : sh11 kad Z a0) (i1 : Int32) (I : AI) (r : Unit × AI), f250_b54 kad N Z a0 i1 I = some r → aGo kad d 250 (54, ([(0, .ref a0), (1, .int i1)], [])) (aMem Z I, t) (qV Z t r) := by
  intro a0 ha0 i1 I r h
  unfold f250_b54 at h
  refine go_ops aMi250 3 _ (f1 := (57, ([(0, .ref a0), (1, .int i1)], [.ref a0, .int i1, .ref a0]))) rfl ?_
  refine gg_gI aMi250 rfl rfl rfl (gI_of (sh11_z ha0)) ?_
  refine gg_br (b := decide (¬ i1 = (I a0 47))) (tg := 67) (off := 7) aMi250 rfl rfl rfl rfl (fun hb => ?_) (fun hb => ?_)
  · rw [if_pos (of_decide_eq_true hb)] at h
    refine go_ops aMi250 1 _ (f1 := (68, ([(0, .ref a0), (1, .int i1)], [.int (0 : Int32), .ref a0]))) rfl ?_
    refine go_le (lv1 := [(0, .ref a0)]) (aLe_of (show (List.map (fun q => q.1) ([(0, .ref a0)] : ALv)).Nodup from (by show ([0] : List Nat).Nodup; decide)) (aSubL_cons rfl aSubL_nil)) ?_
    exact Tf250_b68 hd a0 ha0 (0 : Int32) I _ h
  · rw [if_neg (of_decide_eq_false hb)] at h
    refine go_ops aMi250 2 _ (f1 := (68, ([(0, .ref a0), (1, .int i1)], [.int (1 : Int32), .ref a0]))) rfl ?_
    refine go_le (lv1 := [(0, .ref a0)]) (aLe_of (show (List.map (fun q => q.1) ([(0, .ref a0)] : ALv)).Nodup from (by show ([0] : List Nat).Nodup; decide)) (aSubL_cons rfl aSubL_nil)) ?_
    exact Tf250_b68 hd a0 ha0 (1 : Int32) I _ h
def f250_b119 (kad : Nat → Nat) (N : Nat) (Z : AZ) : Nat → Nat → Int32 → Int32 → Int32 → AI → Option (Unit × AI)
  | 0, _, _, _, _, _ => none
  | F + 1, a0, i2, i3, i4, I =>
    if (8 : Int32) ≤ i4 then
      f250_b156 kad N Z a0 I
    else
      (ixA 24 (((8 : Int32) * i2) + i4)).bind fun j148_1 =>
      (ixA 256 (((8 : Int32) * i3) + i4)).bind fun j149_3 =>
      (wI I (a0 + 24) j149_3 (I (a0 + 23) j148_1)).bind fun I149_2 =>
      f250_b119 kad N Z F a0 i2 i3 (i4 + (1 : Int32)) I149_2
set_option maxRecDepth 20000 in
theorem Tf250_b119 {kad : Nat → Nat} {N : Nat} {Z : AZ} {d : Nat} {t : Option Nat × (Nat × Nat)} (hd : 1 ≤ d) : ∀ (F : Nat) (a0 : Nat) (ha0 : sh11 kad Z a0) (i2 : Int32) (i3 : Int32) (i4 : Int32) (I : AI) (r : Unit × AI), f250_b119 kad N Z F a0 i2 i3 i4 I = some r → aGo kad d 250 (119, ([(0, .ref a0), (2, .int i2), (3, .int i3), (4, .int i4)], [])) (aMem Z I, t) (qV Z t r) := by
  intro F
  induction F with
  | zero => intro a0 ha0 i2 i3 i4 I r h; cases h
  | succ F ih =>
    intro a0 ha0 i2 i3 i4 I r h
    unfold f250_b119 at h
    refine go_ops aMi250 2 _ (f1 := (123, ([(0, .ref a0), (2, .int i2), (3, .int i3), (4, .int i4)], [.int (8 : Int32), .int i4]))) rfl ?_
    refine gg_br (b := decide ((8 : Int32) ≤ i4)) (tg := 156) (off := 33) aMi250 rfl rfl rfl rfl (fun hb => ?_) (fun hb => ?_)
    · rw [if_pos (of_decide_eq_true hb)] at h
      refine go_le (lv1 := [(0, .ref a0)]) (aLe_of (show (List.map (fun q => q.1) ([(0, .ref a0)] : ALv)).Nodup from (by show ([0] : List Nat).Nodup; decide)) (aSubL_cons rfl aSubL_nil)) ?_
      exact Tf250_b156 hd a0 ha0 I _ h
    · rw [if_neg (of_decide_eq_false hb)] at h
      refine go_ops aMi250 1 _ (f1 := (127, ([(0, .ref a0), (2, .int i2), (3, .int i3), (4, .int i4)], [.ref a0]))) rfl ?_
      refine gg_gR (b := (a0 + 24)) aMi250 rfl rfl rfl (gR_of (sh11_z ha0) (sh11_r50 ha0)) ?_
      refine go_ops aMi250 6 _ (f1 := (138, ([(0, .ref a0), (2, .int i2), (3, .int i3), (4, .int i4)], [.ref a0, .int (((8 : Int32) * i3) + i4), .ref (a0 + 24)]))) rfl ?_
      refine gg_gR (b := (a0 + 23)) aMi250 rfl rfl rfl (gR_of (sh11_z ha0) (sh11_r49 ha0)) ?_
      refine go_ops aMi250 5 _ (f1 := (148, ([(0, .ref a0), (2, .int i2), (3, .int i3), (4, .int i4)], [.int (((8 : Int32) * i2) + i4), .ref (a0 + 23), .int (((8 : Int32) * i3) + i4), .ref (a0 + 24)]))) rfl ?_
      obtain ⟨j148_1, hxj148_1, h⟩ := Option.bind_eq_some_iff.mp h
      refine gg_lI (Or.inl ⟨rfl, rfl⟩) aMi250 rfl (lI_of (sh11_a49 ha0) hxj148_1) ?_
      obtain ⟨j149_3, hxj149_3, h⟩ := Option.bind_eq_some_iff.mp h
      obtain ⟨I149_2, hxI149_2, h⟩ := Option.bind_eq_some_iff.mp h
      refine gg_sI (Or.inl ⟨rfl, rfl⟩) aMi250 rfl (sI_of (sh11_a50 ha0) hxj149_3 hxI149_2) ?_
      refine go_ops aMi250 2 _ (f1 := (119, ([(4, .int (i4 + (1 : Int32))), (0, .ref a0), (2, .int i2), (3, .int i3)], []))) rfl ?_
      refine go_le (lv1 := [(0, .ref a0), (2, .int i2), (3, .int i3), (4, .int (i4 + (1 : Int32)))]) (aLe_of (show (List.map (fun q => q.1) ([(0, .ref a0), (2, .int i2), (3, .int i3), (4, .int (i4 + (1 : Int32)))] : ALv)).Nodup from (by show ([0, 2, 3, 4] : List Nat).Nodup; decide)) (aSubL_cons rfl (aSubL_cons rfl (aSubL_cons rfl (aSubL_cons rfl aSubL_nil))))) ?_
      exact ih a0 ha0 i2 i3 (i4 + (1 : Int32)) I149_2 _ h
def f250_b115 (kad : Nat → Nat) (N : Nat) (Z : AZ) (a0 : Nat) (i2 : Int32) (s0 : Int32) (I : AI) : Option (Unit × AI) :=
  f250_b119 kad N Z N a0 i2 s0 (0 : Int32) I
set_option maxRecDepth 20000 in
theorem Tf250_b115 {kad : Nat → Nat} {N : Nat} {Z : AZ} {d : Nat} {t : Option Nat × (Nat × Nat)} (hd : 1 ≤ d) : ∀ (a0 : Nat) (ha0 : sh11 kad Z a0) (i2 : Int32) (s0 : Int32) (I : AI) (r : Unit × AI), f250_b115 kad N Z a0 i2 s0 I = some r → aGo kad d 250 (115, ([(0, .ref a0), (2, .int i2)], [.int s0])) (aMem Z I, t) (qV Z t r) := by
  intro a0 ha0 i2 s0 I r h
  unfold f250_b115 at h
  refine go_ops aMi250 3 _ (f1 := (119, ([(4, .int (0 : Int32)), (3, .int s0), (0, .ref a0), (2, .int i2)], []))) rfl ?_
  refine go_le (lv1 := [(0, .ref a0), (2, .int i2), (3, .int s0), (4, .int (0 : Int32))]) (aLe_of (show (List.map (fun q => q.1) ([(0, .ref a0), (2, .int i2), (3, .int s0), (4, .int (0 : Int32))] : ALv)).Nodup from (by show ([0, 2, 3, 4] : List Nat).Nodup; decide)) (aSubL_cons rfl (aSubL_cons rfl (aSubL_cons rfl (aSubL_cons rfl aSubL_nil))))) ?_
  exact Tf250_b119 hd N a0 ha0 i2 s0 (0 : Int32) I _ h
def f250_b94 (kad : Nat → Nat) (N : Nat) (Z : AZ) (a0 : Nat) (i1 : Int32) (s0 : Int32) (I : AI) : Option (Unit × AI) :=
  if (I a0 47) ≤ i1 then
    (ixA 3 s0).bind fun j114_1 =>
    f250_b115 kad N Z a0 s0 (I (a0 + 22) j114_1) I
  else
    f250_b115 kad N Z a0 s0 ((1 : Int32) + i1) I
set_option maxRecDepth 20000 in
theorem Tf250_b94 {kad : Nat → Nat} {N : Nat} {Z : AZ} {d : Nat} {t : Option Nat × (Nat × Nat)} (hd : 1 ≤ d) : ∀ (a0 : Nat) (ha0 : sh11 kad Z a0) (i1 : Int32) (s0 : Int32) (I : AI) (r : Unit × AI), f250_b94 kad N Z a0 i1 s0 I = some r → aGo kad d 250 (94, ([(0, .ref a0), (1, .int i1)], [.int s0])) (aMem Z I, t) (qV Z t r) := by
  intro a0 ha0 i1 s0 I r h
  unfold f250_b94 at h
  refine go_ops aMi250 3 _ (f1 := (97, ([(2, .int s0), (0, .ref a0), (1, .int i1)], [.ref a0, .int i1]))) rfl ?_
  refine gg_gI aMi250 rfl rfl rfl (gI_of (sh11_z ha0)) ?_
  refine gg_br (b := decide ((I a0 47) ≤ i1)) (tg := 109) (off := 9) aMi250 rfl rfl rfl rfl (fun hb => ?_) (fun hb => ?_)
  · rw [if_pos (of_decide_eq_true hb)] at h
    refine go_ops aMi250 1 _ (f1 := (110, ([(2, .int s0), (0, .ref a0), (1, .int i1)], [.ref a0]))) rfl ?_
    refine gg_gR (b := (a0 + 22)) aMi250 rfl rfl rfl (gR_of (sh11_z ha0) (sh11_r48 ha0)) ?_
    refine go_ops aMi250 1 _ (f1 := (114, ([(2, .int s0), (0, .ref a0), (1, .int i1)], [.int s0, .ref (a0 + 22)]))) rfl ?_
    obtain ⟨j114_1, hxj114_1, h⟩ := Option.bind_eq_some_iff.mp h
    refine gg_lI (Or.inl ⟨rfl, rfl⟩) aMi250 rfl (lI_of (sh11_a48 ha0) hxj114_1) ?_
    refine go_le (lv1 := [(0, .ref a0), (2, .int s0)]) (aLe_of (show (List.map (fun q => q.1) ([(0, .ref a0), (2, .int s0)] : ALv)).Nodup from (by show ([0, 2] : List Nat).Nodup; decide)) (aSubL_cons rfl (aSubL_cons rfl aSubL_nil))) ?_
    exact Tf250_b115 hd a0 ha0 s0 (I (a0 + 22) j114_1) I _ h
  · rw [if_neg (of_decide_eq_false hb)] at h
    refine go_ops aMi250 4 _ (f1 := (115, ([(2, .int s0), (0, .ref a0), (1, .int i1)], [.int ((1 : Int32) + i1)]))) rfl ?_
    refine go_le (lv1 := [(0, .ref a0), (2, .int s0)]) (aLe_of (show (List.map (fun q => q.1) ([(0, .ref a0), (2, .int s0)] : ALv)).Nodup from (by show ([0, 2] : List Nat).Nodup; decide)) (aSubL_cons rfl (aSubL_cons rfl aSubL_nil))) ?_
    exact Tf250_b115 hd a0 ha0 s0 ((1 : Int32) + i1) I _ h
def f250 (kad : Nat → Nat) (N : Nat) (Z : AZ) (a0 : Nat) (I : AI) : Option (Unit × AI) :=
  (wI I a0 46 ((I a0 46) - (1 : Int32))).bind fun I21_1 =>
  (wI I21_1 a0 52 ((I21_1 a0 52) + (1 : Int32))).bind fun I31_2 =>
  if ((((2 : Int32) * (I a0 47)) + (2 : Int32)) - (I a0 46)) = (I31_2 a0 47) then
    f250_b54 kad N Z a0 ((((2 : Int32) * (I a0 47)) + (2 : Int32)) - (I a0 46)) I31_2
  else
    if ¬ ((((2 : Int32) * (I a0 47)) + (2 : Int32)) - (I a0 46)) = (((2 : Int32) * (I31_2 a0 47)) + (1 : Int32)) then
      if (I31_2 a0 47) ≤ ((((2 : Int32) * (I a0 47)) + (2 : Int32)) - (I a0 46)) then
        f250_b94 kad N Z a0 ((((2 : Int32) * (I a0 47)) + (2 : Int32)) - (I a0 46)) ((((((2 : Int32) * (I a0 47)) + (2 : Int32)) - (I a0 46)) - (I31_2 a0 47)) - (1 : Int32)) I31_2
      else
        f250_b94 kad N Z a0 ((((2 : Int32) * (I a0 47)) + (2 : Int32)) - (I a0 46)) ((((2 : Int32) * (I a0 47)) + (2 : Int32)) - (I a0 46)) I31_2
    else
      f250_b54 kad N Z a0 ((((2 : Int32) * (I a0 47)) + (2 : Int32)) - (I a0 46)) I31_2
set_option maxRecDepth 20000 in
theorem Tf250 {kad : Nat → Nat} {N : Nat} {Z : AZ} {d : Nat} {t : Option Nat × (Nat × Nat)} (hd : 1 ≤ d) : ∀ (a0 : Nat) (ha0 : sh11 kad Z a0) (I : AI) (r : Unit × AI), f250 kad N Z a0 I = some r → aGo kad d 250 (0, ([(0, .ref a0)], [])) (aMem Z I, t) (qV Z t r) := by
  intro a0 ha0 I r h
  unfold f250 at h
  refine go_ops aMi250 2 _ (f1 := (2, ([(0, .ref a0)], [.ref a0, .int (2 : Int32)]))) rfl ?_
  refine gg_gI aMi250 rfl rfl rfl (gI_of (sh11_z ha0)) ?_
  refine go_ops aMi250 4 _ (f1 := (9, ([(0, .ref a0)], [.ref a0, .int (((2 : Int32) * (I a0 47)) + (2 : Int32))]))) rfl ?_
  refine gg_gI aMi250 rfl rfl rfl (gI_of (sh11_z ha0)) ?_
  refine go_ops aMi250 4 _ (f1 := (16, ([(1, .int ((((2 : Int32) * (I a0 47)) + (2 : Int32)) - (I a0 46))), (0, .ref a0)], [.ref a0, .ref a0]))) rfl ?_
  refine gg_gI aMi250 rfl rfl rfl (gI_of (sh11_z ha0)) ?_
  refine go_ops aMi250 2 _ (f1 := (21, ([(1, .int ((((2 : Int32) * (I a0 47)) + (2 : Int32)) - (I a0 46))), (0, .ref a0)], [.int ((I a0 46) - (1 : Int32)), .ref a0]))) rfl ?_
  obtain ⟨I21_1, hxI21_1, h⟩ := Option.bind_eq_some_iff.mp h
  refine gg_pI aMi250 rfl rfl rfl rfl (by decide) (pI_of (sh11_z ha0) hxI21_1) ?_
  refine go_ops aMi250 2 _ (f1 := (26, ([(1, .int ((((2 : Int32) * (I a0 47)) + (2 : Int32)) - (I a0 46))), (0, .ref a0)], [.ref a0, .ref a0]))) rfl ?_
  refine gg_gI aMi250 rfl rfl rfl (gI_of (sh11_z ha0)) ?_
  refine go_ops aMi250 2 _ (f1 := (31, ([(1, .int ((((2 : Int32) * (I a0 47)) + (2 : Int32)) - (I a0 46))), (0, .ref a0)], [.int ((I21_1 a0 52) + (1 : Int32)), .ref a0]))) rfl ?_
  obtain ⟨I31_2, hxI31_2, h⟩ := Option.bind_eq_some_iff.mp h
  refine gg_pI aMi250 rfl rfl rfl rfl (by decide) (pI_of (sh11_z ha0) hxI31_2) ?_
  refine go_ops aMi250 2 _ (f1 := (36, ([(1, .int ((((2 : Int32) * (I a0 47)) + (2 : Int32)) - (I a0 46))), (0, .ref a0)], [.ref a0, .int ((((2 : Int32) * (I a0 47)) + (2 : Int32)) - (I a0 46))]))) rfl ?_
  refine gg_gI aMi250 rfl rfl rfl (gI_of (sh11_z ha0)) ?_
  refine gg_br (b := decide (((((2 : Int32) * (I a0 47)) + (2 : Int32)) - (I a0 46)) = (I31_2 a0 47))) (tg := 54) (off := 15) aMi250 rfl rfl rfl rfl (fun hb => ?_) (fun hb => ?_)
  · rw [if_pos (of_decide_eq_true hb)] at h
    refine go_le (lv1 := [(0, .ref a0), (1, .int ((((2 : Int32) * (I a0 47)) + (2 : Int32)) - (I a0 46)))]) (aLe_of (show (List.map (fun q => q.1) ([(0, .ref a0), (1, .int ((((2 : Int32) * (I a0 47)) + (2 : Int32)) - (I a0 46)))] : ALv)).Nodup from (by show ([0, 1] : List Nat).Nodup; decide)) (aSubL_cons rfl (aSubL_cons rfl aSubL_nil))) ?_
    exact Tf250_b54 hd a0 ha0 ((((2 : Int32) * (I a0 47)) + (2 : Int32)) - (I a0 46)) I31_2 _ h
  · rw [if_neg (of_decide_eq_false hb)] at h
    refine go_ops aMi250 3 _ (f1 := (45, ([(1, .int ((((2 : Int32) * (I a0 47)) + (2 : Int32)) - (I a0 46))), (0, .ref a0)], [.ref a0, .int (2 : Int32), .int ((((2 : Int32) * (I a0 47)) + (2 : Int32)) - (I a0 46))]))) rfl ?_
    refine gg_gI aMi250 rfl rfl rfl (gI_of (sh11_z ha0)) ?_
    refine go_ops aMi250 3 _ (f1 := (51, ([(1, .int ((((2 : Int32) * (I a0 47)) + (2 : Int32)) - (I a0 46))), (0, .ref a0)], [.int (((2 : Int32) * (I31_2 a0 47)) + (1 : Int32)), .int ((((2 : Int32) * (I a0 47)) + (2 : Int32)) - (I a0 46))]))) rfl ?_
    refine gg_br (b := decide (¬ ((((2 : Int32) * (I a0 47)) + (2 : Int32)) - (I a0 46)) = (((2 : Int32) * (I31_2 a0 47)) + (1 : Int32)))) (tg := 74) (off := 23) aMi250 rfl rfl rfl rfl (fun hb => ?_) (fun hb => ?_)
    · rw [if_pos (of_decide_eq_true hb)] at h
      refine go_ops aMi250 2 _ (f1 := (76, ([(1, .int ((((2 : Int32) * (I a0 47)) + (2 : Int32)) - (I a0 46))), (0, .ref a0)], [.ref a0, .int ((((2 : Int32) * (I a0 47)) + (2 : Int32)) - (I a0 46))]))) rfl ?_
      refine gg_gI aMi250 rfl rfl rfl (gI_of (sh11_z ha0)) ?_
      refine gg_br (b := decide ((I31_2 a0 47) ≤ ((((2 : Int32) * (I a0 47)) + (2 : Int32)) - (I a0 46)))) (tg := 86) (off := 7) aMi250 rfl rfl rfl rfl (fun hb => ?_) (fun hb => ?_)
      · rw [if_pos (of_decide_eq_true hb)] at h
        refine go_ops aMi250 2 _ (f1 := (88, ([(1, .int ((((2 : Int32) * (I a0 47)) + (2 : Int32)) - (I a0 46))), (0, .ref a0)], [.ref a0, .int ((((2 : Int32) * (I a0 47)) + (2 : Int32)) - (I a0 46))]))) rfl ?_
        refine gg_gI aMi250 rfl rfl rfl (gI_of (sh11_z ha0)) ?_
        refine go_ops aMi250 3 _ (f1 := (94, ([(1, .int ((((2 : Int32) * (I a0 47)) + (2 : Int32)) - (I a0 46))), (0, .ref a0)], [.int ((((((2 : Int32) * (I a0 47)) + (2 : Int32)) - (I a0 46)) - (I31_2 a0 47)) - (1 : Int32))]))) rfl ?_
        refine go_le (lv1 := [(0, .ref a0), (1, .int ((((2 : Int32) * (I a0 47)) + (2 : Int32)) - (I a0 46)))]) (aLe_of (show (List.map (fun q => q.1) ([(0, .ref a0), (1, .int ((((2 : Int32) * (I a0 47)) + (2 : Int32)) - (I a0 46)))] : ALv)).Nodup from (by show ([0, 1] : List Nat).Nodup; decide)) (aSubL_cons rfl (aSubL_cons rfl aSubL_nil))) ?_
        exact Tf250_b94 hd a0 ha0 ((((2 : Int32) * (I a0 47)) + (2 : Int32)) - (I a0 46)) ((((((2 : Int32) * (I a0 47)) + (2 : Int32)) - (I a0 46)) - (I31_2 a0 47)) - (1 : Int32)) I31_2 _ h
      · rw [if_neg (of_decide_eq_false hb)] at h
        refine go_ops aMi250 2 _ (f1 := (94, ([(1, .int ((((2 : Int32) * (I a0 47)) + (2 : Int32)) - (I a0 46))), (0, .ref a0)], [.int ((((2 : Int32) * (I a0 47)) + (2 : Int32)) - (I a0 46))]))) rfl ?_
        refine go_le (lv1 := [(0, .ref a0), (1, .int ((((2 : Int32) * (I a0 47)) + (2 : Int32)) - (I a0 46)))]) (aLe_of (show (List.map (fun q => q.1) ([(0, .ref a0), (1, .int ((((2 : Int32) * (I a0 47)) + (2 : Int32)) - (I a0 46)))] : ALv)).Nodup from (by show ([0, 1] : List Nat).Nodup; decide)) (aSubL_cons rfl (aSubL_cons rfl aSubL_nil))) ?_
        exact Tf250_b94 hd a0 ha0 ((((2 : Int32) * (I a0 47)) + (2 : Int32)) - (I a0 46)) ((((2 : Int32) * (I a0 47)) + (2 : Int32)) - (I a0 46)) I31_2 _ h
    · rw [if_neg (of_decide_eq_false hb)] at h
      refine go_le (lv1 := [(0, .ref a0), (1, .int ((((2 : Int32) * (I a0 47)) + (2 : Int32)) - (I a0 46)))]) (aLe_of (show (List.map (fun q => q.1) ([(0, .ref a0), (1, .int ((((2 : Int32) * (I a0 47)) + (2 : Int32)) - (I a0 46)))] : ALv)).Nodup from (by show ([0, 1] : List Nat).Nodup; decide)) (aSubL_cons rfl (aSubL_cons rfl aSubL_nil))) ?_
      exact Tf250_b54 hd a0 ha0 ((((2 : Int32) * (I a0 47)) + (2 : Int32)) - (I a0 46)) I31_2 _ h
-- KernelGymModel.stepsOnce ()V
def f234_b153 (kad : Nat → Nat) (N : Nat) (Z : AZ) (a0 : Nat) (I : AI) : Option (Unit × AI) :=
  (f224 kad N Z a0 I).bind fun r154_1 =>
  some ((), r154_1.2)
set_option maxRecDepth 20000 in
theorem Tf234_b153 {kad : Nat → Nat} {N : Nat} {Z : AZ} {d : Nat} {t : Option Nat × (Nat × Nat)} (hd : 6 ≤ d) : ∀ (a0 : Nat) (ha0 : sh11 kad Z a0) (I : AI) (r : Unit × AI), f234_b153 kad N Z a0 I = some r → aGo kad d 234 (153, ([(0, .ref a0)], [])) (aMem Z I, t) (qV Z t r) := by
  intro a0 ha0 I r h
  unfold f234_b153 at h
  refine go_ops aMi234 1 _ (f1 := (154, ([(0, .ref a0)], [.ref a0]))) rfl ?_
  obtain ⟨r154_1, hxr154_1, h⟩ := Option.bind_eq_some_iff.mp h
  refine gg_cv (as := []) (r := []) aMi234 rfl rfl rfl aMi224 (Nat.le_of_ble_eq_true rfl) rfl (Nat.le_of_ble_eq_true rfl) (Nat.le_of_ble_eq_true rfl) (by omega) (isK_of (sh11_z ha0)) (Tf224 (by omega) a0 ha0 I _ hxr154_1) ?_
  show aGo kad d 234 (157, ([(0, .ref a0)], [])) (aMem Z r154_1.2, t) _
  cases h
  exact go_ret aMi234 rfl rfl ⟨rfl, rfl⟩
def f234_b150 (kad : Nat → Nat) (N : Nat) (Z : AZ) (a0 : Nat) (s0 : Int32) (I : AI) : Option (Unit × AI) :=
  (wI I a0 35 s0).bind fun I150_1 =>
  f234_b153 kad N Z a0 I150_1
set_option maxRecDepth 20000 in
theorem Tf234_b150 {kad : Nat → Nat} {N : Nat} {Z : AZ} {d : Nat} {t : Option Nat × (Nat × Nat)} (hd : 6 ≤ d) : ∀ (a0 : Nat) (ha0 : sh11 kad Z a0) (s0 : Int32) (I : AI) (r : Unit × AI), f234_b150 kad N Z a0 s0 I = some r → aGo kad d 234 (150, ([(0, .ref a0)], [.int s0, .ref a0])) (aMem Z I, t) (qV Z t r) := by
  intro a0 ha0 s0 I r h
  unfold f234_b150 at h
  obtain ⟨I150_1, hxI150_1, h⟩ := Option.bind_eq_some_iff.mp h
  refine gg_pI aMi234 rfl rfl rfl rfl (by decide) (pI_of (sh11_z ha0) hxI150_1) ?_
  exact Tf234_b153 hd a0 ha0 I150_1 _ h
def f234_b127 (kad : Nat → Nat) (N : Nat) (Z : AZ) (a0 : Nat) (s0 : Int32) (I : AI) : Option (Unit × AI) :=
  (wB I a0 32 s0).bind fun I127_1 =>
  if ¬ (I127_1 a0 35) = (I127_1 a0 34) then
    f234_b150 kad N Z a0 (I127_1 a0 35) I127_1
  else
    f234_b150 kad N Z a0 (0 : Int32) I127_1
set_option maxRecDepth 20000 in
theorem Tf234_b127 {kad : Nat → Nat} {N : Nat} {Z : AZ} {d : Nat} {t : Option Nat × (Nat × Nat)} (hd : 6 ≤ d) : ∀ (a0 : Nat) (ha0 : sh11 kad Z a0) (s0 : Int32) (I : AI) (r : Unit × AI), f234_b127 kad N Z a0 s0 I = some r → aGo kad d 234 (127, ([(0, .ref a0)], [.int s0, .ref a0])) (aMem Z I, t) (qV Z t r) := by
  intro a0 ha0 s0 I r h
  unfold f234_b127 at h
  obtain ⟨I127_1, hxI127_1, h⟩ := Option.bind_eq_some_iff.mp h
  refine gg_pB aMi234 rfl rfl rfl rfl (by decide) (pB_of (sh11_z ha0) hxI127_1) ?_
  refine go_ops aMi234 2 _ (f1 := (132, ([(0, .ref a0)], [.ref a0, .ref a0]))) rfl ?_
  refine gg_gI aMi234 rfl rfl rfl (gI_of (sh11_z ha0)) ?_
  refine go_ops aMi234 1 _ (f1 := (136, ([(0, .ref a0)], [.ref a0, .int (I127_1 a0 35), .ref a0]))) rfl ?_
  refine gg_gI aMi234 rfl rfl rfl (gI_of (sh11_z ha0)) ?_
  refine gg_br (b := decide (¬ (I127_1 a0 35) = (I127_1 a0 34))) (tg := 146) (off := 7) aMi234 rfl rfl rfl rfl (fun hb => ?_) (fun hb => ?_)
  · rw [if_pos (of_decide_eq_true hb)] at h
    refine go_ops aMi234 1 _ (f1 := (147, ([(0, .ref a0)], [.ref a0, .ref a0]))) rfl ?_
    refine gg_gI aMi234 rfl rfl rfl (gI_of (sh11_z ha0)) ?_
    exact Tf234_b150 hd a0 ha0 (I127_1 a0 35) I127_1 _ h
  · rw [if_neg (of_decide_eq_false hb)] at h
    refine go_ops aMi234 2 _ (f1 := (150, ([(0, .ref a0)], [.int (0 : Int32), .ref a0]))) rfl ?_
    exact Tf234_b150 hd a0 ha0 (0 : Int32) I127_1 _ h
def f234_b122 (kad : Nat → Nat) (N : Nat) (Z : AZ) (a0 : Nat) (I : AI) : Option (Unit × AI) :=
  f234_b127 kad N Z a0 (1 : Int32) I
set_option maxRecDepth 20000 in
theorem Tf234_b122 {kad : Nat → Nat} {N : Nat} {Z : AZ} {d : Nat} {t : Option Nat × (Nat × Nat)} (hd : 6 ≤ d) : ∀ (a0 : Nat) (ha0 : sh11 kad Z a0) (I : AI) (r : Unit × AI), f234_b122 kad N Z a0 I = some r → aGo kad d 234 (122, ([(0, .ref a0)], [.ref a0])) (aMem Z I, t) (qV Z t r) := by
  intro a0 ha0 I r h
  unfold f234_b122 at h
  refine go_ops aMi234 2 _ (f1 := (127, ([(0, .ref a0)], [.int (1 : Int32), .ref a0]))) rfl ?_
  exact Tf234_b127 hd a0 ha0 (1 : Int32) I _ h
def f234_b76 (kad : Nat → Nat) (N : Nat) (Z : AZ) (a0 : Nat) (I : AI) : Option (Unit × AI) :=
  (wI I a0 38 ((I a0 38) + (1 : Int32))).bind fun I83_1 =>
  if (I83_1 a0 34) ≤ 0 then
    f234_b153 kad N Z a0 I83_1
  else
    (wI I83_1 a0 35 ((I83_1 a0 35) + (1 : Int32))).bind fun I100_2 =>
    if ¬ (I100_2 a0 32) = 0 then
      f234_b122 kad N Z a0 I100_2
    else
      if ¬ (I100_2 a0 35) = (I100_2 a0 34) then
        f234_b127 kad N Z a0 (0 : Int32) I100_2
      else
        f234_b122 kad N Z a0 I100_2
set_option maxRecDepth 20000 in
theorem Tf234_b76 {kad : Nat → Nat} {N : Nat} {Z : AZ} {d : Nat} {t : Option Nat × (Nat × Nat)} (hd : 6 ≤ d) : ∀ (a0 : Nat) (ha0 : sh11 kad Z a0) (I : AI) (r : Unit × AI), f234_b76 kad N Z a0 I = some r → aGo kad d 234 (76, ([(0, .ref a0)], [])) (aMem Z I, t) (qV Z t r) := by
  intro a0 ha0 I r h
  unfold f234_b76 at h
  refine go_ops aMi234 2 _ (f1 := (78, ([(0, .ref a0)], [.ref a0, .ref a0]))) rfl ?_
  refine gg_gI aMi234 rfl rfl rfl (gI_of (sh11_z ha0)) ?_
  refine go_ops aMi234 2 _ (f1 := (83, ([(0, .ref a0)], [.int ((I a0 38) + (1 : Int32)), .ref a0]))) rfl ?_
  obtain ⟨I83_1, hxI83_1, h⟩ := Option.bind_eq_some_iff.mp h
  refine gg_pI aMi234 rfl rfl rfl rfl (by decide) (pI_of (sh11_z ha0) hxI83_1) ?_
  refine go_ops aMi234 1 _ (f1 := (87, ([(0, .ref a0)], [.ref a0]))) rfl ?_
  refine gg_gI aMi234 rfl rfl rfl (gI_of (sh11_z ha0)) ?_
  refine gg_br (b := decide ((I83_1 a0 34) ≤ 0)) (tg := 153) (off := 63) aMi234 rfl rfl rfl rfl (fun hb => ?_) (fun hb => ?_)
  · rw [if_pos (of_decide_eq_true hb)] at h
    exact Tf234_b153 hd a0 ha0 I83_1 _ h
  · rw [if_neg (of_decide_eq_false hb)] at h
    refine go_ops aMi234 2 _ (f1 := (95, ([(0, .ref a0)], [.ref a0, .ref a0]))) rfl ?_
    refine gg_gI aMi234 rfl rfl rfl (gI_of (sh11_z ha0)) ?_
    refine go_ops aMi234 2 _ (f1 := (100, ([(0, .ref a0)], [.int ((I83_1 a0 35) + (1 : Int32)), .ref a0]))) rfl ?_
    obtain ⟨I100_2, hxI100_2, h⟩ := Option.bind_eq_some_iff.mp h
    refine gg_pI aMi234 rfl rfl rfl rfl (by decide) (pI_of (sh11_z ha0) hxI100_2) ?_
    refine go_ops aMi234 2 _ (f1 := (105, ([(0, .ref a0)], [.ref a0, .ref a0]))) rfl ?_
    refine gg_gI aMi234 rfl rfl rfl (gI_of (sh11_z ha0)) ?_
    refine gg_br (b := decide (¬ (I100_2 a0 32) = 0)) (tg := 122) (off := 14) aMi234 rfl rfl rfl rfl (fun hb => ?_) (fun hb => ?_)
    · rw [if_pos (of_decide_eq_true hb)] at h
      exact Tf234_b122 hd a0 ha0 I100_2 _ h
    · rw [if_neg (of_decide_eq_false hb)] at h
      refine go_ops aMi234 1 _ (f1 := (112, ([(0, .ref a0)], [.ref a0, .ref a0]))) rfl ?_
      refine gg_gI aMi234 rfl rfl rfl (gI_of (sh11_z ha0)) ?_
      refine go_ops aMi234 1 _ (f1 := (116, ([(0, .ref a0)], [.ref a0, .int (I100_2 a0 35), .ref a0]))) rfl ?_
      refine gg_gI aMi234 rfl rfl rfl (gI_of (sh11_z ha0)) ?_
      refine gg_br (b := decide (¬ (I100_2 a0 35) = (I100_2 a0 34))) (tg := 126) (off := 7) aMi234 rfl rfl rfl rfl (fun hb => ?_) (fun hb => ?_)
      · rw [if_pos (of_decide_eq_true hb)] at h
        refine go_ops aMi234 1 _ (f1 := (127, ([(0, .ref a0)], [.int (0 : Int32), .ref a0]))) rfl ?_
        exact Tf234_b127 hd a0 ha0 (0 : Int32) I100_2 _ h
      · rw [if_neg (of_decide_eq_false hb)] at h
        exact Tf234_b122 hd a0 ha0 I100_2 _ h
def f234_b65 (kad : Nat → Nat) (N : Nat) (Z : AZ) (a0 : Nat) (I : AI) : Option (Unit × AI) :=
  (f226 kad N Z a0 I).bind fun r66_1 =>
  f234_b76 kad N Z a0 r66_1.2
set_option maxRecDepth 20000 in
theorem Tf234_b65 {kad : Nat → Nat} {N : Nat} {Z : AZ} {d : Nat} {t : Option Nat × (Nat × Nat)} (hd : 6 ≤ d) : ∀ (a0 : Nat) (ha0 : sh11 kad Z a0) (I : AI) (r : Unit × AI), f234_b65 kad N Z a0 I = some r → aGo kad d 234 (65, ([(0, .ref a0)], [])) (aMem Z I, t) (qV Z t r) := by
  intro a0 ha0 I r h
  unfold f234_b65 at h
  refine go_ops aMi234 1 _ (f1 := (66, ([(0, .ref a0)], [.ref a0]))) rfl ?_
  obtain ⟨r66_1, hxr66_1, h⟩ := Option.bind_eq_some_iff.mp h
  refine gg_cv (as := []) (r := []) aMi234 rfl rfl rfl aMi226 (Nat.le_of_ble_eq_true rfl) rfl (Nat.le_of_ble_eq_true rfl) (Nat.le_of_ble_eq_true rfl) (by omega) (isK_of (sh11_z ha0)) (Tf226 (by omega) a0 ha0 I _ hxr66_1) ?_
  show aGo kad d 234 (69, ([(0, .ref a0)], [])) (aMem Z r66_1.2, t) _
  refine go_ops aMi234 1 _ (f1 := (76, ([(0, .ref a0)], []))) rfl ?_
  exact Tf234_b76 hd a0 ha0 r66_1.2 _ h
def f234_b72 (kad : Nat → Nat) (N : Nat) (Z : AZ) (a0 : Nat) (I : AI) : Option (Unit × AI) :=
  (f228 kad N Z a0 I).bind fun r73_1 =>
  f234_b76 kad N Z a0 r73_1.2
set_option maxRecDepth 20000 in
theorem Tf234_b72 {kad : Nat → Nat} {N : Nat} {Z : AZ} {d : Nat} {t : Option Nat × (Nat × Nat)} (hd : 6 ≤ d) : ∀ (a0 : Nat) (ha0 : sh11 kad Z a0) (I : AI) (r : Unit × AI), f234_b72 kad N Z a0 I = some r → aGo kad d 234 (72, ([(0, .ref a0)], [])) (aMem Z I, t) (qV Z t r) := by
  intro a0 ha0 I r h
  unfold f234_b72 at h
  refine go_ops aMi234 1 _ (f1 := (73, ([(0, .ref a0)], [.ref a0]))) rfl ?_
  obtain ⟨r73_1, hxr73_1, h⟩ := Option.bind_eq_some_iff.mp h
  refine gg_cv (as := []) (r := []) aMi234 rfl rfl rfl aMi228 (Nat.le_of_ble_eq_true rfl) rfl (Nat.le_of_ble_eq_true rfl) (Nat.le_of_ble_eq_true rfl) (by omega) (isK_of (sh11_z ha0)) (Tf228 (by omega) a0 ha0 I _ hxr73_1) ?_
  show aGo kad d 234 (76, ([(0, .ref a0)], [])) (aMem Z r73_1.2, t) _
  exact Tf234_b76 hd a0 ha0 r73_1.2 _ h
def f234_b30 (kad : Nat → Nat) (N : Nat) (Z : AZ) (a0 : Nat) (I : AI) : Option (Unit × AI) :=
  if (I a0 46) ≤ 0 then
    if (I a0 31) = 0 then
      f234_b72 kad N Z a0 I
    else
      if ¬ (I a0 32) = 0 then
        f234_b65 kad N Z a0 I
      else
        if (I a0 33) = 0 then
          f234_b72 kad N Z a0 I
        else
          f234_b65 kad N Z a0 I
  else
    (f250 kad N Z a0 I).bind fun r38_1 =>
    f234_b76 kad N Z a0 r38_1.2
set_option maxRecDepth 20000 in
theorem Tf234_b30 {kad : Nat → Nat} {N : Nat} {Z : AZ} {d : Nat} {t : Option Nat × (Nat × Nat)} (hd : 6 ≤ d) : ∀ (a0 : Nat) (ha0 : sh11 kad Z a0) (I : AI) (r : Unit × AI), f234_b30 kad N Z a0 I = some r → aGo kad d 234 (30, ([(0, .ref a0)], [])) (aMem Z I, t) (qV Z t r) := by
  intro a0 ha0 I r h
  unfold f234_b30 at h
  refine go_ops aMi234 1 _ (f1 := (31, ([(0, .ref a0)], [.ref a0]))) rfl ?_
  refine gg_gI aMi234 rfl rfl rfl (gI_of (sh11_z ha0)) ?_
  refine gg_br (b := decide ((I a0 46) ≤ 0)) (tg := 44) (off := 10) aMi234 rfl rfl rfl rfl (fun hb => ?_) (fun hb => ?_)
  · rw [if_pos (of_decide_eq_true hb)] at h
    refine go_ops aMi234 1 _ (f1 := (45, ([(0, .ref a0)], [.ref a0]))) rfl ?_
    refine gg_gI aMi234 rfl rfl rfl (gI_of (sh11_z ha0)) ?_
    refine gg_br (b := decide ((I a0 31) = 0)) (tg := 72) (off := 24) aMi234 rfl rfl rfl rfl (fun hb => ?_) (fun hb => ?_)
    · rw [if_pos (of_decide_eq_true hb)] at h
      exact Tf234_b72 hd a0 ha0 I _ h
    · rw [if_neg (of_decide_eq_false hb)] at h
      refine go_ops aMi234 1 _ (f1 := (52, ([(0, .ref a0)], [.ref a0]))) rfl ?_
      refine gg_gI aMi234 rfl rfl rfl (gI_of (sh11_z ha0)) ?_
      refine gg_br (b := decide (¬ (I a0 32) = 0)) (tg := 65) (off := 10) aMi234 rfl rfl rfl rfl (fun hb => ?_) (fun hb => ?_)
      · rw [if_pos (of_decide_eq_true hb)] at h
        exact Tf234_b65 hd a0 ha0 I _ h
      · rw [if_neg (of_decide_eq_false hb)] at h
        refine go_ops aMi234 1 _ (f1 := (59, ([(0, .ref a0)], [.ref a0]))) rfl ?_
        refine gg_gI aMi234 rfl rfl rfl (gI_of (sh11_z ha0)) ?_
        refine gg_br (b := decide ((I a0 33) = 0)) (tg := 72) (off := 10) aMi234 rfl rfl rfl rfl (fun hb => ?_) (fun hb => ?_)
        · rw [if_pos (of_decide_eq_true hb)] at h
          exact Tf234_b72 hd a0 ha0 I _ h
        · rw [if_neg (of_decide_eq_false hb)] at h
          exact Tf234_b65 hd a0 ha0 I _ h
  · rw [if_neg (of_decide_eq_false hb)] at h
    refine go_ops aMi234 1 _ (f1 := (38, ([(0, .ref a0)], [.ref a0]))) rfl ?_
    obtain ⟨r38_1, hxr38_1, h⟩ := Option.bind_eq_some_iff.mp h
    refine gg_cv (as := []) (r := []) aMi234 rfl rfl rfl aMi250 (Nat.le_of_ble_eq_true rfl) rfl (Nat.le_of_ble_eq_true rfl) (Nat.le_of_ble_eq_true rfl) (by omega) (isK_of (sh11_z ha0)) (Tf250 (by omega) a0 ha0 I _ hxr38_1) ?_
    show aGo kad d 234 (41, ([(0, .ref a0)], [])) (aMem Z r38_1.2, t) _
    refine go_ops aMi234 1 _ (f1 := (76, ([(0, .ref a0)], []))) rfl ?_
    exact Tf234_b76 hd a0 ha0 r38_1.2 _ h
def f234 (kad : Nat → Nat) (N : Nat) (Z : AZ) (a0 : Nat) (I : AI) : Option (Unit × AI) :=
  if (1000 : Int32) ≤ (I a0 38) then
    f234_b30 kad N Z a0 I
  else
    (ixA 1000 (I a0 38)).bind fun j19_2 =>
    (wI I (a0 + 20) j19_2 (Int32.ofInt (-1))).bind fun I19_1 =>
    (ixA 1000 (I19_1 a0 38)).bind fun j29_4 =>
    (wI I19_1 (a0 + 21) j29_4 (Int32.ofInt (-1))).bind fun I29_3 =>
    f234_b30 kad N Z a0 I29_3
set_option maxRecDepth 20000 in
theorem Tf234 {kad : Nat → Nat} {N : Nat} {Z : AZ} {d : Nat} {t : Option Nat × (Nat × Nat)} (hd : 6 ≤ d) : ∀ (a0 : Nat) (ha0 : sh11 kad Z a0) (I : AI) (r : Unit × AI), f234 kad N Z a0 I = some r → aGo kad d 234 (0, ([(0, .ref a0)], [])) (aMem Z I, t) (qV Z t r) := by
  intro a0 ha0 I r h
  unfold f234 at h
  refine go_ops aMi234 1 _ (f1 := (1, ([(0, .ref a0)], [.ref a0]))) rfl ?_
  refine gg_gI aMi234 rfl rfl rfl (gI_of (sh11_z ha0)) ?_
  refine go_ops aMi234 1 _ (f1 := (7, ([(0, .ref a0)], [.int (1000 : Int32), .int (I a0 38)]))) rfl ?_
  refine gg_br (b := decide ((1000 : Int32) ≤ (I a0 38))) (tg := 30) (off := 23) aMi234 rfl rfl rfl rfl (fun hb => ?_) (fun hb => ?_)
  · rw [if_pos (of_decide_eq_true hb)] at h
    exact Tf234_b30 hd a0 ha0 I _ h
  · rw [if_neg (of_decide_eq_false hb)] at h
    refine go_ops aMi234 1 _ (f1 := (11, ([(0, .ref a0)], [.ref a0]))) rfl ?_
    refine gg_gR (b := (a0 + 20)) aMi234 rfl rfl rfl (gR_of (sh11_z ha0) (sh11_r44 ha0)) ?_
    refine go_ops aMi234 1 _ (f1 := (15, ([(0, .ref a0)], [.ref a0, .ref (a0 + 20)]))) rfl ?_
    refine gg_gI aMi234 rfl rfl rfl (gI_of (sh11_z ha0)) ?_
    refine go_ops aMi234 1 _ (f1 := (19, ([(0, .ref a0)], [.int (Int32.ofInt (-1)), .int (I a0 38), .ref (a0 + 20)]))) rfl ?_
    obtain ⟨j19_2, hxj19_2, h⟩ := Option.bind_eq_some_iff.mp h
    obtain ⟨I19_1, hxI19_1, h⟩ := Option.bind_eq_some_iff.mp h
    refine gg_sI (Or.inl ⟨rfl, rfl⟩) aMi234 rfl (sI_of (sh11_a44 ha0) hxj19_2 hxI19_1) ?_
    refine go_ops aMi234 1 _ (f1 := (21, ([(0, .ref a0)], [.ref a0]))) rfl ?_
    refine gg_gR (b := (a0 + 21)) aMi234 rfl rfl rfl (gR_of (sh11_z ha0) (sh11_r45 ha0)) ?_
    refine go_ops aMi234 1 _ (f1 := (25, ([(0, .ref a0)], [.ref a0, .ref (a0 + 21)]))) rfl ?_
    refine gg_gI aMi234 rfl rfl rfl (gI_of (sh11_z ha0)) ?_
    refine go_ops aMi234 1 _ (f1 := (29, ([(0, .ref a0)], [.int (Int32.ofInt (-1)), .int (I19_1 a0 38), .ref (a0 + 21)]))) rfl ?_
    obtain ⟨j29_4, hxj29_4, h⟩ := Option.bind_eq_some_iff.mp h
    obtain ⟨I29_3, hxI29_3, h⟩ := Option.bind_eq_some_iff.mp h
    refine gg_sI (Or.inl ⟨rfl, rfl⟩) aMi234 rfl (sI_of (sh11_a45 ha0) hxj29_4 hxI29_3) ?_
    exact Tf234_b30 hd a0 ha0 I29_3 _ h
-- KernelGymModel.checkOfLog ()I
def f252_b30 (kad : Nat → Nat) (N : Nat) (Z : AZ) : Nat → Nat → Int32 → Int32 → AI → Option (Int32 × AI)
  | 0, _, _, _, _ => none
  | F + 1, a0, i1, i2, I =>
    (ixA 256 (0 : Int32)).bind fun j38_1 =>
    if ((8 : Int32) * (I (a0 + 24) j38_1)) ≤ i2 then
      some ((i1 - i1 / (65536 : Int32) * (65536 : Int32)), I)
    else
      (ixA 256 ((8 : Int32) + i2)).bind fun j52_2 =>
      f252_b30 kad N Z F a0 (i1 + (I (a0 + 24) j52_2)) (i2 + (1 : Int32)) I
set_option maxRecDepth 20000 in
theorem Tf252_b30 {kad : Nat → Nat} {N : Nat} {Z : AZ} {d : Nat} {t : Option Nat × (Nat × Nat)} (hd : 0 ≤ d) : ∀ (F : Nat) (a0 : Nat) (ha0 : sh11 kad Z a0) (i1 : Int32) (i2 : Int32) (I : AI) (r : Int32 × AI), f252_b30 kad N Z F a0 i1 i2 I = some r → aGo kad d 252 (30, ([(0, .ref a0), (1, .int i1), (2, .int i2)], [])) (aMem Z I, t) (qI Z t r) := by
  intro F
  induction F with
  | zero => intro a0 ha0 i1 i2 I r h; cases h
  | succ F ih =>
    intro a0 ha0 i1 i2 I r h
    unfold f252_b30 at h
    refine go_ops aMi252 3 _ (f1 := (34, ([(0, .ref a0), (1, .int i1), (2, .int i2)], [.ref a0, .int (8 : Int32), .int i2]))) rfl ?_
    refine gg_gR (b := (a0 + 24)) aMi252 rfl rfl rfl (gR_of (sh11_z ha0) (sh11_r50 ha0)) ?_
    refine go_ops aMi252 1 _ (f1 := (38, ([(0, .ref a0), (1, .int i1), (2, .int i2)], [.int (0 : Int32), .ref (a0 + 24), .int (8 : Int32), .int i2]))) rfl ?_
    obtain ⟨j38_1, hxj38_1, h⟩ := Option.bind_eq_some_iff.mp h
    refine gg_lI (Or.inl ⟨rfl, rfl⟩) aMi252 rfl (lI_of (sh11_a50 ha0) hxj38_1) ?_
    refine go_ops aMi252 1 _ (f1 := (40, ([(0, .ref a0), (1, .int i1), (2, .int i2)], [.int ((8 : Int32) * (I (a0 + 24) j38_1)), .int i2]))) rfl ?_
    refine gg_br (b := decide (((8 : Int32) * (I (a0 + 24) j38_1)) ≤ i2)) (tg := 61) (off := 21) aMi252 rfl rfl rfl rfl (fun hb => ?_) (fun hb => ?_)
    · rw [if_pos (of_decide_eq_true hb)] at h
      refine go_ops aMi252 1 _ (f1 := (62, ([(0, .ref a0), (1, .int i1), (2, .int i2)], [.int i1]))) rfl ?_
      refine gg_kI (Or.inl ⟨rfl, rfl⟩) aMi252 rfl rfl ?_
      refine go_ops aMi252 1 _ (f1 := (65, ([(0, .ref a0), (1, .int i1), (2, .int i2)], [.int (i1 - i1 / (65536 : Int32) * (65536 : Int32))]))) rfl ?_
      cases h
      exact go_ret aMi252 rfl aRetI ⟨rfl, rfl⟩
    · rw [if_neg (of_decide_eq_false hb)] at h
      refine go_ops aMi252 2 _ (f1 := (45, ([(0, .ref a0), (1, .int i1), (2, .int i2)], [.ref a0, .int i1]))) rfl ?_
      refine gg_gR (b := (a0 + 24)) aMi252 rfl rfl rfl (gR_of (sh11_z ha0) (sh11_r50 ha0)) ?_
      refine go_ops aMi252 3 _ (f1 := (52, ([(0, .ref a0), (1, .int i1), (2, .int i2)], [.int ((8 : Int32) + i2), .ref (a0 + 24), .int i1]))) rfl ?_
      obtain ⟨j52_2, hxj52_2, h⟩ := Option.bind_eq_some_iff.mp h
      refine gg_lI (Or.inl ⟨rfl, rfl⟩) aMi252 rfl (lI_of (sh11_a50 ha0) hxj52_2) ?_
      refine go_ops aMi252 4 _ (f1 := (30, ([(2, .int (i2 + (1 : Int32))), (1, .int (i1 + (I (a0 + 24) j52_2))), (0, .ref a0)], []))) rfl ?_
      refine go_le (lv1 := [(0, .ref a0), (1, .int (i1 + (I (a0 + 24) j52_2))), (2, .int (i2 + (1 : Int32)))]) (aLe_of (show (List.map (fun q => q.1) ([(0, .ref a0), (1, .int (i1 + (I (a0 + 24) j52_2))), (2, .int (i2 + (1 : Int32)))] : ALv)).Nodup from (by show ([0, 1, 2] : List Nat).Nodup; decide)) (aSubL_cons rfl (aSubL_cons rfl (aSubL_cons rfl aSubL_nil)))) ?_
      exact ih a0 ha0 (i1 + (I (a0 + 24) j52_2)) (i2 + (1 : Int32)) I _ h
def f252 (kad : Nat → Nat) (N : Nat) (Z : AZ) (a0 : Nat) (I : AI) : Option (Int32 × AI) :=
  (ixA 256 (0 : Int32)).bind fun j5_1 =>
  (ixA 256 (1 : Int32)).bind fun j11_2 =>
  (ixA 256 (2 : Int32)).bind fun j18_3 =>
  (ixA 256 (3 : Int32)).bind fun j25_4 =>
  f252_b30 kad N Z N a0 ((((I (a0 + 24) j5_1) + (I (a0 + 24) j11_2)) + (I (a0 + 24) j18_3)) + (I (a0 + 24) j25_4)) (0 : Int32) I
set_option maxRecDepth 20000 in
theorem Tf252 {kad : Nat → Nat} {N : Nat} {Z : AZ} {d : Nat} {t : Option Nat × (Nat × Nat)} (hd : 0 ≤ d) : ∀ (a0 : Nat) (ha0 : sh11 kad Z a0) (I : AI) (r : Int32 × AI), f252 kad N Z a0 I = some r → aGo kad d 252 (0, ([(0, .ref a0)], [])) (aMem Z I, t) (qI Z t r) := by
  intro a0 ha0 I r h
  unfold f252 at h
  refine go_ops aMi252 1 _ (f1 := (1, ([(0, .ref a0)], [.ref a0]))) rfl ?_
  refine gg_gR (b := (a0 + 24)) aMi252 rfl rfl rfl (gR_of (sh11_z ha0) (sh11_r50 ha0)) ?_
  refine go_ops aMi252 1 _ (f1 := (5, ([(0, .ref a0)], [.int (0 : Int32), .ref (a0 + 24)]))) rfl ?_
  obtain ⟨j5_1, hxj5_1, h⟩ := Option.bind_eq_some_iff.mp h
  refine gg_lI (Or.inl ⟨rfl, rfl⟩) aMi252 rfl (lI_of (sh11_a50 ha0) hxj5_1) ?_
  refine go_ops aMi252 1 _ (f1 := (7, ([(0, .ref a0)], [.ref a0, .int (I (a0 + 24) j5_1)]))) rfl ?_
  refine gg_gR (b := (a0 + 24)) aMi252 rfl rfl rfl (gR_of (sh11_z ha0) (sh11_r50 ha0)) ?_
  refine go_ops aMi252 1 _ (f1 := (11, ([(0, .ref a0)], [.int (1 : Int32), .ref (a0 + 24), .int (I (a0 + 24) j5_1)]))) rfl ?_
  obtain ⟨j11_2, hxj11_2, h⟩ := Option.bind_eq_some_iff.mp h
  refine gg_lI (Or.inl ⟨rfl, rfl⟩) aMi252 rfl (lI_of (sh11_a50 ha0) hxj11_2) ?_
  refine go_ops aMi252 2 _ (f1 := (14, ([(0, .ref a0)], [.ref a0, .int ((I (a0 + 24) j5_1) + (I (a0 + 24) j11_2))]))) rfl ?_
  refine gg_gR (b := (a0 + 24)) aMi252 rfl rfl rfl (gR_of (sh11_z ha0) (sh11_r50 ha0)) ?_
  refine go_ops aMi252 1 _ (f1 := (18, ([(0, .ref a0)], [.int (2 : Int32), .ref (a0 + 24), .int ((I (a0 + 24) j5_1) + (I (a0 + 24) j11_2))]))) rfl ?_
  obtain ⟨j18_3, hxj18_3, h⟩ := Option.bind_eq_some_iff.mp h
  refine gg_lI (Or.inl ⟨rfl, rfl⟩) aMi252 rfl (lI_of (sh11_a50 ha0) hxj18_3) ?_
  refine go_ops aMi252 2 _ (f1 := (21, ([(0, .ref a0)], [.ref a0, .int (((I (a0 + 24) j5_1) + (I (a0 + 24) j11_2)) + (I (a0 + 24) j18_3))]))) rfl ?_
  refine gg_gR (b := (a0 + 24)) aMi252 rfl rfl rfl (gR_of (sh11_z ha0) (sh11_r50 ha0)) ?_
  refine go_ops aMi252 1 _ (f1 := (25, ([(0, .ref a0)], [.int (3 : Int32), .ref (a0 + 24), .int (((I (a0 + 24) j5_1) + (I (a0 + 24) j11_2)) + (I (a0 + 24) j18_3))]))) rfl ?_
  obtain ⟨j25_4, hxj25_4, h⟩ := Option.bind_eq_some_iff.mp h
  refine gg_lI (Or.inl ⟨rfl, rfl⟩) aMi252 rfl (lI_of (sh11_a50 ha0) hxj25_4) ?_
  refine go_ops aMi252 4 _ (f1 := (30, ([(2, .int (0 : Int32)), (1, .int ((((I (a0 + 24) j5_1) + (I (a0 + 24) j11_2)) + (I (a0 + 24) j18_3)) + (I (a0 + 24) j25_4))), (0, .ref a0)], []))) rfl ?_
  refine go_le (lv1 := [(0, .ref a0), (1, .int ((((I (a0 + 24) j5_1) + (I (a0 + 24) j11_2)) + (I (a0 + 24) j18_3)) + (I (a0 + 24) j25_4))), (2, .int (0 : Int32))]) (aLe_of (show (List.map (fun q => q.1) ([(0, .ref a0), (1, .int ((((I (a0 + 24) j5_1) + (I (a0 + 24) j11_2)) + (I (a0 + 24) j18_3)) + (I (a0 + 24) j25_4))), (2, .int (0 : Int32))] : ALv)).Nodup from (by show ([0, 1, 2] : List Nat).Nodup; decide)) (aSubL_cons rfl (aSubL_cons rfl (aSubL_cons rfl aSubL_nil)))) ?_
  exact Tf252_b30 hd N a0 ha0 ((((I (a0 + 24) j5_1) + (I (a0 + 24) j11_2)) + (I (a0 + 24) j18_3)) + (I (a0 + 24) j25_4)) (0 : Int32) I _ h
-- KernelGymModel.mends ()I
def f253_b99 (kad : Nat → Nat) (N : Nat) (Z : AZ) (a0 : Nat) (i1 : Int32) (I : AI) : Option (Int32 × AI) :=
  (f251 kad N Z a0 (0 : Int32) I).bind fun r101_1 =>
  (wI r101_1.2 a0 52 (((r101_1.2) a0 52) + i1)).bind fun I111_2 =>
  some (i1, I111_2)
set_option maxRecDepth 20000 in
theorem Tf253_b99 {kad : Nat → Nat} {N : Nat} {Z : AZ} {d : Nat} {t : Option Nat × (Nat × Nat)} (hd : 1 ≤ d) : ∀ (a0 : Nat) (ha0 : sh11 kad Z a0) (i1 : Int32) (I : AI) (r : Int32 × AI), f253_b99 kad N Z a0 i1 I = some r → aGo kad d 253 (99, ([(0, .ref a0), (1, .int i1)], [])) (aMem Z I, t) (qI Z t r) := by
  intro a0 ha0 i1 I r h
  unfold f253_b99 at h
  refine go_ops aMi253 2 _ (f1 := (101, ([(0, .ref a0), (1, .int i1)], [.int (0 : Int32), .ref a0]))) rfl ?_
  obtain ⟨r101_1, hxr101_1, h⟩ := Option.bind_eq_some_iff.mp h
  refine gg_cv (as := [.int (0 : Int32)]) (r := []) aMi253 rfl rfl rfl aMi251 (Nat.le_of_ble_eq_true rfl) rfl (Nat.le_of_ble_eq_true rfl) (Nat.le_of_ble_eq_true rfl) (by omega) (isK_of (sh11_z ha0)) (Tf251 (by omega) a0 ha0 (0 : Int32) I _ hxr101_1) ?_
  show aGo kad d 253 (104, ([(0, .ref a0), (1, .int i1)], [])) (aMem Z r101_1.2, t) _
  refine go_ops aMi253 2 _ (f1 := (106, ([(0, .ref a0), (1, .int i1)], [.ref a0, .ref a0]))) rfl ?_
  refine gg_gI aMi253 rfl rfl rfl (gI_of (sh11_z ha0)) ?_
  refine go_ops aMi253 2 _ (f1 := (111, ([(0, .ref a0), (1, .int i1)], [.int (((r101_1.2) a0 52) + i1), .ref a0]))) rfl ?_
  obtain ⟨I111_2, hxI111_2, h⟩ := Option.bind_eq_some_iff.mp h
  refine gg_pI aMi253 rfl rfl rfl rfl (by decide) (pI_of (sh11_z ha0) hxI111_2) ?_
  refine go_ops aMi253 1 _ (f1 := (115, ([(0, .ref a0), (1, .int i1)], [.int i1]))) rfl ?_
  cases h
  exact go_ret aMi253 rfl aRetI ⟨rfl, rfl⟩
def f253_b47 (kad : Nat → Nat) (N : Nat) (Z : AZ) : Nat → Nat → Int32 → Int32 → AI → Option (Int32 × AI)
  | 0, _, _, _, _ => none
  | F + 1, a0, i1, i2, I =>
    (ixA 256 (0 : Int32)).bind fun j55_1 =>
    if ((8 : Int32) * (I (a0 + 24) j55_1)) ≤ i2 then
      f253_b99 kad N Z a0 i1 I
    else
      (ixA 256 ((1 : Int32) + (i2 / (8 : Int32)))).bind fun j76_2 =>
      (ixA 256 ((8 : Int32) + i2)).bind fun j91_3 =>
      (ixA 256 (((8 : Int32) * (I (a0 + 24) j76_2)) + (i2 - i2 / (8 : Int32) * (8 : Int32)))).bind fun j92_5 =>
      (wI I (a0 + 24) j92_5 (I (a0 + 24) j91_3)).bind fun I92_4 =>
      f253_b47 kad N Z F a0 i1 (i2 + (1 : Int32)) I92_4
set_option maxRecDepth 20000 in
theorem Tf253_b47 {kad : Nat → Nat} {N : Nat} {Z : AZ} {d : Nat} {t : Option Nat × (Nat × Nat)} (hd : 1 ≤ d) : ∀ (F : Nat) (a0 : Nat) (ha0 : sh11 kad Z a0) (i1 : Int32) (i2 : Int32) (I : AI) (r : Int32 × AI), f253_b47 kad N Z F a0 i1 i2 I = some r → aGo kad d 253 (47, ([(0, .ref a0), (1, .int i1), (2, .int i2)], [])) (aMem Z I, t) (qI Z t r) := by
  intro F
  induction F with
  | zero => intro a0 ha0 i1 i2 I r h; cases h
  | succ F ih =>
    intro a0 ha0 i1 i2 I r h
    unfold f253_b47 at h
    refine go_ops aMi253 3 _ (f1 := (51, ([(0, .ref a0), (1, .int i1), (2, .int i2)], [.ref a0, .int (8 : Int32), .int i2]))) rfl ?_
    refine gg_gR (b := (a0 + 24)) aMi253 rfl rfl rfl (gR_of (sh11_z ha0) (sh11_r50 ha0)) ?_
    refine go_ops aMi253 1 _ (f1 := (55, ([(0, .ref a0), (1, .int i1), (2, .int i2)], [.int (0 : Int32), .ref (a0 + 24), .int (8 : Int32), .int i2]))) rfl ?_
    obtain ⟨j55_1, hxj55_1, h⟩ := Option.bind_eq_some_iff.mp h
    refine gg_lI (Or.inl ⟨rfl, rfl⟩) aMi253 rfl (lI_of (sh11_a50 ha0) hxj55_1) ?_
    refine go_ops aMi253 1 _ (f1 := (57, ([(0, .ref a0), (1, .int i1), (2, .int i2)], [.int ((8 : Int32) * (I (a0 + 24) j55_1)), .int i2]))) rfl ?_
    refine gg_br (b := decide (((8 : Int32) * (I (a0 + 24) j55_1)) ≤ i2)) (tg := 99) (off := 42) aMi253 rfl rfl rfl rfl (fun hb => ?_) (fun hb => ?_)
    · rw [if_pos (of_decide_eq_true hb)] at h
      refine go_le (lv1 := [(0, .ref a0), (1, .int i1)]) (aLe_of (show (List.map (fun q => q.1) ([(0, .ref a0), (1, .int i1)] : ALv)).Nodup from (by show ([0, 1] : List Nat).Nodup; decide)) (aSubL_cons rfl (aSubL_cons rfl aSubL_nil))) ?_
      exact Tf253_b99 hd a0 ha0 i1 I _ h
    · rw [if_neg (of_decide_eq_false hb)] at h
      refine go_ops aMi253 1 _ (f1 := (61, ([(0, .ref a0), (1, .int i1), (2, .int i2)], [.ref a0]))) rfl ?_
      refine gg_gR (b := (a0 + 24)) aMi253 rfl rfl rfl (gR_of (sh11_z ha0) (sh11_r50 ha0)) ?_
      refine go_ops aMi253 2 _ (f1 := (67, ([(0, .ref a0), (1, .int i1), (2, .int i2)], [.ref a0, .int (8 : Int32), .ref (a0 + 24)]))) rfl ?_
      refine gg_gR (b := (a0 + 24)) aMi253 rfl rfl rfl (gR_of (sh11_z ha0) (sh11_r50 ha0)) ?_
      refine go_ops aMi253 5 _ (f1 := (76, ([(0, .ref a0), (1, .int i1), (2, .int i2)], [.int ((1 : Int32) + (i2 / (8 : Int32))), .ref (a0 + 24), .int (8 : Int32), .ref (a0 + 24)]))) rfl ?_
      obtain ⟨j76_2, hxj76_2, h⟩ := Option.bind_eq_some_iff.mp h
      refine gg_lI (Or.inl ⟨rfl, rfl⟩) aMi253 rfl (lI_of (sh11_a50 ha0) hxj76_2) ?_
      refine go_ops aMi253 6 _ (f1 := (84, ([(0, .ref a0), (1, .int i1), (2, .int i2)], [.ref a0, .int (((8 : Int32) * (I (a0 + 24) j76_2)) + (i2 - i2 / (8 : Int32) * (8 : Int32))), .ref (a0 + 24)]))) rfl ?_
      refine gg_gR (b := (a0 + 24)) aMi253 rfl rfl rfl (gR_of (sh11_z ha0) (sh11_r50 ha0)) ?_
      refine go_ops aMi253 3 _ (f1 := (91, ([(0, .ref a0), (1, .int i1), (2, .int i2)], [.int ((8 : Int32) + i2), .ref (a0 + 24), .int (((8 : Int32) * (I (a0 + 24) j76_2)) + (i2 - i2 / (8 : Int32) * (8 : Int32))), .ref (a0 + 24)]))) rfl ?_
      obtain ⟨j91_3, hxj91_3, h⟩ := Option.bind_eq_some_iff.mp h
      refine gg_lI (Or.inl ⟨rfl, rfl⟩) aMi253 rfl (lI_of (sh11_a50 ha0) hxj91_3) ?_
      obtain ⟨j92_5, hxj92_5, h⟩ := Option.bind_eq_some_iff.mp h
      obtain ⟨I92_4, hxI92_4, h⟩ := Option.bind_eq_some_iff.mp h
      refine gg_sI (Or.inl ⟨rfl, rfl⟩) aMi253 rfl (sI_of (sh11_a50 ha0) hxj92_5 hxI92_4) ?_
      refine go_ops aMi253 2 _ (f1 := (47, ([(2, .int (i2 + (1 : Int32))), (0, .ref a0), (1, .int i1)], []))) rfl ?_
      refine go_le (lv1 := [(0, .ref a0), (1, .int i1), (2, .int (i2 + (1 : Int32)))]) (aLe_of (show (List.map (fun q => q.1) ([(0, .ref a0), (1, .int i1), (2, .int (i2 + (1 : Int32)))] : ALv)).Nodup from (by show ([0, 1, 2] : List Nat).Nodup; decide)) (aSubL_cons rfl (aSubL_cons rfl (aSubL_cons rfl aSubL_nil)))) ?_
      exact ih a0 ha0 i1 (i2 + (1 : Int32)) I92_4 _ h
def f253 (kad : Nat → Nat) (N : Nat) (Z : AZ) (a0 : Nat) (I : AI) : Option (Int32 × AI) :=
  (ixA 256 (0 : Int32)).bind fun j5_1 =>
  if ¬ (I (a0 + 24) j5_1) = 0 then
    (ixA 256 (0 : Int32)).bind fun j18_2 =>
    if (3 : Int32) < (I (a0 + 24) j18_2) then
      f253_b99 kad N Z a0 (1 : Int32) I
    else
      (f252 kad N Z a0 I).bind fun r24_3 =>
      (ixA 256 (4 : Int32)).bind fun j32_4 =>
      if ¬ r24_3.1 = (r24_3.2 (a0 + 24) j32_4) then
        f253_b99 kad N Z a0 (1 : Int32) r24_3.2
      else
        (ixA 256 (0 : Int32)).bind fun j42_5 =>
        f253_b47 kad N Z N a0 ((1 : Int32) + (r24_3.2 (a0 + 24) j42_5)) (0 : Int32) r24_3.2
  else
    some ((0 : Int32), I)
set_option maxRecDepth 20000 in
theorem Tf253 {kad : Nat → Nat} {N : Nat} {Z : AZ} {d : Nat} {t : Option Nat × (Nat × Nat)} (hd : 1 ≤ d) : ∀ (a0 : Nat) (ha0 : sh11 kad Z a0) (I : AI) (r : Int32 × AI), f253 kad N Z a0 I = some r → aGo kad d 253 (0, ([(0, .ref a0)], [])) (aMem Z I, t) (qI Z t r) := by
  intro a0 ha0 I r h
  unfold f253 at h
  refine go_ops aMi253 1 _ (f1 := (1, ([(0, .ref a0)], [.ref a0]))) rfl ?_
  refine gg_gR (b := (a0 + 24)) aMi253 rfl rfl rfl (gR_of (sh11_z ha0) (sh11_r50 ha0)) ?_
  refine go_ops aMi253 1 _ (f1 := (5, ([(0, .ref a0)], [.int (0 : Int32), .ref (a0 + 24)]))) rfl ?_
  obtain ⟨j5_1, hxj5_1, h⟩ := Option.bind_eq_some_iff.mp h
  refine gg_lI (Or.inl ⟨rfl, rfl⟩) aMi253 rfl (lI_of (sh11_a50 ha0) hxj5_1) ?_
  refine gg_br (b := decide (¬ (I (a0 + 24) j5_1) = 0)) (tg := 11) (off := 5) aMi253 rfl rfl rfl rfl (fun hb => ?_) (fun hb => ?_)
  · rw [if_pos (of_decide_eq_true hb)] at h
    refine go_ops aMi253 3 _ (f1 := (14, ([(1, .int (1 : Int32)), (0, .ref a0)], [.ref a0]))) rfl ?_
    refine gg_gR (b := (a0 + 24)) aMi253 rfl rfl rfl (gR_of (sh11_z ha0) (sh11_r50 ha0)) ?_
    refine go_ops aMi253 1 _ (f1 := (18, ([(1, .int (1 : Int32)), (0, .ref a0)], [.int (0 : Int32), .ref (a0 + 24)]))) rfl ?_
    obtain ⟨j18_2, hxj18_2, h⟩ := Option.bind_eq_some_iff.mp h
    refine gg_lI (Or.inl ⟨rfl, rfl⟩) aMi253 rfl (lI_of (sh11_a50 ha0) hxj18_2) ?_
    refine go_ops aMi253 1 _ (f1 := (20, ([(1, .int (1 : Int32)), (0, .ref a0)], [.int (3 : Int32), .int (I (a0 + 24) j18_2)]))) rfl ?_
    refine gg_br (b := decide ((3 : Int32) < (I (a0 + 24) j18_2))) (tg := 99) (off := 79) aMi253 rfl rfl rfl rfl (fun hb => ?_) (fun hb => ?_)
    · rw [if_pos (of_decide_eq_true hb)] at h
      refine go_le (lv1 := [(0, .ref a0), (1, .int (1 : Int32))]) (aLe_of (show (List.map (fun q => q.1) ([(0, .ref a0), (1, .int (1 : Int32))] : ALv)).Nodup from (by show ([0, 1] : List Nat).Nodup; decide)) (aSubL_cons rfl (aSubL_cons rfl aSubL_nil))) ?_
      exact Tf253_b99 hd a0 ha0 (1 : Int32) I _ h
    · rw [if_neg (of_decide_eq_false hb)] at h
      refine go_ops aMi253 1 _ (f1 := (24, ([(1, .int (1 : Int32)), (0, .ref a0)], [.ref a0]))) rfl ?_
      obtain ⟨r24_3, hxr24_3, h⟩ := Option.bind_eq_some_iff.mp h
      refine gg_cv (as := []) (r := []) aMi253 rfl rfl rfl aMi252 (Nat.le_of_ble_eq_true rfl) rfl (Nat.le_of_ble_eq_true rfl) (Nat.le_of_ble_eq_true rfl) (by omega) (isK_of (sh11_z ha0)) (Tf252 (by omega) a0 ha0 I _ hxr24_3) ?_
      show aGo kad d 253 (27, ([(1, .int (1 : Int32)), (0, .ref a0)], [.int r24_3.1])) (aMem Z r24_3.2, t) _
      refine go_ops aMi253 1 _ (f1 := (28, ([(1, .int (1 : Int32)), (0, .ref a0)], [.ref a0, .int r24_3.1]))) rfl ?_
      refine gg_gR (b := (a0 + 24)) aMi253 rfl rfl rfl (gR_of (sh11_z ha0) (sh11_r50 ha0)) ?_
      refine go_ops aMi253 1 _ (f1 := (32, ([(1, .int (1 : Int32)), (0, .ref a0)], [.int (4 : Int32), .ref (a0 + 24), .int r24_3.1]))) rfl ?_
      obtain ⟨j32_4, hxj32_4, h⟩ := Option.bind_eq_some_iff.mp h
      refine gg_lI (Or.inl ⟨rfl, rfl⟩) aMi253 rfl (lI_of (sh11_a50 ha0) hxj32_4) ?_
      refine gg_br (b := decide (¬ r24_3.1 = (r24_3.2 (a0 + 24) j32_4))) (tg := 99) (off := 66) aMi253 rfl rfl rfl rfl (fun hb => ?_) (fun hb => ?_)
      · rw [if_pos (of_decide_eq_true hb)] at h
        refine go_le (lv1 := [(0, .ref a0), (1, .int (1 : Int32))]) (aLe_of (show (List.map (fun q => q.1) ([(0, .ref a0), (1, .int (1 : Int32))] : ALv)).Nodup from (by show ([0, 1] : List Nat).Nodup; decide)) (aSubL_cons rfl (aSubL_cons rfl aSubL_nil))) ?_
        exact Tf253_b99 hd a0 ha0 (1 : Int32) r24_3.2 _ h
      · rw [if_neg (of_decide_eq_false hb)] at h
        refine go_ops aMi253 2 _ (f1 := (38, ([(1, .int (1 : Int32)), (0, .ref a0)], [.ref a0, .int (1 : Int32)]))) rfl ?_
        refine gg_gR (b := (a0 + 24)) aMi253 rfl rfl rfl (gR_of (sh11_z ha0) (sh11_r50 ha0)) ?_
        refine go_ops aMi253 1 _ (f1 := (42, ([(1, .int (1 : Int32)), (0, .ref a0)], [.int (0 : Int32), .ref (a0 + 24), .int (1 : Int32)]))) rfl ?_
        obtain ⟨j42_5, hxj42_5, h⟩ := Option.bind_eq_some_iff.mp h
        refine gg_lI (Or.inl ⟨rfl, rfl⟩) aMi253 rfl (lI_of (sh11_a50 ha0) hxj42_5) ?_
        refine go_ops aMi253 4 _ (f1 := (47, ([(2, .int (0 : Int32)), (1, .int ((1 : Int32) + (r24_3.2 (a0 + 24) j42_5))), (0, .ref a0)], []))) rfl ?_
        refine go_le (lv1 := [(0, .ref a0), (1, .int ((1 : Int32) + (r24_3.2 (a0 + 24) j42_5))), (2, .int (0 : Int32))]) (aLe_of (show (List.map (fun q => q.1) ([(0, .ref a0), (1, .int ((1 : Int32) + (r24_3.2 (a0 + 24) j42_5))), (2, .int (0 : Int32))] : ALv)).Nodup from (by show ([0, 1, 2] : List Nat).Nodup; decide)) (aSubL_cons rfl (aSubL_cons rfl (aSubL_cons rfl aSubL_nil)))) ?_
        exact Tf253_b47 hd N a0 ha0 ((1 : Int32) + (r24_3.2 (a0 + 24) j42_5)) (0 : Int32) r24_3.2 _ h
  · rw [if_neg (of_decide_eq_false hb)] at h
    refine go_ops aMi253 1 _ (f1 := (10, ([(0, .ref a0)], [.int (0 : Int32)]))) rfl ?_
    cases h
    exact go_ret aMi253 rfl aRetI ⟨rfl, rfl⟩
-- KernelGymModel.formats ()V
def f254_b2 (kad : Nat → Nat) (N : Nat) (Z : AZ) : Nat → Nat → Int32 → AI → Option (Unit × AI)
  | 0, _, _, _ => none
  | F + 1, a0, i1, I =>
    if (256 : Int32) ≤ i1 then
      (ixA 256 (32 : Int32)).bind fun j31_2 =>
      (wI I (a0 + 24) j31_2 (255 : Int32)).bind fun I31_1 =>
      (wI I31_1 a0 52 (0 : Int32)).bind fun I34_3 =>
      some ((), I34_3)
    else
      (ixA 256 i1).bind fun j15_5 =>
      (wI I (a0 + 24) j15_5 (0 : Int32)).bind fun I15_4 =>
      f254_b2 kad N Z F a0 (i1 + (1 : Int32)) I15_4
set_option maxRecDepth 20000 in
theorem Tf254_b2 {kad : Nat → Nat} {N : Nat} {Z : AZ} {d : Nat} {t : Option Nat × (Nat × Nat)} (hd : 0 ≤ d) : ∀ (F : Nat) (a0 : Nat) (ha0 : sh11 kad Z a0) (i1 : Int32) (I : AI) (r : Unit × AI), f254_b2 kad N Z F a0 i1 I = some r → aGo kad d 254 (2, ([(0, .ref a0), (1, .int i1)], [])) (aMem Z I, t) (qV Z t r) := by
  intro F
  induction F with
  | zero => intro a0 ha0 i1 I r h; cases h
  | succ F ih =>
    intro a0 ha0 i1 I r h
    unfold f254_b2 at h
    refine go_ops aMi254 2 _ (f1 := (6, ([(0, .ref a0), (1, .int i1)], [.int (256 : Int32), .int i1]))) rfl ?_
    refine gg_br (b := decide ((256 : Int32) ≤ i1)) (tg := 22) (off := 16) aMi254 rfl rfl rfl rfl (fun hb => ?_) (fun hb => ?_)
    · rw [if_pos (of_decide_eq_true hb)] at h
      refine go_ops aMi254 1 _ (f1 := (23, ([(0, .ref a0), (1, .int i1)], [.ref a0]))) rfl ?_
      refine gg_gR (b := (a0 + 24)) aMi254 rfl rfl rfl (gR_of (sh11_z ha0) (sh11_r50 ha0)) ?_
      refine go_ops aMi254 2 _ (f1 := (31, ([(0, .ref a0), (1, .int i1)], [.int (255 : Int32), .int (32 : Int32), .ref (a0 + 24)]))) rfl ?_
      obtain ⟨j31_2, hxj31_2, h⟩ := Option.bind_eq_some_iff.mp h
      obtain ⟨I31_1, hxI31_1, h⟩ := Option.bind_eq_some_iff.mp h
      refine gg_sI (Or.inl ⟨rfl, rfl⟩) aMi254 rfl (sI_of (sh11_a50 ha0) hxj31_2 hxI31_1) ?_
      refine go_ops aMi254 2 _ (f1 := (34, ([(0, .ref a0), (1, .int i1)], [.int (0 : Int32), .ref a0]))) rfl ?_
      obtain ⟨I34_3, hxI34_3, h⟩ := Option.bind_eq_some_iff.mp h
      refine gg_pI aMi254 rfl rfl rfl rfl (by decide) (pI_of (sh11_z ha0) hxI34_3) ?_
      cases h
      exact go_ret aMi254 rfl rfl ⟨rfl, rfl⟩
    · rw [if_neg (of_decide_eq_false hb)] at h
      refine go_ops aMi254 1 _ (f1 := (10, ([(0, .ref a0), (1, .int i1)], [.ref a0]))) rfl ?_
      refine gg_gR (b := (a0 + 24)) aMi254 rfl rfl rfl (gR_of (sh11_z ha0) (sh11_r50 ha0)) ?_
      refine go_ops aMi254 2 _ (f1 := (15, ([(0, .ref a0), (1, .int i1)], [.int (0 : Int32), .int i1, .ref (a0 + 24)]))) rfl ?_
      obtain ⟨j15_5, hxj15_5, h⟩ := Option.bind_eq_some_iff.mp h
      obtain ⟨I15_4, hxI15_4, h⟩ := Option.bind_eq_some_iff.mp h
      refine gg_sI (Or.inl ⟨rfl, rfl⟩) aMi254 rfl (sI_of (sh11_a50 ha0) hxj15_5 hxI15_4) ?_
      refine go_ops aMi254 2 _ (f1 := (2, ([(1, .int (i1 + (1 : Int32))), (0, .ref a0)], []))) rfl ?_
      refine go_le (lv1 := [(0, .ref a0), (1, .int (i1 + (1 : Int32)))]) (aLe_of (show (List.map (fun q => q.1) ([(0, .ref a0), (1, .int (i1 + (1 : Int32)))] : ALv)).Nodup from (by show ([0, 1] : List Nat).Nodup; decide)) (aSubL_cons rfl (aSubL_cons rfl aSubL_nil))) ?_
      exact ih a0 ha0 (i1 + (1 : Int32)) I15_4 _ h
def f254 (kad : Nat → Nat) (N : Nat) (Z : AZ) (a0 : Nat) (I : AI) : Option (Unit × AI) :=
  f254_b2 kad N Z N a0 (0 : Int32) I
set_option maxRecDepth 20000 in
theorem Tf254 {kad : Nat → Nat} {N : Nat} {Z : AZ} {d : Nat} {t : Option Nat × (Nat × Nat)} (hd : 0 ≤ d) : ∀ (a0 : Nat) (ha0 : sh11 kad Z a0) (I : AI) (r : Unit × AI), f254 kad N Z a0 I = some r → aGo kad d 254 (0, ([(0, .ref a0)], [])) (aMem Z I, t) (qV Z t r) := by
  intro a0 ha0 I r h
  unfold f254 at h
  refine go_ops aMi254 2 _ (f1 := (2, ([(1, .int (0 : Int32)), (0, .ref a0)], []))) rfl ?_
  refine go_le (lv1 := [(0, .ref a0), (1, .int (0 : Int32))]) (aLe_of (show (List.map (fun q => q.1) ([(0, .ref a0), (1, .int (0 : Int32))] : ALv)).Nodup from (by show ([0, 1] : List Nat).Nodup; decide)) (aSubL_cons rfl (aSubL_cons rfl aSubL_nil))) ?_
  exact Tf254_b2 hd N a0 ha0 (0 : Int32) I _ h
-- KernelGymModel.copies ([I[I)V
def f255_b2 (kad : Nat → Nat) (N : Nat) (Z : AZ) : Nat → Nat → Nat → Int32 → AI → Option (Unit × AI)
  | 0, _, _, _, _ => none
  | F + 1, b0, b1, i2, I =>
    if (256 : Int32) ≤ i2 then
      some ((), I)
    else
      (lI Z I 100 b0 i2).bind fun x13_1 =>
      (sI Z I 100 b1 i2 x13_1).bind fun I14_2 =>
      f255_b2 kad N Z F b0 b1 (i2 + (1 : Int32)) I14_2
set_option maxRecDepth 20000 in
theorem Tf255_b2 {kad : Nat → Nat} {N : Nat} {Z : AZ} {d : Nat} {t : Option Nat × (Nat × Nat)} (hd : 0 ≤ d) : ∀ (F : Nat) (b0 : Nat) (b1 : Nat) (i2 : Int32) (I : AI) (r : Unit × AI), f255_b2 kad N Z F b0 b1 i2 I = some r → aGo kad d 255 (2, ([(0, .ref b0), (1, .ref b1), (2, .int i2)], [])) (aMem Z I, t) (qV Z t r) := by
  intro F
  induction F with
  | zero => intro b0 b1 i2 I r h; cases h
  | succ F ih =>
    intro b0 b1 i2 I r h
    unfold f255_b2 at h
    refine go_ops aMi255 2 _ (f1 := (6, ([(0, .ref b0), (1, .ref b1), (2, .int i2)], [.int (256 : Int32), .int i2]))) rfl ?_
    refine gg_br (b := decide ((256 : Int32) ≤ i2)) (tg := 21) (off := 15) aMi255 rfl rfl rfl rfl (fun hb => ?_) (fun hb => ?_)
    · rw [if_pos (of_decide_eq_true hb)] at h
      cases h
      exact go_ret aMi255 rfl rfl ⟨rfl, rfl⟩
    · rw [if_neg (of_decide_eq_false hb)] at h
      refine go_ops aMi255 4 _ (f1 := (13, ([(0, .ref b0), (1, .ref b1), (2, .int i2)], [.int i2, .ref b0, .int i2, .ref b1]))) rfl ?_
      obtain ⟨x13_1, hxx13_1, h⟩ := Option.bind_eq_some_iff.mp h
      refine gg_lI (Or.inl ⟨rfl, rfl⟩) aMi255 rfl hxx13_1 ?_
      obtain ⟨I14_2, hxI14_2, h⟩ := Option.bind_eq_some_iff.mp h
      refine gg_sI (Or.inl ⟨rfl, rfl⟩) aMi255 rfl hxI14_2 ?_
      refine go_ops aMi255 2 _ (f1 := (2, ([(2, .int (i2 + (1 : Int32))), (0, .ref b0), (1, .ref b1)], []))) rfl ?_
      refine go_le (lv1 := [(0, .ref b0), (1, .ref b1), (2, .int (i2 + (1 : Int32)))]) (aLe_of (show (List.map (fun q => q.1) ([(0, .ref b0), (1, .ref b1), (2, .int (i2 + (1 : Int32)))] : ALv)).Nodup from (by show ([0, 1, 2] : List Nat).Nodup; decide)) (aSubL_cons rfl (aSubL_cons rfl (aSubL_cons rfl aSubL_nil)))) ?_
      exact ih b0 b1 (i2 + (1 : Int32)) I14_2 _ h
def f255 (kad : Nat → Nat) (N : Nat) (Z : AZ) (b0 : Nat) (b1 : Nat) (I : AI) : Option (Unit × AI) :=
  f255_b2 kad N Z N b0 b1 (0 : Int32) I
set_option maxRecDepth 20000 in
theorem Tf255 {kad : Nat → Nat} {N : Nat} {Z : AZ} {d : Nat} {t : Option Nat × (Nat × Nat)} (hd : 0 ≤ d) : ∀ (b0 : Nat) (b1 : Nat) (I : AI) (r : Unit × AI), f255 kad N Z b0 b1 I = some r → aGo kad d 255 (0, ([(0, .ref b0), (1, .ref b1)], [])) (aMem Z I, t) (qV Z t r) := by
  intro b0 b1 I r h
  unfold f255 at h
  refine go_ops aMi255 2 _ (f1 := (2, ([(2, .int (0 : Int32)), (0, .ref b0), (1, .ref b1)], []))) rfl ?_
  refine go_le (lv1 := [(0, .ref b0), (1, .ref b1), (2, .int (0 : Int32))]) (aLe_of (show (List.map (fun q => q.1) ([(0, .ref b0), (1, .ref b1), (2, .int (0 : Int32))] : ALv)).Nodup from (by show ([0, 1, 2] : List Nat).Nodup; decide)) (aSubL_cons rfl (aSubL_cons rfl (aSubL_cons rfl aSubL_nil)))) ?_
  exact Tf255_b2 hd N b0 b1 (0 : Int32) I _ h
-- KernelGymModel.makesAnew (I)V
def f256_b33 (kad : Nat → Nat) (N : Nat) (Z : AZ) : Nat → Nat → Int32 → Int32 → AI → Option (Unit × AI)
  | 0, _, _, _, _ => none
  | F + 1, a0, i1, i2, I =>
    if i1 ≤ i2 then
      some ((), I)
    else
      (f234 kad N Z a0 I).bind fun r39_1 =>
      f256_b33 kad N Z F a0 i1 (i2 + (1 : Int32)) r39_1.2
set_option maxRecDepth 20000 in
theorem Tf256_b33 {kad : Nat → Nat} {N : Nat} {Z : AZ} {d : Nat} {t : Option Nat × (Nat × Nat)} (hd : 7 ≤ d) : ∀ (F : Nat) (a0 : Nat) (ha0 : sh11 kad Z a0) (i1 : Int32) (i2 : Int32) (I : AI) (r : Unit × AI), f256_b33 kad N Z F a0 i1 i2 I = some r → aGo kad d 256 (33, ([(0, .ref a0), (1, .int i1), (2, .int i2)], [])) (aMem Z I, t) (qV Z t r) := by
  intro F
  induction F with
  | zero => intro a0 ha0 i1 i2 I r h; cases h
  | succ F ih =>
    intro a0 ha0 i1 i2 I r h
    unfold f256_b33 at h
    refine go_ops aMi256 2 _ (f1 := (35, ([(0, .ref a0), (1, .int i1), (2, .int i2)], [.int i1, .int i2]))) rfl ?_
    refine gg_br (b := decide (i1 ≤ i2)) (tg := 48) (off := 13) aMi256 rfl rfl rfl rfl (fun hb => ?_) (fun hb => ?_)
    · rw [if_pos (of_decide_eq_true hb)] at h
      cases h
      exact go_ret aMi256 rfl rfl ⟨rfl, rfl⟩
    · rw [if_neg (of_decide_eq_false hb)] at h
      refine go_ops aMi256 1 _ (f1 := (39, ([(0, .ref a0), (1, .int i1), (2, .int i2)], [.ref a0]))) rfl ?_
      obtain ⟨r39_1, hxr39_1, h⟩ := Option.bind_eq_some_iff.mp h
      refine gg_cv (as := []) (r := []) aMi256 rfl rfl rfl aMi234 (Nat.le_of_ble_eq_true rfl) rfl (Nat.le_of_ble_eq_true rfl) (Nat.le_of_ble_eq_true rfl) (by omega) (isK_of (sh11_z ha0)) (Tf234 (by omega) a0 ha0 I _ hxr39_1) ?_
      show aGo kad d 256 (42, ([(0, .ref a0), (1, .int i1), (2, .int i2)], [])) (aMem Z r39_1.2, t) _
      refine go_ops aMi256 2 _ (f1 := (33, ([(2, .int (i2 + (1 : Int32))), (0, .ref a0), (1, .int i1)], []))) rfl ?_
      refine go_le (lv1 := [(0, .ref a0), (1, .int i1), (2, .int (i2 + (1 : Int32)))]) (aLe_of (show (List.map (fun q => q.1) ([(0, .ref a0), (1, .int i1), (2, .int (i2 + (1 : Int32)))] : ALv)).Nodup from (by show ([0, 1, 2] : List Nat).Nodup; decide)) (aSubL_cons rfl (aSubL_cons rfl (aSubL_cons rfl aSubL_nil)))) ?_
      exact ih a0 ha0 i1 (i2 + (1 : Int32)) r39_1.2 _ h
def f256 (kad : Nat → Nat) (N : Nat) (Z : AZ) (a0 : Nat) (i1 : Int32) (I : AI) : Option (Unit × AI) :=
  (f255 kad N Z (a0 + 27) (a0 + 24) I).bind fun r8_1 =>
  (wI r8_1.2 a0 52 ((r8_1.2) a0 55)).bind fun I16_2 =>
  (f222 kad N Z a0 (a0 + 26) I16_2).bind fun r24_3 =>
  (f224 kad N Z a0 r24_3.2).bind fun r28_4 =>
  f256_b33 kad N Z N a0 i1 (0 : Int32) r28_4.2
set_option maxRecDepth 20000 in
theorem Tf256 {kad : Nat → Nat} {N : Nat} {Z : AZ} {d : Nat} {t : Option Nat × (Nat × Nat)} (hd : 7 ≤ d) : ∀ (a0 : Nat) (ha0 : sh11 kad Z a0) (i1 : Int32) (I : AI) (r : Unit × AI), f256 kad N Z a0 i1 I = some r → aGo kad d 256 (0, ([(0, .ref a0), (1, .int i1)], [])) (aMem Z I, t) (qV Z t r) := by
  intro a0 ha0 i1 I r h
  unfold f256 at h
  refine go_ops aMi256 1 _ (f1 := (1, ([(0, .ref a0), (1, .int i1)], [.ref a0]))) rfl ?_
  refine gg_gR (b := (a0 + 27)) aMi256 rfl rfl rfl (gR_of (sh11_z ha0) (sh11_r54 ha0)) ?_
  refine go_ops aMi256 1 _ (f1 := (5, ([(0, .ref a0), (1, .int i1)], [.ref a0, .ref (a0 + 27)]))) rfl ?_
  refine gg_gR (b := (a0 + 24)) aMi256 rfl rfl rfl (gR_of (sh11_z ha0) (sh11_r50 ha0)) ?_
  obtain ⟨r8_1, hxr8_1, h⟩ := Option.bind_eq_some_iff.mp h
  refine gg_cs (as := [.ref (a0 + 27), .ref (a0 + 24)]) (r := []) aMi256 rfl rfl rfl aMi255 rfl (Nat.le_of_ble_eq_true rfl) (Nat.le_of_ble_eq_true rfl) (by omega) (Tf255 (by omega) (a0 + 27) (a0 + 24) I _ hxr8_1) ?_
  show aGo kad d 256 (11, ([(0, .ref a0), (1, .int i1)], [])) (aMem Z r8_1.2, t) _
  refine go_ops aMi256 2 _ (f1 := (13, ([(0, .ref a0), (1, .int i1)], [.ref a0, .ref a0]))) rfl ?_
  refine gg_gI aMi256 rfl rfl rfl (gI_of (sh11_z ha0)) ?_
  obtain ⟨I16_2, hxI16_2, h⟩ := Option.bind_eq_some_iff.mp h
  refine gg_pI aMi256 rfl rfl rfl rfl (by decide) (pI_of (sh11_z ha0) hxI16_2) ?_
  refine go_ops aMi256 2 _ (f1 := (21, ([(0, .ref a0), (1, .int i1)], [.ref a0, .ref a0]))) rfl ?_
  refine gg_gR (b := (a0 + 26)) aMi256 rfl rfl rfl (gR_of (sh11_z ha0) (sh11_r53 ha0)) ?_
  obtain ⟨r24_3, hxr24_3, h⟩ := Option.bind_eq_some_iff.mp h
  refine gg_cv (as := [.ref (a0 + 26)]) (r := []) aMi256 rfl rfl rfl aMi222 (Nat.le_of_ble_eq_true rfl) rfl (Nat.le_of_ble_eq_true rfl) (Nat.le_of_ble_eq_true rfl) (by omega) (isK_of (sh11_z ha0)) (Tf222 (by omega) a0 ha0 (a0 + 26) I16_2 _ hxr24_3) ?_
  show aGo kad d 256 (27, ([(0, .ref a0), (1, .int i1)], [])) (aMem Z r24_3.2, t) _
  refine go_ops aMi256 1 _ (f1 := (28, ([(0, .ref a0), (1, .int i1)], [.ref a0]))) rfl ?_
  obtain ⟨r28_4, hxr28_4, h⟩ := Option.bind_eq_some_iff.mp h
  refine gg_cv (as := []) (r := []) aMi256 rfl rfl rfl aMi224 (Nat.le_of_ble_eq_true rfl) rfl (Nat.le_of_ble_eq_true rfl) (Nat.le_of_ble_eq_true rfl) (by omega) (isK_of (sh11_z ha0)) (Tf224 (by omega) a0 ha0 r24_3.2 _ hxr28_4) ?_
  show aGo kad d 256 (31, ([(0, .ref a0), (1, .int i1)], [])) (aMem Z r28_4.2, t) _
  refine go_ops aMi256 2 _ (f1 := (33, ([(2, .int (0 : Int32)), (0, .ref a0), (1, .int i1)], []))) rfl ?_
  refine go_le (lv1 := [(0, .ref a0), (1, .int i1), (2, .int (0 : Int32))]) (aLe_of (show (List.map (fun q => q.1) ([(0, .ref a0), (1, .int i1), (2, .int (0 : Int32))] : ALv)).Nodup from (by show ([0, 1, 2] : List Nat).Nodup; decide)) (aSubL_cons rfl (aSubL_cons rfl (aSubL_cons rfl aSubL_nil)))) ?_
  exact Tf256_b33 hd N a0 ha0 i1 (0 : Int32) r28_4.2 _ h
-- KernelGymModel.start ()I
def f257_b20 (kad : Nat → Nat) (N : Nat) (Z : AZ) (a0 : Nat) (s0 : Int32) (I : AI) : Option (Int32 × AI) :=
  (f185 kad N Z a0 s0 I).bind fun r20_1 =>
  if ¬ r20_1.1 = 0 then
    (f253 kad N Z a0 r20_1.2).bind fun r29_2 =>
    (f255 kad N Z (a0 + 24) (a0 + 27) r29_2.2).bind fun r41_3 =>
    (f255 kad N Z (a0 + 14) (a0 + 26) r41_3.2).bind fun r52_4 =>
    (wI r52_4.2 a0 55 ((r52_4.2) a0 52)).bind fun I60_5 =>
    (wI I60_5 a0 43 (0 : Int32)).bind fun I65_6 =>
    (wI I65_6 a0 40 (0 : Int32)).bind fun I70_7 =>
    (f222 kad N Z a0 (a0 + 26) I70_7).bind fun r78_8 =>
    some (r29_2.1, r78_8.2)
  else
    some ((0 : Int32), r20_1.2)
set_option maxRecDepth 20000 in
theorem Tf257_b20 {kad : Nat → Nat} {N : Nat} {Z : AZ} {d : Nat} {t : Option Nat × (Nat × Nat)} (hd : 2 ≤ d) : ∀ (a0 : Nat) (ha0 : sh11 kad Z a0) (s0 : Int32) (I : AI) (r : Int32 × AI), f257_b20 kad N Z a0 s0 I = some r → aGo kad d 257 (20, ([(0, .ref a0)], [.int s0, .ref a0])) (aMem Z I, t) (qI Z t r) := by
  intro a0 ha0 s0 I r h
  unfold f257_b20 at h
  obtain ⟨r20_1, hxr20_1, h⟩ := Option.bind_eq_some_iff.mp h
  refine gg_cv (as := [.int s0]) (r := []) aMi257 rfl rfl rfl aMi185 (Nat.le_of_ble_eq_true rfl) rfl (Nat.le_of_ble_eq_true rfl) (Nat.le_of_ble_eq_true rfl) (by omega) (isK_of (sh11_z ha0)) (Tf185 (by omega) a0 ha0 s0 I _ hxr20_1) ?_
  show aGo kad d 257 (23, ([(0, .ref a0)], [.int r20_1.1])) (aMem Z r20_1.2, t) _
  refine gg_br (b := decide (¬ r20_1.1 = 0)) (tg := 28) (off := 5) aMi257 rfl rfl rfl rfl (fun hb => ?_) (fun hb => ?_)
  · rw [if_pos (of_decide_eq_true hb)] at h
    refine go_ops aMi257 1 _ (f1 := (29, ([(0, .ref a0)], [.ref a0]))) rfl ?_
    obtain ⟨r29_2, hxr29_2, h⟩ := Option.bind_eq_some_iff.mp h
    refine gg_cv (as := []) (r := []) aMi257 rfl rfl rfl aMi253 (Nat.le_of_ble_eq_true rfl) rfl (Nat.le_of_ble_eq_true rfl) (Nat.le_of_ble_eq_true rfl) (by omega) (isK_of (sh11_z ha0)) (Tf253 (by omega) a0 ha0 r20_1.2 _ hxr29_2) ?_
    show aGo kad d 257 (32, ([(0, .ref a0)], [.int r29_2.1])) (aMem Z r29_2.2, t) _
    refine go_ops aMi257 2 _ (f1 := (34, ([(1, .int r29_2.1), (0, .ref a0)], [.ref a0]))) rfl ?_
    refine gg_gR (b := (a0 + 24)) aMi257 rfl rfl rfl (gR_of (sh11_z ha0) (sh11_r50 ha0)) ?_
    refine go_ops aMi257 1 _ (f1 := (38, ([(1, .int r29_2.1), (0, .ref a0)], [.ref a0, .ref (a0 + 24)]))) rfl ?_
    refine gg_gR (b := (a0 + 27)) aMi257 rfl rfl rfl (gR_of (sh11_z ha0) (sh11_r54 ha0)) ?_
    obtain ⟨r41_3, hxr41_3, h⟩ := Option.bind_eq_some_iff.mp h
    refine gg_cs (as := [.ref (a0 + 24), .ref (a0 + 27)]) (r := []) aMi257 rfl rfl rfl aMi255 rfl (Nat.le_of_ble_eq_true rfl) (Nat.le_of_ble_eq_true rfl) (by omega) (Tf255 (by omega) (a0 + 24) (a0 + 27) r29_2.2 _ hxr41_3) ?_
    show aGo kad d 257 (44, ([(1, .int r29_2.1), (0, .ref a0)], [])) (aMem Z r41_3.2, t) _
    refine go_ops aMi257 1 _ (f1 := (45, ([(1, .int r29_2.1), (0, .ref a0)], [.ref a0]))) rfl ?_
    refine gg_gR (b := (a0 + 14)) aMi257 rfl rfl rfl (gR_of (sh11_z ha0) (sh11_r21 ha0)) ?_
    refine go_ops aMi257 1 _ (f1 := (49, ([(1, .int r29_2.1), (0, .ref a0)], [.ref a0, .ref (a0 + 14)]))) rfl ?_
    refine gg_gR (b := (a0 + 26)) aMi257 rfl rfl rfl (gR_of (sh11_z ha0) (sh11_r53 ha0)) ?_
    obtain ⟨r52_4, hxr52_4, h⟩ := Option.bind_eq_some_iff.mp h
    refine gg_cs (as := [.ref (a0 + 14), .ref (a0 + 26)]) (r := []) aMi257 rfl rfl rfl aMi255 rfl (Nat.le_of_ble_eq_true rfl) (Nat.le_of_ble_eq_true rfl) (by omega) (Tf255 (by omega) (a0 + 14) (a0 + 26) r41_3.2 _ hxr52_4) ?_
    show aGo kad d 257 (55, ([(1, .int r29_2.1), (0, .ref a0)], [])) (aMem Z r52_4.2, t) _
    refine go_ops aMi257 2 _ (f1 := (57, ([(1, .int r29_2.1), (0, .ref a0)], [.ref a0, .ref a0]))) rfl ?_
    refine gg_gI aMi257 rfl rfl rfl (gI_of (sh11_z ha0)) ?_
    obtain ⟨I60_5, hxI60_5, h⟩ := Option.bind_eq_some_iff.mp h
    refine gg_pI aMi257 rfl rfl rfl rfl (by decide) (pI_of (sh11_z ha0) hxI60_5) ?_
    refine go_ops aMi257 2 _ (f1 := (65, ([(1, .int r29_2.1), (0, .ref a0)], [.int (0 : Int32), .ref a0]))) rfl ?_
    obtain ⟨I65_6, hxI65_6, h⟩ := Option.bind_eq_some_iff.mp h
    refine gg_pI aMi257 rfl rfl rfl rfl (by decide) (pI_of (sh11_z ha0) hxI65_6) ?_
    refine go_ops aMi257 2 _ (f1 := (70, ([(1, .int r29_2.1), (0, .ref a0)], [.int (0 : Int32), .ref a0]))) rfl ?_
    obtain ⟨I70_7, hxI70_7, h⟩ := Option.bind_eq_some_iff.mp h
    refine gg_pI aMi257 rfl rfl rfl rfl (by decide) (pI_of (sh11_z ha0) hxI70_7) ?_
    refine go_ops aMi257 2 _ (f1 := (75, ([(1, .int r29_2.1), (0, .ref a0)], [.ref a0, .ref a0]))) rfl ?_
    refine gg_gR (b := (a0 + 26)) aMi257 rfl rfl rfl (gR_of (sh11_z ha0) (sh11_r53 ha0)) ?_
    obtain ⟨r78_8, hxr78_8, h⟩ := Option.bind_eq_some_iff.mp h
    refine gg_cv (as := [.ref (a0 + 26)]) (r := []) aMi257 rfl rfl rfl aMi222 (Nat.le_of_ble_eq_true rfl) rfl (Nat.le_of_ble_eq_true rfl) (Nat.le_of_ble_eq_true rfl) (by omega) (isK_of (sh11_z ha0)) (Tf222 (by omega) a0 ha0 (a0 + 26) I70_7 _ hxr78_8) ?_
    show aGo kad d 257 (81, ([(1, .int r29_2.1), (0, .ref a0)], [])) (aMem Z r78_8.2, t) _
    refine go_ops aMi257 1 _ (f1 := (82, ([(1, .int r29_2.1), (0, .ref a0)], [.int r29_2.1]))) rfl ?_
    cases h
    exact go_ret aMi257 rfl aRetI ⟨rfl, rfl⟩
  · rw [if_neg (of_decide_eq_false hb)] at h
    refine go_ops aMi257 1 _ (f1 := (27, ([(0, .ref a0)], [.int (0 : Int32)]))) rfl ?_
    cases h
    exact go_ret aMi257 rfl aRetI ⟨rfl, rfl⟩
def f257_b15 (kad : Nat → Nat) (N : Nat) (Z : AZ) (a0 : Nat) (I : AI) : Option (Int32 × AI) :=
  f257_b20 kad N Z a0 (1 : Int32) I
set_option maxRecDepth 20000 in
theorem Tf257_b15 {kad : Nat → Nat} {N : Nat} {Z : AZ} {d : Nat} {t : Option Nat × (Nat × Nat)} (hd : 2 ≤ d) : ∀ (a0 : Nat) (ha0 : sh11 kad Z a0) (I : AI) (r : Int32 × AI), f257_b15 kad N Z a0 I = some r → aGo kad d 257 (15, ([(0, .ref a0)], [.ref a0])) (aMem Z I, t) (qI Z t r) := by
  intro a0 ha0 I r h
  unfold f257_b15 at h
  refine go_ops aMi257 2 _ (f1 := (20, ([(0, .ref a0)], [.int (1 : Int32), .ref a0]))) rfl ?_
  exact Tf257_b20 hd a0 ha0 (1 : Int32) I _ h
def f257 (kad : Nat → Nat) (N : Nat) (Z : AZ) (a0 : Nat) (I : AI) : Option (Int32 × AI) :=
  (f216 kad N Z a0 I).bind fun r2_1 =>
  if ¬ r2_1.1 = 0 then
    f257_b15 kad N Z a0 r2_1.2
  else
    if ¬ ((r2_1.2) a0 22) = 0 then
      f257_b20 kad N Z a0 (0 : Int32) r2_1.2
    else
      f257_b15 kad N Z a0 r2_1.2
set_option maxRecDepth 20000 in
theorem Tf257 {kad : Nat → Nat} {N : Nat} {Z : AZ} {d : Nat} {t : Option Nat × (Nat × Nat)} (hd : 2 ≤ d) : ∀ (a0 : Nat) (ha0 : sh11 kad Z a0) (I : AI) (r : Int32 × AI), f257 kad N Z a0 I = some r → aGo kad d 257 (0, ([(0, .ref a0)], [])) (aMem Z I, t) (qI Z t r) := by
  intro a0 ha0 I r h
  unfold f257 at h
  refine go_ops aMi257 2 _ (f1 := (2, ([(0, .ref a0)], [.ref a0, .ref a0]))) rfl ?_
  obtain ⟨r2_1, hxr2_1, h⟩ := Option.bind_eq_some_iff.mp h
  refine gg_cv (as := []) (r := [.ref a0]) aMi257 rfl rfl rfl aMi216 (Nat.le_of_ble_eq_true rfl) rfl (Nat.le_of_ble_eq_true rfl) (Nat.le_of_ble_eq_true rfl) (by omega) (isK_of (sh11_z ha0)) (Tf216 (by omega) a0 ha0 I _ hxr2_1) ?_
  show aGo kad d 257 (5, ([(0, .ref a0)], [.int r2_1.1, .ref a0])) (aMem Z r2_1.2, t) _
  refine gg_br (b := decide (¬ r2_1.1 = 0)) (tg := 15) (off := 10) aMi257 rfl rfl rfl rfl (fun hb => ?_) (fun hb => ?_)
  · rw [if_pos (of_decide_eq_true hb)] at h
    exact Tf257_b15 hd a0 ha0 r2_1.2 _ h
  · rw [if_neg (of_decide_eq_false hb)] at h
    refine go_ops aMi257 1 _ (f1 := (9, ([(0, .ref a0)], [.ref a0, .ref a0]))) rfl ?_
    refine gg_gI aMi257 rfl rfl rfl (gI_of (sh11_z ha0)) ?_
    refine gg_br (b := decide (¬ ((r2_1.2) a0 22) = 0)) (tg := 19) (off := 7) aMi257 rfl rfl rfl rfl (fun hb => ?_) (fun hb => ?_)
    · rw [if_pos (of_decide_eq_true hb)] at h
      refine go_ops aMi257 1 _ (f1 := (20, ([(0, .ref a0)], [.int (0 : Int32), .ref a0]))) rfl ?_
      exact Tf257_b20 hd a0 ha0 (0 : Int32) r2_1.2 _ h
    · rw [if_neg (of_decide_eq_false hb)] at h
      exact Tf257_b15 hd a0 ha0 r2_1.2 _ h
-- KernelGymModel.crash ()I
def f258_b13 (kad : Nat → Nat) (N : Nat) (Z : AZ) (a0 : Nat) (s0 : Int32) (I : AI) : Option (Int32 × AI) :=
  (f185 kad N Z a0 s0 I).bind fun r13_1 =>
  if ¬ r13_1.1 = 0 then
    (wI r13_1.2 a0 40 (0 : Int32)).bind fun I28_2 =>
    (f223 kad N Z a0 I28_2).bind fun r32_3 =>
    some (((r13_1.2) a0 38), r32_3.2)
  else
    some ((0 : Int32), r13_1.2)
set_option maxRecDepth 20000 in
theorem Tf258_b13 {kad : Nat → Nat} {N : Nat} {Z : AZ} {d : Nat} {t : Option Nat × (Nat × Nat)} (hd : 1 ≤ d) : ∀ (a0 : Nat) (ha0 : sh11 kad Z a0) (s0 : Int32) (I : AI) (r : Int32 × AI), f258_b13 kad N Z a0 s0 I = some r → aGo kad d 258 (13, ([(0, .ref a0)], [.int s0, .ref a0])) (aMem Z I, t) (qI Z t r) := by
  intro a0 ha0 s0 I r h
  unfold f258_b13 at h
  obtain ⟨r13_1, hxr13_1, h⟩ := Option.bind_eq_some_iff.mp h
  refine gg_cv (as := [.int s0]) (r := []) aMi258 rfl rfl rfl aMi185 (Nat.le_of_ble_eq_true rfl) rfl (Nat.le_of_ble_eq_true rfl) (Nat.le_of_ble_eq_true rfl) (by omega) (isK_of (sh11_z ha0)) (Tf185 (by omega) a0 ha0 s0 I _ hxr13_1) ?_
  show aGo kad d 258 (16, ([(0, .ref a0)], [.int r13_1.1])) (aMem Z r13_1.2, t) _
  refine gg_br (b := decide (¬ r13_1.1 = 0)) (tg := 21) (off := 5) aMi258 rfl rfl rfl rfl (fun hb => ?_) (fun hb => ?_)
  · rw [if_pos (of_decide_eq_true hb)] at h
    refine go_ops aMi258 1 _ (f1 := (22, ([(0, .ref a0)], [.ref a0]))) rfl ?_
    refine gg_gI aMi258 rfl rfl rfl (gI_of (sh11_z ha0)) ?_
    refine go_ops aMi258 3 _ (f1 := (28, ([(1, .int ((r13_1.2) a0 38)), (0, .ref a0)], [.int (0 : Int32), .ref a0]))) rfl ?_
    obtain ⟨I28_2, hxI28_2, h⟩ := Option.bind_eq_some_iff.mp h
    refine gg_pI aMi258 rfl rfl rfl rfl (by decide) (pI_of (sh11_z ha0) hxI28_2) ?_
    refine go_ops aMi258 1 _ (f1 := (32, ([(1, .int ((r13_1.2) a0 38)), (0, .ref a0)], [.ref a0]))) rfl ?_
    obtain ⟨r32_3, hxr32_3, h⟩ := Option.bind_eq_some_iff.mp h
    refine gg_cv (as := []) (r := []) aMi258 rfl rfl rfl aMi223 (Nat.le_of_ble_eq_true rfl) rfl (Nat.le_of_ble_eq_true rfl) (Nat.le_of_ble_eq_true rfl) (by omega) (isK_of (sh11_z ha0)) (Tf223 (by omega) a0 ha0 I28_2 _ hxr32_3) ?_
    show aGo kad d 258 (35, ([(1, .int ((r13_1.2) a0 38)), (0, .ref a0)], [])) (aMem Z r32_3.2, t) _
    refine go_ops aMi258 1 _ (f1 := (36, ([(1, .int ((r13_1.2) a0 38)), (0, .ref a0)], [.int ((r13_1.2) a0 38)]))) rfl ?_
    cases h
    exact go_ret aMi258 rfl aRetI ⟨rfl, rfl⟩
  · rw [if_neg (of_decide_eq_false hb)] at h
    refine go_ops aMi258 1 _ (f1 := (20, ([(0, .ref a0)], [.int (0 : Int32)]))) rfl ?_
    cases h
    exact go_ret aMi258 rfl aRetI ⟨rfl, rfl⟩
def f258 (kad : Nat → Nat) (N : Nat) (Z : AZ) (a0 : Nat) (I : AI) : Option (Int32 × AI) :=
  (f216 kad N Z a0 I).bind fun r2_1 =>
  if r2_1.1 = 0 then
    f258_b13 kad N Z a0 (1 : Int32) r2_1.2
  else
    f258_b13 kad N Z a0 (0 : Int32) r2_1.2
set_option maxRecDepth 20000 in
theorem Tf258 {kad : Nat → Nat} {N : Nat} {Z : AZ} {d : Nat} {t : Option Nat × (Nat × Nat)} (hd : 1 ≤ d) : ∀ (a0 : Nat) (ha0 : sh11 kad Z a0) (I : AI) (r : Int32 × AI), f258 kad N Z a0 I = some r → aGo kad d 258 (0, ([(0, .ref a0)], [])) (aMem Z I, t) (qI Z t r) := by
  intro a0 ha0 I r h
  unfold f258 at h
  refine go_ops aMi258 2 _ (f1 := (2, ([(0, .ref a0)], [.ref a0, .ref a0]))) rfl ?_
  obtain ⟨r2_1, hxr2_1, h⟩ := Option.bind_eq_some_iff.mp h
  refine gg_cv (as := []) (r := [.ref a0]) aMi258 rfl rfl rfl aMi216 (Nat.le_of_ble_eq_true rfl) rfl (Nat.le_of_ble_eq_true rfl) (Nat.le_of_ble_eq_true rfl) (by omega) (isK_of (sh11_z ha0)) (Tf216 (by omega) a0 ha0 I _ hxr2_1) ?_
  show aGo kad d 258 (5, ([(0, .ref a0)], [.int r2_1.1, .ref a0])) (aMem Z r2_1.2, t) _
  refine gg_br (b := decide (r2_1.1 = 0)) (tg := 12) (off := 7) aMi258 rfl rfl rfl rfl (fun hb => ?_) (fun hb => ?_)
  · rw [if_pos (of_decide_eq_true hb)] at h
    refine go_ops aMi258 1 _ (f1 := (13, ([(0, .ref a0)], [.int (1 : Int32), .ref a0]))) rfl ?_
    exact Tf258_b13 hd a0 ha0 (1 : Int32) r2_1.2 _ h
  · rw [if_neg (of_decide_eq_false hb)] at h
    refine go_ops aMi258 2 _ (f1 := (13, ([(0, .ref a0)], [.int (0 : Int32), .ref a0]))) rfl ?_
    exact Tf258_b13 hd a0 ha0 (0 : Int32) r2_1.2 _ h
-- KernelGymModel.filesOf ()I
def f285_b28 (kad : Nat → Nat) (N : Nat) (Z : AZ) (k4 : Nat → Int32 → Int32 → AI → Option (Int32 × AI)) (a0 : Nat) (i2 : Int32) (s0 : Int32) (s1 : Int32) (I : AI) : Option (Int32 × AI) :=
  k4 a0 (s1 + s0) (i2 + (1 : Int32)) I
set_option maxRecDepth 20000 in
theorem Tf285_b28 {kad : Nat → Nat} {N : Nat} {Z : AZ} {d : Nat} {t : Option Nat × (Nat × Nat)} (hd : 1 ≤ d) (k4 : Nat → Int32 → Int32 → AI → Option (Int32 × AI))  (hk4 : ∀ (a0 : Nat) (ha0 : sh11 kad Z a0) (i1 : Int32) (i2 : Int32) (I : AI) (r : Int32 × AI), k4 a0 i1 i2 I = some r → aGo kad d 285 (4, ([(0, .ref a0), (1, .int i1), (2, .int i2)], [])) (aMem Z I, t) (qI Z t r)) : ∀ (a0 : Nat) (ha0 : sh11 kad Z a0) (i2 : Int32) (s0 : Int32) (s1 : Int32) (I : AI) (r : Int32 × AI), f285_b28 kad N Z k4 a0 i2 s0 s1 I = some r → aGo kad d 285 (28, ([(0, .ref a0), (2, .int i2)], [.int s0, .int s1])) (aMem Z I, t) (qI Z t r) := by
  intro a0 ha0 i2 s0 s1 I r h
  unfold f285_b28 at h
  refine go_ops aMi285 4 _ (f1 := (4, ([(2, .int (i2 + (1 : Int32))), (1, .int (s1 + s0)), (0, .ref a0)], []))) rfl ?_
  refine go_le (lv1 := [(0, .ref a0), (1, .int (s1 + s0)), (2, .int (i2 + (1 : Int32)))]) (aLe_of (show (List.map (fun q => q.1) ([(0, .ref a0), (1, .int (s1 + s0)), (2, .int (i2 + (1 : Int32)))] : ALv)).Nodup from (by show ([0, 1, 2] : List Nat).Nodup; decide)) (aSubL_cons rfl (aSubL_cons rfl (aSubL_cons rfl aSubL_nil)))) ?_
  exact hk4 a0 ha0 (s1 + s0) (i2 + (1 : Int32)) I _ h
def f285_b4 (kad : Nat → Nat) (N : Nat) (Z : AZ) : Nat → Nat → Int32 → Int32 → AI → Option (Int32 × AI)
  | 0, _, _, _, _ => none
  | F + 1, a0, i1, i2, I =>
    if (6 : Int32) ≤ i2 then
      some (i1, I)
    else
      (f235 kad N Z i2 I).bind fun r16_1 =>
      (ixA 256 r16_1.1).bind fun j19_2 =>
      if ¬ (r16_1.2 (a0 + 24) j19_2) = 0 then
        f285_b28 kad N Z (fun p0 p1 p2 I => f285_b4 kad N Z F p0 p1 p2 I) a0 i2 (1 : Int32) i1 r16_1.2
      else
        f285_b28 kad N Z (fun p0 p1 p2 I => f285_b4 kad N Z F p0 p1 p2 I) a0 i2 (0 : Int32) i1 r16_1.2
set_option maxRecDepth 20000 in
theorem Tf285_b4 {kad : Nat → Nat} {N : Nat} {Z : AZ} {d : Nat} {t : Option Nat × (Nat × Nat)} (hd : 1 ≤ d) : ∀ (F : Nat) (a0 : Nat) (ha0 : sh11 kad Z a0) (i1 : Int32) (i2 : Int32) (I : AI) (r : Int32 × AI), f285_b4 kad N Z F a0 i1 i2 I = some r → aGo kad d 285 (4, ([(0, .ref a0), (1, .int i1), (2, .int i2)], [])) (aMem Z I, t) (qI Z t r) := by
  intro F
  induction F with
  | zero => intro a0 ha0 i1 i2 I r h; cases h
  | succ F ih =>
    intro a0 ha0 i1 i2 I r h
    unfold f285_b4 at h
    refine go_ops aMi285 2 _ (f1 := (7, ([(0, .ref a0), (1, .int i1), (2, .int i2)], [.int (6 : Int32), .int i2]))) rfl ?_
    refine gg_br (b := decide ((6 : Int32) ≤ i2)) (tg := 36) (off := 29) aMi285 rfl rfl rfl rfl (fun hb => ?_) (fun hb => ?_)
    · rw [if_pos (of_decide_eq_true hb)] at h
      refine go_ops aMi285 1 _ (f1 := (37, ([(0, .ref a0), (1, .int i1), (2, .int i2)], [.int i1]))) rfl ?_
      cases h
      exact go_ret aMi285 rfl aRetI ⟨rfl, rfl⟩
    · rw [if_neg (of_decide_eq_false hb)] at h
      refine go_ops aMi285 2 _ (f1 := (12, ([(0, .ref a0), (1, .int i1), (2, .int i2)], [.ref a0, .int i1]))) rfl ?_
      refine gg_gR (b := (a0 + 24)) aMi285 rfl rfl rfl (gR_of (sh11_z ha0) (sh11_r50 ha0)) ?_
      refine go_ops aMi285 1 _ (f1 := (16, ([(0, .ref a0), (1, .int i1), (2, .int i2)], [.int i2, .ref (a0 + 24), .int i1]))) rfl ?_
      obtain ⟨r16_1, hxr16_1, h⟩ := Option.bind_eq_some_iff.mp h
      refine gg_cs (as := [.int i2]) (r := [.ref (a0 + 24), .int i1]) aMi285 rfl rfl rfl aMi235 rfl (Nat.le_of_ble_eq_true rfl) (Nat.le_of_ble_eq_true rfl) (by omega) (Tf235 (by omega) i2 I _ hxr16_1) ?_
      show aGo kad d 285 (19, ([(0, .ref a0), (1, .int i1), (2, .int i2)], [.int r16_1.1, .ref (a0 + 24), .int i1])) (aMem Z r16_1.2, t) _
      obtain ⟨j19_2, hxj19_2, h⟩ := Option.bind_eq_some_iff.mp h
      refine gg_lI (Or.inl ⟨rfl, rfl⟩) aMi285 rfl (lI_of (sh11_a50 ha0) hxj19_2) ?_
      refine gg_br (b := decide (¬ (r16_1.2 (a0 + 24) j19_2) = 0)) (tg := 27) (off := 7) aMi285 rfl rfl rfl rfl (fun hb => ?_) (fun hb => ?_)
      · rw [if_pos (of_decide_eq_true hb)] at h
        refine go_ops aMi285 1 _ (f1 := (28, ([(0, .ref a0), (1, .int i1), (2, .int i2)], [.int (1 : Int32), .int i1]))) rfl ?_
        refine go_le (lv1 := [(0, .ref a0), (2, .int i2)]) (aLe_of (show (List.map (fun q => q.1) ([(0, .ref a0), (2, .int i2)] : ALv)).Nodup from (by show ([0, 2] : List Nat).Nodup; decide)) (aSubL_cons rfl (aSubL_cons rfl aSubL_nil))) ?_
        exact Tf285_b28 hd (fun p0 p1 p2 I => f285_b4 kad N Z F p0 p1 p2 I) (fun p0 q0 p1 p2 I r hh => ih p0 q0 p1 p2 I r hh) a0 ha0 i2 (1 : Int32) i1 r16_1.2 _ h
      · rw [if_neg (of_decide_eq_false hb)] at h
        refine go_ops aMi285 2 _ (f1 := (28, ([(0, .ref a0), (1, .int i1), (2, .int i2)], [.int (0 : Int32), .int i1]))) rfl ?_
        refine go_le (lv1 := [(0, .ref a0), (2, .int i2)]) (aLe_of (show (List.map (fun q => q.1) ([(0, .ref a0), (2, .int i2)] : ALv)).Nodup from (by show ([0, 2] : List Nat).Nodup; decide)) (aSubL_cons rfl (aSubL_cons rfl aSubL_nil))) ?_
        exact Tf285_b28 hd (fun p0 p1 p2 I => f285_b4 kad N Z F p0 p1 p2 I) (fun p0 q0 p1 p2 I r hh => ih p0 q0 p1 p2 I r hh) a0 ha0 i2 (0 : Int32) i1 r16_1.2 _ h
def f285 (kad : Nat → Nat) (N : Nat) (Z : AZ) (a0 : Nat) (I : AI) : Option (Int32 × AI) :=
  f285_b4 kad N Z N a0 (0 : Int32) (0 : Int32) I
set_option maxRecDepth 20000 in
theorem Tf285 {kad : Nat → Nat} {N : Nat} {Z : AZ} {d : Nat} {t : Option Nat × (Nat × Nat)} (hd : 1 ≤ d) : ∀ (a0 : Nat) (ha0 : sh11 kad Z a0) (I : AI) (r : Int32 × AI), f285 kad N Z a0 I = some r → aGo kad d 285 (0, ([(0, .ref a0)], [])) (aMem Z I, t) (qI Z t r) := by
  intro a0 ha0 I r h
  unfold f285 at h
  refine go_ops aMi285 4 _ (f1 := (4, ([(2, .int (0 : Int32)), (1, .int (0 : Int32)), (0, .ref a0)], []))) rfl ?_
  refine go_le (lv1 := [(0, .ref a0), (1, .int (0 : Int32)), (2, .int (0 : Int32))]) (aLe_of (show (List.map (fun q => q.1) ([(0, .ref a0), (1, .int (0 : Int32)), (2, .int (0 : Int32))] : ALv)).Nodup from (by show ([0, 1, 2] : List Nat).Nodup; decide)) (aSubL_cons rfl (aSubL_cons rfl (aSubL_cons rfl aSubL_nil)))) ?_
  exact Tf285_b4 hd N a0 ha0 (0 : Int32) (0 : Int32) I _ h
-- KernelGymModel.format ()I
def f259_b13 (kad : Nat → Nat) (N : Nat) (Z : AZ) (a0 : Nat) (s0 : Int32) (I : AI) : Option (Int32 × AI) :=
  (f185 kad N Z a0 s0 I).bind fun r13_1 =>
  if ¬ r13_1.1 = 0 then
    (f285 kad N Z a0 r13_1.2).bind fun r22_2 =>
    (f254 kad N Z a0 r22_2.2).bind fun r27_3 =>
    some (r22_2.1, r27_3.2)
  else
    some ((0 : Int32), r13_1.2)
set_option maxRecDepth 20000 in
theorem Tf259_b13 {kad : Nat → Nat} {N : Nat} {Z : AZ} {d : Nat} {t : Option Nat × (Nat × Nat)} (hd : 2 ≤ d) : ∀ (a0 : Nat) (ha0 : sh11 kad Z a0) (s0 : Int32) (I : AI) (r : Int32 × AI), f259_b13 kad N Z a0 s0 I = some r → aGo kad d 259 (13, ([(0, .ref a0)], [.int s0, .ref a0])) (aMem Z I, t) (qI Z t r) := by
  intro a0 ha0 s0 I r h
  unfold f259_b13 at h
  obtain ⟨r13_1, hxr13_1, h⟩ := Option.bind_eq_some_iff.mp h
  refine gg_cv (as := [.int s0]) (r := []) aMi259 rfl rfl rfl aMi185 (Nat.le_of_ble_eq_true rfl) rfl (Nat.le_of_ble_eq_true rfl) (Nat.le_of_ble_eq_true rfl) (by omega) (isK_of (sh11_z ha0)) (Tf185 (by omega) a0 ha0 s0 I _ hxr13_1) ?_
  show aGo kad d 259 (16, ([(0, .ref a0)], [.int r13_1.1])) (aMem Z r13_1.2, t) _
  refine gg_br (b := decide (¬ r13_1.1 = 0)) (tg := 21) (off := 5) aMi259 rfl rfl rfl rfl (fun hb => ?_) (fun hb => ?_)
  · rw [if_pos (of_decide_eq_true hb)] at h
    refine go_ops aMi259 1 _ (f1 := (22, ([(0, .ref a0)], [.ref a0]))) rfl ?_
    obtain ⟨r22_2, hxr22_2, h⟩ := Option.bind_eq_some_iff.mp h
    refine gg_cv (as := []) (r := []) aMi259 rfl rfl rfl aMi285 (Nat.le_of_ble_eq_true rfl) rfl (Nat.le_of_ble_eq_true rfl) (Nat.le_of_ble_eq_true rfl) (by omega) (isK_of (sh11_z ha0)) (Tf285 (by omega) a0 ha0 r13_1.2 _ hxr22_2) ?_
    show aGo kad d 259 (25, ([(0, .ref a0)], [.int r22_2.1])) (aMem Z r22_2.2, t) _
    refine go_ops aMi259 2 _ (f1 := (27, ([(1, .int r22_2.1), (0, .ref a0)], [.ref a0]))) rfl ?_
    obtain ⟨r27_3, hxr27_3, h⟩ := Option.bind_eq_some_iff.mp h
    refine gg_cv (as := []) (r := []) aMi259 rfl rfl rfl aMi254 (Nat.le_of_ble_eq_true rfl) rfl (Nat.le_of_ble_eq_true rfl) (Nat.le_of_ble_eq_true rfl) (by omega) (isK_of (sh11_z ha0)) (Tf254 (by omega) a0 ha0 r22_2.2 _ hxr27_3) ?_
    show aGo kad d 259 (30, ([(1, .int r22_2.1), (0, .ref a0)], [])) (aMem Z r27_3.2, t) _
    refine go_ops aMi259 1 _ (f1 := (31, ([(1, .int r22_2.1), (0, .ref a0)], [.int r22_2.1]))) rfl ?_
    cases h
    exact go_ret aMi259 rfl aRetI ⟨rfl, rfl⟩
  · rw [if_neg (of_decide_eq_false hb)] at h
    refine go_ops aMi259 1 _ (f1 := (20, ([(0, .ref a0)], [.int (0 : Int32)]))) rfl ?_
    cases h
    exact go_ret aMi259 rfl aRetI ⟨rfl, rfl⟩
def f259 (kad : Nat → Nat) (N : Nat) (Z : AZ) (a0 : Nat) (I : AI) : Option (Int32 × AI) :=
  (f216 kad N Z a0 I).bind fun r2_1 =>
  if r2_1.1 = 0 then
    f259_b13 kad N Z a0 (0 : Int32) r2_1.2
  else
    f259_b13 kad N Z a0 (1 : Int32) r2_1.2
set_option maxRecDepth 20000 in
theorem Tf259 {kad : Nat → Nat} {N : Nat} {Z : AZ} {d : Nat} {t : Option Nat × (Nat × Nat)} (hd : 2 ≤ d) : ∀ (a0 : Nat) (ha0 : sh11 kad Z a0) (I : AI) (r : Int32 × AI), f259 kad N Z a0 I = some r → aGo kad d 259 (0, ([(0, .ref a0)], [])) (aMem Z I, t) (qI Z t r) := by
  intro a0 ha0 I r h
  unfold f259 at h
  refine go_ops aMi259 2 _ (f1 := (2, ([(0, .ref a0)], [.ref a0, .ref a0]))) rfl ?_
  obtain ⟨r2_1, hxr2_1, h⟩ := Option.bind_eq_some_iff.mp h
  refine gg_cv (as := []) (r := [.ref a0]) aMi259 rfl rfl rfl aMi216 (Nat.le_of_ble_eq_true rfl) rfl (Nat.le_of_ble_eq_true rfl) (Nat.le_of_ble_eq_true rfl) (by omega) (isK_of (sh11_z ha0)) (Tf216 (by omega) a0 ha0 I _ hxr2_1) ?_
  show aGo kad d 259 (5, ([(0, .ref a0)], [.int r2_1.1, .ref a0])) (aMem Z r2_1.2, t) _
  refine gg_br (b := decide (r2_1.1 = 0)) (tg := 12) (off := 7) aMi259 rfl rfl rfl rfl (fun hb => ?_) (fun hb => ?_)
  · rw [if_pos (of_decide_eq_true hb)] at h
    refine go_ops aMi259 1 _ (f1 := (13, ([(0, .ref a0)], [.int (0 : Int32), .ref a0]))) rfl ?_
    exact Tf259_b13 hd a0 ha0 (0 : Int32) r2_1.2 _ h
  · rw [if_neg (of_decide_eq_false hb)] at h
    refine go_ops aMi259 2 _ (f1 := (13, ([(0, .ref a0)], [.int (1 : Int32), .ref a0]))) rfl ?_
    exact Tf259_b13 hd a0 ha0 (1 : Int32) r2_1.2 _ h
-- KernelGymModel.canStep ()Z
def f260_b23 (kad : Nat → Nat) (N : Nat) (Z : AZ) (a0 : Nat) (s0 : Int32) (I : AI) : Option (Int32 × AI) :=
  if s0 = 0 ∨ s0 = 1 then some (s0, I) else none
set_option maxRecDepth 20000 in
theorem Tf260_b23 {kad : Nat → Nat} {N : Nat} {Z : AZ} {d : Nat} {t : Option Nat × (Nat × Nat)} (hd : 0 ≤ d) : ∀ (a0 : Nat) (ha0 : sh11 kad Z a0) (s0 : Int32) (I : AI) (r : Int32 × AI), f260_b23 kad N Z a0 s0 I = some r → aGo kad d 260 (23, ([], [.int s0])) (aMem Z I, t) (qI Z t r) := by
  intro a0 ha0 s0 I r h
  unfold f260_b23 at h
  split at h
  · rename_i hz
    cases h
    exact go_ret aMi260 rfl (aRetZ hz) ⟨rfl, rfl⟩
  · cases h
def f260_b22 (kad : Nat → Nat) (N : Nat) (Z : AZ) (a0 : Nat) (I : AI) : Option (Int32 × AI) :=
  f260_b23 kad N Z a0 (0 : Int32) I
set_option maxRecDepth 20000 in
theorem Tf260_b22 {kad : Nat → Nat} {N : Nat} {Z : AZ} {d : Nat} {t : Option Nat × (Nat × Nat)} (hd : 0 ≤ d) : ∀ (a0 : Nat) (ha0 : sh11 kad Z a0) (I : AI) (r : Int32 × AI), f260_b22 kad N Z a0 I = some r → aGo kad d 260 (22, ([], [])) (aMem Z I, t) (qI Z t r) := by
  intro a0 ha0 I r h
  unfold f260_b22 at h
  refine go_ops aMi260 1 _ (f1 := (23, ([], [.int (0 : Int32)]))) rfl ?_
  exact Tf260_b23 hd a0 ha0 (0 : Int32) I _ h
def f260 (kad : Nat → Nat) (N : Nat) (Z : AZ) (a0 : Nat) (I : AI) : Option (Int32 × AI) :=
  if ¬ (I a0 23) = (1 : Int32) then
    f260_b22 kad N Z a0 I
  else
    if (1000 : Int32) ≤ (I a0 38) then
      f260_b22 kad N Z a0 I
    else
      f260_b23 kad N Z a0 (1 : Int32) I
set_option maxRecDepth 20000 in
theorem Tf260 {kad : Nat → Nat} {N : Nat} {Z : AZ} {d : Nat} {t : Option Nat × (Nat × Nat)} (hd : 0 ≤ d) : ∀ (a0 : Nat) (ha0 : sh11 kad Z a0) (I : AI) (r : Int32 × AI), f260 kad N Z a0 I = some r → aGo kad d 260 (0, ([(0, .ref a0)], [])) (aMem Z I, t) (qI Z t r) := by
  intro a0 ha0 I r h
  unfold f260 at h
  refine go_ops aMi260 1 _ (f1 := (1, ([(0, .ref a0)], [.ref a0]))) rfl ?_
  refine gg_gI aMi260 rfl rfl rfl (gI_of (sh11_z ha0)) ?_
  refine go_ops aMi260 1 _ (f1 := (5, ([(0, .ref a0)], [.int (1 : Int32), .int (I a0 23)]))) rfl ?_
  refine gg_br (b := decide (¬ (I a0 23) = (1 : Int32))) (tg := 22) (off := 17) aMi260 rfl rfl rfl rfl (fun hb => ?_) (fun hb => ?_)
  · rw [if_pos (of_decide_eq_true hb)] at h
    refine go_le (lv1 := []) (aLe_of (show (List.map (fun q => q.1) ([] : ALv)).Nodup from (by show ([] : List Nat).Nodup; decide)) aSubL_nil) ?_
    exact Tf260_b22 hd a0 ha0 I _ h
  · rw [if_neg (of_decide_eq_false hb)] at h
    refine go_ops aMi260 1 _ (f1 := (9, ([(0, .ref a0)], [.ref a0]))) rfl ?_
    refine gg_gI aMi260 rfl rfl rfl (gI_of (sh11_z ha0)) ?_
    refine go_ops aMi260 1 _ (f1 := (15, ([(0, .ref a0)], [.int (1000 : Int32), .int (I a0 38)]))) rfl ?_
    refine gg_br (b := decide ((1000 : Int32) ≤ (I a0 38))) (tg := 22) (off := 7) aMi260 rfl rfl rfl rfl (fun hb => ?_) (fun hb => ?_)
    · rw [if_pos (of_decide_eq_true hb)] at h
      refine go_le (lv1 := []) (aLe_of (show (List.map (fun q => q.1) ([] : ALv)).Nodup from (by show ([] : List Nat).Nodup; decide)) aSubL_nil) ?_
      exact Tf260_b22 hd a0 ha0 I _ h
    · rw [if_neg (of_decide_eq_false hb)] at h
      refine go_ops aMi260 2 _ (f1 := (23, ([(0, .ref a0)], [.int (1 : Int32)]))) rfl ?_
      refine go_le (lv1 := []) (aLe_of (show (List.map (fun q => q.1) ([] : ALv)).Nodup from (by show ([] : List Nat).Nodup; decide)) aSubL_nil) ?_
      exact Tf260_b23 hd a0 ha0 (1 : Int32) I _ h
-- KernelGymModel.stepsAndKeeps ()V
def f261_b24 (kad : Nat → Nat) (N : Nat) (Z : AZ) (a0 : Nat) (s0 : Int32) (s1 : Int32) (I : AI) : Option (Unit × AI) :=
  (wI I a0 40 (s1 + s0)).bind fun I25_1 =>
  some ((), I25_1)
set_option maxRecDepth 20000 in
theorem Tf261_b24 {kad : Nat → Nat} {N : Nat} {Z : AZ} {d : Nat} {t : Option Nat × (Nat × Nat)} (hd : 7 ≤ d) : ∀ (a0 : Nat) (ha0 : sh11 kad Z a0) (s0 : Int32) (s1 : Int32) (I : AI) (r : Unit × AI), f261_b24 kad N Z a0 s0 s1 I = some r → aGo kad d 261 (24, ([], [.int s0, .int s1, .ref a0])) (aMem Z I, t) (qV Z t r) := by
  intro a0 ha0 s0 s1 I r h
  unfold f261_b24 at h
  refine go_ops aMi261 1 _ (f1 := (25, ([], [.int (s1 + s0), .ref a0]))) rfl ?_
  obtain ⟨I25_1, hxI25_1, h⟩ := Option.bind_eq_some_iff.mp h
  refine gg_pI aMi261 rfl rfl rfl rfl (by decide) (pI_of (sh11_z ha0) hxI25_1) ?_
  cases h
  exact go_ret aMi261 rfl rfl ⟨rfl, rfl⟩
def f261 (kad : Nat → Nat) (N : Nat) (Z : AZ) (a0 : Nat) (I : AI) : Option (Unit × AI) :=
  (f234 kad N Z a0 I).bind fun r1_1 =>
  if (200 : Int32) ≤ ((r1_1.2) a0 40) then
    f261_b24 kad N Z a0 (0 : Int32) ((r1_1.2) a0 40) r1_1.2
  else
    f261_b24 kad N Z a0 (1 : Int32) ((r1_1.2) a0 40) r1_1.2
set_option maxRecDepth 20000 in
theorem Tf261 {kad : Nat → Nat} {N : Nat} {Z : AZ} {d : Nat} {t : Option Nat × (Nat × Nat)} (hd : 7 ≤ d) : ∀ (a0 : Nat) (ha0 : sh11 kad Z a0) (I : AI) (r : Unit × AI), f261 kad N Z a0 I = some r → aGo kad d 261 (0, ([(0, .ref a0)], [])) (aMem Z I, t) (qV Z t r) := by
  intro a0 ha0 I r h
  unfold f261 at h
  refine go_ops aMi261 1 _ (f1 := (1, ([(0, .ref a0)], [.ref a0]))) rfl ?_
  obtain ⟨r1_1, hxr1_1, h⟩ := Option.bind_eq_some_iff.mp h
  refine gg_cv (as := []) (r := []) aMi261 rfl rfl rfl aMi234 (Nat.le_of_ble_eq_true rfl) rfl (Nat.le_of_ble_eq_true rfl) (Nat.le_of_ble_eq_true rfl) (by omega) (isK_of (sh11_z ha0)) (Tf234 (by omega) a0 ha0 I _ hxr1_1) ?_
  show aGo kad d 261 (4, ([(0, .ref a0)], [])) (aMem Z r1_1.2, t) _
  refine go_ops aMi261 2 _ (f1 := (6, ([(0, .ref a0)], [.ref a0, .ref a0]))) rfl ?_
  refine gg_gI aMi261 rfl rfl rfl (gI_of (sh11_z ha0)) ?_
  refine go_ops aMi261 1 _ (f1 := (10, ([(0, .ref a0)], [.ref a0, .int ((r1_1.2) a0 40), .ref a0]))) rfl ?_
  refine gg_gI aMi261 rfl rfl rfl (gI_of (sh11_z ha0)) ?_
  refine go_ops aMi261 1 _ (f1 := (16, ([(0, .ref a0)], [.int (200 : Int32), .int ((r1_1.2) a0 40), .int ((r1_1.2) a0 40), .ref a0]))) rfl ?_
  refine gg_br (b := decide ((200 : Int32) ≤ ((r1_1.2) a0 40))) (tg := 23) (off := 7) aMi261 rfl rfl rfl rfl (fun hb => ?_) (fun hb => ?_)
  · rw [if_pos (of_decide_eq_true hb)] at h
    refine go_ops aMi261 1 _ (f1 := (24, ([(0, .ref a0)], [.int (0 : Int32), .int ((r1_1.2) a0 40), .ref a0]))) rfl ?_
    refine go_le (lv1 := []) (aLe_of (show (List.map (fun q => q.1) ([] : ALv)).Nodup from (by show ([] : List Nat).Nodup; decide)) aSubL_nil) ?_
    exact Tf261_b24 hd a0 ha0 (0 : Int32) ((r1_1.2) a0 40) r1_1.2 _ h
  · rw [if_neg (of_decide_eq_false hb)] at h
    refine go_ops aMi261 2 _ (f1 := (24, ([(0, .ref a0)], [.int (1 : Int32), .int ((r1_1.2) a0 40), .ref a0]))) rfl ?_
    refine go_le (lv1 := []) (aLe_of (show (List.map (fun q => q.1) ([] : ALv)).Nodup from (by show ([] : List Nat).Nodup; decide)) aSubL_nil) ?_
    exact Tf261_b24 hd a0 ha0 (1 : Int32) ((r1_1.2) a0 40) r1_1.2 _ h
-- KernelGymModel.step (I)I
def f262_b59 (kad : Nat → Nat) (N : Nat) (Z : AZ) (a0 : Nat) (i2 : Int32) (I : AI) : Option (Int32 × AI) :=
  some (i2, I)
set_option maxRecDepth 20000 in
theorem Tf262_b59 {kad : Nat → Nat} {N : Nat} {Z : AZ} {d : Nat} {t : Option Nat × (Nat × Nat)} (hd : 8 ≤ d) : ∀ (a0 : Nat) (ha0 : sh11 kad Z a0) (i2 : Int32) (I : AI) (r : Int32 × AI), f262_b59 kad N Z a0 i2 I = some r → aGo kad d 262 (59, ([(2, .int i2)], [])) (aMem Z I, t) (qI Z t r) := by
  intro a0 ha0 i2 I r h
  unfold f262_b59 at h
  refine go_ops aMi262 1 _ (f1 := (60, ([(2, .int i2)], [.int i2]))) rfl ?_
  cases h
  exact go_ret aMi262 rfl aRetI ⟨rfl, rfl⟩
def f262_b37 (kad : Nat → Nat) (N : Nat) (Z : AZ) : Nat → Nat → Int32 → Int32 → AI → Option (Int32 × AI)
  | 0, _, _, _, _ => none
  | F + 1, a0, i1, i2, I =>
    if i1 ≤ i2 then
      f262_b59 kad N Z a0 i2 I
    else
      (f260 kad N Z a0 I).bind fun r43_1 =>
      if r43_1.1 = 0 then
        f262_b59 kad N Z a0 i2 r43_1.2
      else
        (f261 kad N Z a0 r43_1.2).bind fun r50_2 =>
        f262_b37 kad N Z F a0 i1 (i2 + (1 : Int32)) r50_2.2
set_option maxRecDepth 20000 in
theorem Tf262_b37 {kad : Nat → Nat} {N : Nat} {Z : AZ} {d : Nat} {t : Option Nat × (Nat × Nat)} (hd : 8 ≤ d) : ∀ (F : Nat) (a0 : Nat) (ha0 : sh11 kad Z a0) (i1 : Int32) (i2 : Int32) (I : AI) (r : Int32 × AI), f262_b37 kad N Z F a0 i1 i2 I = some r → aGo kad d 262 (37, ([(0, .ref a0), (1, .int i1), (2, .int i2)], [])) (aMem Z I, t) (qI Z t r) := by
  intro F
  induction F with
  | zero => intro a0 ha0 i1 i2 I r h; cases h
  | succ F ih =>
    intro a0 ha0 i1 i2 I r h
    unfold f262_b37 at h
    refine go_ops aMi262 2 _ (f1 := (39, ([(0, .ref a0), (1, .int i1), (2, .int i2)], [.int i1, .int i2]))) rfl ?_
    refine gg_br (b := decide (i1 ≤ i2)) (tg := 59) (off := 20) aMi262 rfl rfl rfl rfl (fun hb => ?_) (fun hb => ?_)
    · rw [if_pos (of_decide_eq_true hb)] at h
      refine go_le (lv1 := [(2, .int i2)]) (aLe_of (show (List.map (fun q => q.1) ([(2, .int i2)] : ALv)).Nodup from (by show ([2] : List Nat).Nodup; decide)) (aSubL_cons rfl aSubL_nil)) ?_
      exact Tf262_b59 hd a0 ha0 i2 I _ h
    · rw [if_neg (of_decide_eq_false hb)] at h
      refine go_ops aMi262 1 _ (f1 := (43, ([(0, .ref a0), (1, .int i1), (2, .int i2)], [.ref a0]))) rfl ?_
      obtain ⟨r43_1, hxr43_1, h⟩ := Option.bind_eq_some_iff.mp h
      refine gg_cv (as := []) (r := []) aMi262 rfl rfl rfl aMi260 (Nat.le_of_ble_eq_true rfl) rfl (Nat.le_of_ble_eq_true rfl) (Nat.le_of_ble_eq_true rfl) (by omega) (isK_of (sh11_z ha0)) (Tf260 (by omega) a0 ha0 I _ hxr43_1) ?_
      show aGo kad d 262 (46, ([(0, .ref a0), (1, .int i1), (2, .int i2)], [.int r43_1.1])) (aMem Z r43_1.2, t) _
      refine gg_br (b := decide (r43_1.1 = 0)) (tg := 59) (off := 13) aMi262 rfl rfl rfl rfl (fun hb => ?_) (fun hb => ?_)
      · rw [if_pos (of_decide_eq_true hb)] at h
        refine go_le (lv1 := [(2, .int i2)]) (aLe_of (show (List.map (fun q => q.1) ([(2, .int i2)] : ALv)).Nodup from (by show ([2] : List Nat).Nodup; decide)) (aSubL_cons rfl aSubL_nil)) ?_
        exact Tf262_b59 hd a0 ha0 i2 r43_1.2 _ h
      · rw [if_neg (of_decide_eq_false hb)] at h
        refine go_ops aMi262 1 _ (f1 := (50, ([(0, .ref a0), (1, .int i1), (2, .int i2)], [.ref a0]))) rfl ?_
        obtain ⟨r50_2, hxr50_2, h⟩ := Option.bind_eq_some_iff.mp h
        refine gg_cv (as := []) (r := []) aMi262 rfl rfl rfl aMi261 (Nat.le_of_ble_eq_true rfl) rfl (Nat.le_of_ble_eq_true rfl) (Nat.le_of_ble_eq_true rfl) (by omega) (isK_of (sh11_z ha0)) (Tf261 (by omega) a0 ha0 r43_1.2 _ hxr50_2) ?_
        show aGo kad d 262 (53, ([(0, .ref a0), (1, .int i1), (2, .int i2)], [])) (aMem Z r50_2.2, t) _
        refine go_ops aMi262 2 _ (f1 := (37, ([(2, .int (i2 + (1 : Int32))), (0, .ref a0), (1, .int i1)], []))) rfl ?_
        refine go_le (lv1 := [(0, .ref a0), (1, .int i1), (2, .int (i2 + (1 : Int32)))]) (aLe_of (show (List.map (fun q => q.1) ([(0, .ref a0), (1, .int i1), (2, .int (i2 + (1 : Int32)))] : ALv)).Nodup from (by show ([0, 1, 2] : List Nat).Nodup; decide)) (aSubL_cons rfl (aSubL_cons rfl (aSubL_cons rfl aSubL_nil)))) ?_
        exact ih a0 ha0 i1 (i2 + (1 : Int32)) r50_2.2 _ h
def f262_b27 (kad : Nat → Nat) (N : Nat) (Z : AZ) (a0 : Nat) (i1 : Int32) (s0 : Int32) (I : AI) : Option (Int32 × AI) :=
  (f185 kad N Z a0 s0 I).bind fun r27_1 =>
  if ¬ r27_1.1 = 0 then
    f262_b37 kad N Z N a0 i1 (0 : Int32) r27_1.2
  else
    some ((0 : Int32), r27_1.2)
set_option maxRecDepth 20000 in
theorem Tf262_b27 {kad : Nat → Nat} {N : Nat} {Z : AZ} {d : Nat} {t : Option Nat × (Nat × Nat)} (hd : 8 ≤ d) : ∀ (a0 : Nat) (ha0 : sh11 kad Z a0) (i1 : Int32) (s0 : Int32) (I : AI) (r : Int32 × AI), f262_b27 kad N Z a0 i1 s0 I = some r → aGo kad d 262 (27, ([(0, .ref a0), (1, .int i1)], [.int s0, .ref a0])) (aMem Z I, t) (qI Z t r) := by
  intro a0 ha0 i1 s0 I r h
  unfold f262_b27 at h
  obtain ⟨r27_1, hxr27_1, h⟩ := Option.bind_eq_some_iff.mp h
  refine gg_cv (as := [.int s0]) (r := []) aMi262 rfl rfl rfl aMi185 (Nat.le_of_ble_eq_true rfl) rfl (Nat.le_of_ble_eq_true rfl) (Nat.le_of_ble_eq_true rfl) (by omega) (isK_of (sh11_z ha0)) (Tf185 (by omega) a0 ha0 s0 I _ hxr27_1) ?_
  show aGo kad d 262 (30, ([(0, .ref a0), (1, .int i1)], [.int r27_1.1])) (aMem Z r27_1.2, t) _
  refine gg_br (b := decide (¬ r27_1.1 = 0)) (tg := 35) (off := 5) aMi262 rfl rfl rfl rfl (fun hb => ?_) (fun hb => ?_)
  · rw [if_pos (of_decide_eq_true hb)] at h
    refine go_ops aMi262 2 _ (f1 := (37, ([(2, .int (0 : Int32)), (0, .ref a0), (1, .int i1)], []))) rfl ?_
    refine go_le (lv1 := [(0, .ref a0), (1, .int i1), (2, .int (0 : Int32))]) (aLe_of (show (List.map (fun q => q.1) ([(0, .ref a0), (1, .int i1), (2, .int (0 : Int32))] : ALv)).Nodup from (by show ([0, 1, 2] : List Nat).Nodup; decide)) (aSubL_cons rfl (aSubL_cons rfl (aSubL_cons rfl aSubL_nil)))) ?_
    exact Tf262_b37 hd N a0 ha0 i1 (0 : Int32) r27_1.2 _ h
  · rw [if_neg (of_decide_eq_false hb)] at h
    refine go_ops aMi262 1 _ (f1 := (34, ([(0, .ref a0), (1, .int i1)], [.int (0 : Int32)]))) rfl ?_
    cases h
    exact go_ret aMi262 rfl aRetI ⟨rfl, rfl⟩
def f262 (kad : Nat → Nat) (N : Nat) (Z : AZ) (a0 : Nat) (i1 : Int32) (I : AI) : Option (Int32 × AI) :=
  (f186 kad N Z i1 (1 : Int32) (100 : Int32) I).bind fun r5_1 =>
  if ¬ r5_1.1 = 0 then
    (f216 kad N Z a0 r5_1.2).bind fun r16_2 =>
    if r16_2.1 = 0 then
      f262_b27 kad N Z a0 i1 (2 : Int32) r16_2.2
    else
      f262_b27 kad N Z a0 i1 (0 : Int32) r16_2.2
  else
    f262_b27 kad N Z a0 i1 (1 : Int32) r5_1.2
set_option maxRecDepth 20000 in
theorem Tf262 {kad : Nat → Nat} {N : Nat} {Z : AZ} {d : Nat} {t : Option Nat × (Nat × Nat)} (hd : 8 ≤ d) : ∀ (a0 : Nat) (ha0 : sh11 kad Z a0) (i1 : Int32) (I : AI) (r : Int32 × AI), f262 kad N Z a0 i1 I = some r → aGo kad d 262 (0, ([(0, .ref a0), (1, .int i1)], [])) (aMem Z I, t) (qI Z t r) := by
  intro a0 ha0 i1 I r h
  unfold f262 at h
  refine go_ops aMi262 4 _ (f1 := (5, ([(0, .ref a0), (1, .int i1)], [.int (100 : Int32), .int (1 : Int32), .int i1, .ref a0]))) rfl ?_
  obtain ⟨r5_1, hxr5_1, h⟩ := Option.bind_eq_some_iff.mp h
  refine gg_cs (as := [.int i1, .int (1 : Int32), .int (100 : Int32)]) (r := [.ref a0]) aMi262 rfl rfl rfl aMi186 rfl (Nat.le_of_ble_eq_true rfl) (Nat.le_of_ble_eq_true rfl) (by omega) (Tf186 (by omega) i1 (1 : Int32) (100 : Int32) I _ hxr5_1) ?_
  show aGo kad d 262 (8, ([(0, .ref a0), (1, .int i1)], [.int r5_1.1, .ref a0])) (aMem Z r5_1.2, t) _
  refine gg_br (b := decide (¬ r5_1.1 = 0)) (tg := 15) (off := 7) aMi262 rfl rfl rfl rfl (fun hb => ?_) (fun hb => ?_)
  · rw [if_pos (of_decide_eq_true hb)] at h
    refine go_ops aMi262 1 _ (f1 := (16, ([(0, .ref a0), (1, .int i1)], [.ref a0, .ref a0]))) rfl ?_
    obtain ⟨r16_2, hxr16_2, h⟩ := Option.bind_eq_some_iff.mp h
    refine gg_cv (as := []) (r := [.ref a0]) aMi262 rfl rfl rfl aMi216 (Nat.le_of_ble_eq_true rfl) rfl (Nat.le_of_ble_eq_true rfl) (Nat.le_of_ble_eq_true rfl) (by omega) (isK_of (sh11_z ha0)) (Tf216 (by omega) a0 ha0 r5_1.2 _ hxr16_2) ?_
    show aGo kad d 262 (19, ([(0, .ref a0), (1, .int i1)], [.int r16_2.1, .ref a0])) (aMem Z r16_2.2, t) _
    refine gg_br (b := decide (r16_2.1 = 0)) (tg := 26) (off := 7) aMi262 rfl rfl rfl rfl (fun hb => ?_) (fun hb => ?_)
    · rw [if_pos (of_decide_eq_true hb)] at h
      refine go_ops aMi262 1 _ (f1 := (27, ([(0, .ref a0), (1, .int i1)], [.int (2 : Int32), .ref a0]))) rfl ?_
      exact Tf262_b27 hd a0 ha0 i1 (2 : Int32) r16_2.2 _ h
    · rw [if_neg (of_decide_eq_false hb)] at h
      refine go_ops aMi262 2 _ (f1 := (27, ([(0, .ref a0), (1, .int i1)], [.int (0 : Int32), .ref a0]))) rfl ?_
      exact Tf262_b27 hd a0 ha0 i1 (0 : Int32) r16_2.2 _ h
  · rw [if_neg (of_decide_eq_false hb)] at h
    refine go_ops aMi262 2 _ (f1 := (27, ([(0, .ref a0), (1, .int i1)], [.int (1 : Int32), .ref a0]))) rfl ?_
    exact Tf262_b27 hd a0 ha0 i1 (1 : Int32) r5_1.2 _ h
-- KernelGymModel.runTo (II)I
def f263_b95 (kad : Nat → Nat) (N : Nat) (Z : AZ) (k51 : Nat → Int32 → Int32 → Int32 → Int32 → AI → Option (Int32 × AI)) (a0 : Nat) (i1 : Int32) (i2 : Int32) (i3 : Int32) (s0 : Int32) (I : AI) : Option (Int32 × AI) :=
  k51 a0 i1 i2 i3 s0 I
set_option maxRecDepth 20000 in
theorem Tf263_b95 {kad : Nat → Nat} {N : Nat} {Z : AZ} {d : Nat} {t : Option Nat × (Nat × Nat)} (hd : 8 ≤ d) (k51 : Nat → Int32 → Int32 → Int32 → Int32 → AI → Option (Int32 × AI))  (hk51 : ∀ (a0 : Nat) (ha0 : sh11 kad Z a0) (i1 : Int32) (i2 : Int32) (i3 : Int32) (i4 : Int32) (I : AI) (r : Int32 × AI), k51 a0 i1 i2 i3 i4 I = some r → aGo kad d 263 (51, ([(0, .ref a0), (1, .int i1), (2, .int i2), (3, .int i3), (4, .int i4)], [])) (aMem Z I, t) (qI Z t r)) : ∀ (a0 : Nat) (ha0 : sh11 kad Z a0) (i1 : Int32) (i2 : Int32) (i3 : Int32) (s0 : Int32) (I : AI) (r : Int32 × AI), f263_b95 kad N Z k51 a0 i1 i2 i3 s0 I = some r → aGo kad d 263 (95, ([(0, .ref a0), (1, .int i1), (2, .int i2), (3, .int i3)], [.int s0])) (aMem Z I, t) (qI Z t r) := by
  intro a0 ha0 i1 i2 i3 s0 I r h
  unfold f263_b95 at h
  refine go_ops aMi263 2 _ (f1 := (51, ([(4, .int s0), (0, .ref a0), (1, .int i1), (2, .int i2), (3, .int i3)], []))) rfl ?_
  refine go_le (lv1 := [(0, .ref a0), (1, .int i1), (2, .int i2), (3, .int i3), (4, .int s0)]) (aLe_of (show (List.map (fun q => q.1) ([(0, .ref a0), (1, .int i1), (2, .int i2), (3, .int i3), (4, .int s0)] : ALv)).Nodup from (by show ([0, 1, 2, 3, 4] : List Nat).Nodup; decide)) (aSubL_cons rfl (aSubL_cons rfl (aSubL_cons rfl (aSubL_cons rfl (aSubL_cons rfl aSubL_nil)))))) ?_
  exact hk51 a0 ha0 i1 i2 i3 s0 I _ h
def f263_b94 (kad : Nat → Nat) (N : Nat) (Z : AZ) (k51 : Nat → Int32 → Int32 → Int32 → Int32 → AI → Option (Int32 × AI)) (a0 : Nat) (i1 : Int32) (i2 : Int32) (i3 : Int32) (I : AI) : Option (Int32 × AI) :=
  f263_b95 kad N Z k51 a0 i1 i2 i3 (0 : Int32) I
set_option maxRecDepth 20000 in
theorem Tf263_b94 {kad : Nat → Nat} {N : Nat} {Z : AZ} {d : Nat} {t : Option Nat × (Nat × Nat)} (hd : 8 ≤ d) (k51 : Nat → Int32 → Int32 → Int32 → Int32 → AI → Option (Int32 × AI))  (hk51 : ∀ (a0 : Nat) (ha0 : sh11 kad Z a0) (i1 : Int32) (i2 : Int32) (i3 : Int32) (i4 : Int32) (I : AI) (r : Int32 × AI), k51 a0 i1 i2 i3 i4 I = some r → aGo kad d 263 (51, ([(0, .ref a0), (1, .int i1), (2, .int i2), (3, .int i3), (4, .int i4)], [])) (aMem Z I, t) (qI Z t r)) : ∀ (a0 : Nat) (ha0 : sh11 kad Z a0) (i1 : Int32) (i2 : Int32) (i3 : Int32) (I : AI) (r : Int32 × AI), f263_b94 kad N Z k51 a0 i1 i2 i3 I = some r → aGo kad d 263 (94, ([(0, .ref a0), (1, .int i1), (2, .int i2), (3, .int i3)], [])) (aMem Z I, t) (qI Z t r) := by
  intro a0 ha0 i1 i2 i3 I r h
  unfold f263_b94 at h
  refine go_ops aMi263 1 _ (f1 := (95, ([(0, .ref a0), (1, .int i1), (2, .int i2), (3, .int i3)], [.int (0 : Int32)]))) rfl ?_
  exact Tf263_b95 hd k51 hk51 a0 ha0 i1 i2 i3 (0 : Int32) I _ h
def f263_b100 (kad : Nat → Nat) (N : Nat) (Z : AZ) (a0 : Nat) (i3 : Int32) (I : AI) : Option (Int32 × AI) :=
  some (i3, I)
set_option maxRecDepth 20000 in
theorem Tf263_b100 {kad : Nat → Nat} {N : Nat} {Z : AZ} {d : Nat} {t : Option Nat × (Nat × Nat)} (hd : 8 ≤ d) : ∀ (a0 : Nat) (ha0 : sh11 kad Z a0) (i3 : Int32) (I : AI) (r : Int32 × AI), f263_b100 kad N Z a0 i3 I = some r → aGo kad d 263 (100, ([(3, .int i3)], [])) (aMem Z I, t) (qI Z t r) := by
  intro a0 ha0 i3 I r h
  unfold f263_b100 at h
  refine go_ops aMi263 1 _ (f1 := (101, ([(3, .int i3)], [.int i3]))) rfl ?_
  cases h
  exact go_ret aMi263 rfl aRetI ⟨rfl, rfl⟩
def f263_b51 (kad : Nat → Nat) (N : Nat) (Z : AZ) : Nat → Nat → Int32 → Int32 → Int32 → Int32 → AI → Option (Int32 × AI)
  | 0, _, _, _, _, _, _ => none
  | F + 1, a0, i1, i2, i3, i4, I =>
    if i2 ≤ i3 then
      f263_b100 kad N Z a0 i3 I
    else
      if ¬ i4 = 0 then
        f263_b100 kad N Z a0 i3 I
      else
        (f260 kad N Z a0 I).bind fun r62_1 =>
        if r62_1.1 = 0 then
          f263_b100 kad N Z a0 i3 r62_1.2
        else
          (f261 kad N Z a0 r62_1.2).bind fun r69_2 =>
          if ¬ ((r69_2.2) a0 27) = i1 then
            f263_b94 kad N Z (fun p0 p1 p2 p3 p4 I => f263_b51 kad N Z F p0 p1 p2 p3 p4 I) a0 i1 i2 (i3 + (1 : Int32)) r69_2.2
          else
            if ¬ ((r69_2.2) a0 46) = 0 then
              f263_b94 kad N Z (fun p0 p1 p2 p3 p4 I => f263_b51 kad N Z F p0 p1 p2 p3 p4 I) a0 i1 i2 (i3 + (1 : Int32)) r69_2.2
            else
              f263_b95 kad N Z (fun p0 p1 p2 p3 p4 I => f263_b51 kad N Z F p0 p1 p2 p3 p4 I) a0 i1 i2 (i3 + (1 : Int32)) (1 : Int32) r69_2.2
set_option maxRecDepth 20000 in
theorem Tf263_b51 {kad : Nat → Nat} {N : Nat} {Z : AZ} {d : Nat} {t : Option Nat × (Nat × Nat)} (hd : 8 ≤ d) : ∀ (F : Nat) (a0 : Nat) (ha0 : sh11 kad Z a0) (i1 : Int32) (i2 : Int32) (i3 : Int32) (i4 : Int32) (I : AI) (r : Int32 × AI), f263_b51 kad N Z F a0 i1 i2 i3 i4 I = some r → aGo kad d 263 (51, ([(0, .ref a0), (1, .int i1), (2, .int i2), (3, .int i3), (4, .int i4)], [])) (aMem Z I, t) (qI Z t r) := by
  intro F
  induction F with
  | zero => intro a0 ha0 i1 i2 i3 i4 I r h; cases h
  | succ F ih =>
    intro a0 ha0 i1 i2 i3 i4 I r h
    unfold f263_b51 at h
    refine go_ops aMi263 2 _ (f1 := (53, ([(0, .ref a0), (1, .int i1), (2, .int i2), (3, .int i3), (4, .int i4)], [.int i2, .int i3]))) rfl ?_
    refine gg_br (b := decide (i2 ≤ i3)) (tg := 100) (off := 47) aMi263 rfl rfl rfl rfl (fun hb => ?_) (fun hb => ?_)
    · rw [if_pos (of_decide_eq_true hb)] at h
      refine go_le (lv1 := [(3, .int i3)]) (aLe_of (show (List.map (fun q => q.1) ([(3, .int i3)] : ALv)).Nodup from (by show ([3] : List Nat).Nodup; decide)) (aSubL_cons rfl aSubL_nil)) ?_
      exact Tf263_b100 hd a0 ha0 i3 I _ h
    · rw [if_neg (of_decide_eq_false hb)] at h
      refine go_ops aMi263 1 _ (f1 := (58, ([(0, .ref a0), (1, .int i1), (2, .int i2), (3, .int i3), (4, .int i4)], [.int i4]))) rfl ?_
      refine gg_br (b := decide (¬ i4 = 0)) (tg := 100) (off := 42) aMi263 rfl rfl rfl rfl (fun hb => ?_) (fun hb => ?_)
      · rw [if_pos (of_decide_eq_true hb)] at h
        refine go_le (lv1 := [(3, .int i3)]) (aLe_of (show (List.map (fun q => q.1) ([(3, .int i3)] : ALv)).Nodup from (by show ([3] : List Nat).Nodup; decide)) (aSubL_cons rfl aSubL_nil)) ?_
        exact Tf263_b100 hd a0 ha0 i3 I _ h
      · rw [if_neg (of_decide_eq_false hb)] at h
        refine go_ops aMi263 1 _ (f1 := (62, ([(0, .ref a0), (1, .int i1), (2, .int i2), (3, .int i3), (4, .int i4)], [.ref a0]))) rfl ?_
        obtain ⟨r62_1, hxr62_1, h⟩ := Option.bind_eq_some_iff.mp h
        refine gg_cv (as := []) (r := []) aMi263 rfl rfl rfl aMi260 (Nat.le_of_ble_eq_true rfl) rfl (Nat.le_of_ble_eq_true rfl) (Nat.le_of_ble_eq_true rfl) (by omega) (isK_of (sh11_z ha0)) (Tf260 (by omega) a0 ha0 I _ hxr62_1) ?_
        show aGo kad d 263 (65, ([(0, .ref a0), (1, .int i1), (2, .int i2), (3, .int i3), (4, .int i4)], [.int r62_1.1])) (aMem Z r62_1.2, t) _
        refine gg_br (b := decide (r62_1.1 = 0)) (tg := 100) (off := 35) aMi263 rfl rfl rfl rfl (fun hb => ?_) (fun hb => ?_)
        · rw [if_pos (of_decide_eq_true hb)] at h
          refine go_le (lv1 := [(3, .int i3)]) (aLe_of (show (List.map (fun q => q.1) ([(3, .int i3)] : ALv)).Nodup from (by show ([3] : List Nat).Nodup; decide)) (aSubL_cons rfl aSubL_nil)) ?_
          exact Tf263_b100 hd a0 ha0 i3 r62_1.2 _ h
        · rw [if_neg (of_decide_eq_false hb)] at h
          refine go_ops aMi263 1 _ (f1 := (69, ([(0, .ref a0), (1, .int i1), (2, .int i2), (3, .int i3), (4, .int i4)], [.ref a0]))) rfl ?_
          obtain ⟨r69_2, hxr69_2, h⟩ := Option.bind_eq_some_iff.mp h
          refine gg_cv (as := []) (r := []) aMi263 rfl rfl rfl aMi261 (Nat.le_of_ble_eq_true rfl) rfl (Nat.le_of_ble_eq_true rfl) (Nat.le_of_ble_eq_true rfl) (by omega) (isK_of (sh11_z ha0)) (Tf261 (by omega) a0 ha0 r62_1.2 _ hxr69_2) ?_
          show aGo kad d 263 (72, ([(0, .ref a0), (1, .int i1), (2, .int i2), (3, .int i3), (4, .int i4)], [])) (aMem Z r69_2.2, t) _
          refine go_ops aMi263 2 _ (f1 := (76, ([(3, .int (i3 + (1 : Int32))), (0, .ref a0), (1, .int i1), (2, .int i2), (4, .int i4)], [.ref a0]))) rfl ?_
          refine gg_gI aMi263 rfl rfl rfl (gI_of (sh11_z ha0)) ?_
          refine go_ops aMi263 1 _ (f1 := (80, ([(3, .int (i3 + (1 : Int32))), (0, .ref a0), (1, .int i1), (2, .int i2), (4, .int i4)], [.int i1, .int ((r69_2.2) a0 27)]))) rfl ?_
          refine gg_br (b := decide (¬ ((r69_2.2) a0 27) = i1)) (tg := 94) (off := 14) aMi263 rfl rfl rfl rfl (fun hb => ?_) (fun hb => ?_)
          · rw [if_pos (of_decide_eq_true hb)] at h
            refine go_le (lv1 := [(0, .ref a0), (1, .int i1), (2, .int i2), (3, .int (i3 + (1 : Int32)))]) (aLe_of (show (List.map (fun q => q.1) ([(0, .ref a0), (1, .int i1), (2, .int i2), (3, .int (i3 + (1 : Int32)))] : ALv)).Nodup from (by show ([0, 1, 2, 3] : List Nat).Nodup; decide)) (aSubL_cons rfl (aSubL_cons rfl (aSubL_cons rfl (aSubL_cons rfl aSubL_nil))))) ?_
            exact Tf263_b94 hd (fun p0 p1 p2 p3 p4 I => f263_b51 kad N Z F p0 p1 p2 p3 p4 I) (fun p0 q0 p1 p2 p3 p4 I r hh => ih p0 q0 p1 p2 p3 p4 I r hh) a0 ha0 i1 i2 (i3 + (1 : Int32)) r69_2.2 _ h
          · rw [if_neg (of_decide_eq_false hb)] at h
            refine go_ops aMi263 1 _ (f1 := (84, ([(3, .int (i3 + (1 : Int32))), (0, .ref a0), (1, .int i1), (2, .int i2), (4, .int i4)], [.ref a0]))) rfl ?_
            refine gg_gI aMi263 rfl rfl rfl (gI_of (sh11_z ha0)) ?_
            refine gg_br (b := decide (¬ ((r69_2.2) a0 46) = 0)) (tg := 94) (off := 7) aMi263 rfl rfl rfl rfl (fun hb => ?_) (fun hb => ?_)
            · rw [if_pos (of_decide_eq_true hb)] at h
              refine go_le (lv1 := [(0, .ref a0), (1, .int i1), (2, .int i2), (3, .int (i3 + (1 : Int32)))]) (aLe_of (show (List.map (fun q => q.1) ([(0, .ref a0), (1, .int i1), (2, .int i2), (3, .int (i3 + (1 : Int32)))] : ALv)).Nodup from (by show ([0, 1, 2, 3] : List Nat).Nodup; decide)) (aSubL_cons rfl (aSubL_cons rfl (aSubL_cons rfl (aSubL_cons rfl aSubL_nil))))) ?_
              exact Tf263_b94 hd (fun p0 p1 p2 p3 p4 I => f263_b51 kad N Z F p0 p1 p2 p3 p4 I) (fun p0 q0 p1 p2 p3 p4 I r hh => ih p0 q0 p1 p2 p3 p4 I r hh) a0 ha0 i1 i2 (i3 + (1 : Int32)) r69_2.2 _ h
            · rw [if_neg (of_decide_eq_false hb)] at h
              refine go_ops aMi263 2 _ (f1 := (95, ([(3, .int (i3 + (1 : Int32))), (0, .ref a0), (1, .int i1), (2, .int i2), (4, .int i4)], [.int (1 : Int32)]))) rfl ?_
              refine go_le (lv1 := [(0, .ref a0), (1, .int i1), (2, .int i2), (3, .int (i3 + (1 : Int32)))]) (aLe_of (show (List.map (fun q => q.1) ([(0, .ref a0), (1, .int i1), (2, .int i2), (3, .int (i3 + (1 : Int32)))] : ALv)).Nodup from (by show ([0, 1, 2, 3] : List Nat).Nodup; decide)) (aSubL_cons rfl (aSubL_cons rfl (aSubL_cons rfl (aSubL_cons rfl aSubL_nil))))) ?_
              exact Tf263_b95 hd (fun p0 p1 p2 p3 p4 I => f263_b51 kad N Z F p0 p1 p2 p3 p4 I) (fun p0 q0 p1 p2 p3 p4 I r hh => ih p0 q0 p1 p2 p3 p4 I r hh) a0 ha0 i1 i2 (i3 + (1 : Int32)) (1 : Int32) r69_2.2 _ h
def f263_b38 (kad : Nat → Nat) (N : Nat) (Z : AZ) (a0 : Nat) (i1 : Int32) (i2 : Int32) (s0 : Int32) (I : AI) : Option (Int32 × AI) :=
  (f185 kad N Z a0 s0 I).bind fun r38_1 =>
  if ¬ r38_1.1 = 0 then
    f263_b51 kad N Z N a0 i1 i2 (0 : Int32) (0 : Int32) r38_1.2
  else
    some ((0 : Int32), r38_1.2)
set_option maxRecDepth 20000 in
theorem Tf263_b38 {kad : Nat → Nat} {N : Nat} {Z : AZ} {d : Nat} {t : Option Nat × (Nat × Nat)} (hd : 8 ≤ d) : ∀ (a0 : Nat) (ha0 : sh11 kad Z a0) (i1 : Int32) (i2 : Int32) (s0 : Int32) (I : AI) (r : Int32 × AI), f263_b38 kad N Z a0 i1 i2 s0 I = some r → aGo kad d 263 (38, ([(0, .ref a0), (1, .int i1), (2, .int i2)], [.int s0, .ref a0])) (aMem Z I, t) (qI Z t r) := by
  intro a0 ha0 i1 i2 s0 I r h
  unfold f263_b38 at h
  obtain ⟨r38_1, hxr38_1, h⟩ := Option.bind_eq_some_iff.mp h
  refine gg_cv (as := [.int s0]) (r := []) aMi263 rfl rfl rfl aMi185 (Nat.le_of_ble_eq_true rfl) rfl (Nat.le_of_ble_eq_true rfl) (Nat.le_of_ble_eq_true rfl) (by omega) (isK_of (sh11_z ha0)) (Tf185 (by omega) a0 ha0 s0 I _ hxr38_1) ?_
  show aGo kad d 263 (41, ([(0, .ref a0), (1, .int i1), (2, .int i2)], [.int r38_1.1])) (aMem Z r38_1.2, t) _
  refine gg_br (b := decide (¬ r38_1.1 = 0)) (tg := 46) (off := 5) aMi263 rfl rfl rfl rfl (fun hb => ?_) (fun hb => ?_)
  · rw [if_pos (of_decide_eq_true hb)] at h
    refine go_ops aMi263 4 _ (f1 := (51, ([(4, .int (0 : Int32)), (3, .int (0 : Int32)), (0, .ref a0), (1, .int i1), (2, .int i2)], []))) rfl ?_
    refine go_le (lv1 := [(0, .ref a0), (1, .int i1), (2, .int i2), (3, .int (0 : Int32)), (4, .int (0 : Int32))]) (aLe_of (show (List.map (fun q => q.1) ([(0, .ref a0), (1, .int i1), (2, .int i2), (3, .int (0 : Int32)), (4, .int (0 : Int32))] : ALv)).Nodup from (by show ([0, 1, 2, 3, 4] : List Nat).Nodup; decide)) (aSubL_cons rfl (aSubL_cons rfl (aSubL_cons rfl (aSubL_cons rfl (aSubL_cons rfl aSubL_nil)))))) ?_
    exact Tf263_b51 hd N a0 ha0 i1 i2 (0 : Int32) (0 : Int32) r38_1.2 _ h
  · rw [if_neg (of_decide_eq_false hb)] at h
    refine go_ops aMi263 1 _ (f1 := (45, ([(0, .ref a0), (1, .int i1), (2, .int i2)], [.int (0 : Int32)]))) rfl ?_
    cases h
    exact go_ret aMi263 rfl aRetI ⟨rfl, rfl⟩
def f263_b22 (kad : Nat → Nat) (N : Nat) (Z : AZ) (a0 : Nat) (i1 : Int32) (i2 : Int32) (I : AI) : Option (Int32 × AI) :=
  f263_b38 kad N Z a0 i1 i2 (1 : Int32) I
set_option maxRecDepth 20000 in
theorem Tf263_b22 {kad : Nat → Nat} {N : Nat} {Z : AZ} {d : Nat} {t : Option Nat × (Nat × Nat)} (hd : 8 ≤ d) : ∀ (a0 : Nat) (ha0 : sh11 kad Z a0) (i1 : Int32) (i2 : Int32) (I : AI) (r : Int32 × AI), f263_b22 kad N Z a0 i1 i2 I = some r → aGo kad d 263 (22, ([(0, .ref a0), (1, .int i1), (2, .int i2)], [.ref a0])) (aMem Z I, t) (qI Z t r) := by
  intro a0 ha0 i1 i2 I r h
  unfold f263_b22 at h
  refine go_ops aMi263 2 _ (f1 := (38, ([(0, .ref a0), (1, .int i1), (2, .int i2)], [.int (1 : Int32), .ref a0]))) rfl ?_
  exact Tf263_b38 hd a0 ha0 i1 i2 (1 : Int32) I _ h
def f263 (kad : Nat → Nat) (N : Nat) (Z : AZ) (a0 : Nat) (i1 : Int32) (i2 : Int32) (I : AI) : Option (Int32 × AI) :=
  (f186 kad N Z i1 (0 : Int32) (255 : Int32) I).bind fun r6_1 =>
  if r6_1.1 = 0 then
    f263_b22 kad N Z a0 i1 i2 r6_1.2
  else
    (f186 kad N Z i2 (1 : Int32) (100 : Int32) r6_1.2).bind fun r16_2 =>
    if ¬ r16_2.1 = 0 then
      (f216 kad N Z a0 r16_2.2).bind fun r27_3 =>
      if r27_3.1 = 0 then
        f263_b38 kad N Z a0 i1 i2 (2 : Int32) r27_3.2
      else
        f263_b38 kad N Z a0 i1 i2 (0 : Int32) r27_3.2
    else
      f263_b22 kad N Z a0 i1 i2 r16_2.2
set_option maxRecDepth 20000 in
theorem Tf263 {kad : Nat → Nat} {N : Nat} {Z : AZ} {d : Nat} {t : Option Nat × (Nat × Nat)} (hd : 8 ≤ d) : ∀ (a0 : Nat) (ha0 : sh11 kad Z a0) (i1 : Int32) (i2 : Int32) (I : AI) (r : Int32 × AI), f263 kad N Z a0 i1 i2 I = some r → aGo kad d 263 (0, ([(0, .ref a0), (1, .int i1), (2, .int i2)], [])) (aMem Z I, t) (qI Z t r) := by
  intro a0 ha0 i1 i2 I r h
  unfold f263 at h
  refine go_ops aMi263 4 _ (f1 := (6, ([(0, .ref a0), (1, .int i1), (2, .int i2)], [.int (255 : Int32), .int (0 : Int32), .int i1, .ref a0]))) rfl ?_
  obtain ⟨r6_1, hxr6_1, h⟩ := Option.bind_eq_some_iff.mp h
  refine gg_cs (as := [.int i1, .int (0 : Int32), .int (255 : Int32)]) (r := [.ref a0]) aMi263 rfl rfl rfl aMi186 rfl (Nat.le_of_ble_eq_true rfl) (Nat.le_of_ble_eq_true rfl) (by omega) (Tf186 (by omega) i1 (0 : Int32) (255 : Int32) I _ hxr6_1) ?_
  show aGo kad d 263 (9, ([(0, .ref a0), (1, .int i1), (2, .int i2)], [.int r6_1.1, .ref a0])) (aMem Z r6_1.2, t) _
  refine gg_br (b := decide (r6_1.1 = 0)) (tg := 22) (off := 13) aMi263 rfl rfl rfl rfl (fun hb => ?_) (fun hb => ?_)
  · rw [if_pos (of_decide_eq_true hb)] at h
    exact Tf263_b22 hd a0 ha0 i1 i2 r6_1.2 _ h
  · rw [if_neg (of_decide_eq_false hb)] at h
    refine go_ops aMi263 3 _ (f1 := (16, ([(0, .ref a0), (1, .int i1), (2, .int i2)], [.int (100 : Int32), .int (1 : Int32), .int i2, .ref a0]))) rfl ?_
    obtain ⟨r16_2, hxr16_2, h⟩ := Option.bind_eq_some_iff.mp h
    refine gg_cs (as := [.int i2, .int (1 : Int32), .int (100 : Int32)]) (r := [.ref a0]) aMi263 rfl rfl rfl aMi186 rfl (Nat.le_of_ble_eq_true rfl) (Nat.le_of_ble_eq_true rfl) (by omega) (Tf186 (by omega) i2 (1 : Int32) (100 : Int32) r6_1.2 _ hxr16_2) ?_
    show aGo kad d 263 (19, ([(0, .ref a0), (1, .int i1), (2, .int i2)], [.int r16_2.1, .ref a0])) (aMem Z r16_2.2, t) _
    refine gg_br (b := decide (¬ r16_2.1 = 0)) (tg := 26) (off := 7) aMi263 rfl rfl rfl rfl (fun hb => ?_) (fun hb => ?_)
    · rw [if_pos (of_decide_eq_true hb)] at h
      refine go_ops aMi263 1 _ (f1 := (27, ([(0, .ref a0), (1, .int i1), (2, .int i2)], [.ref a0, .ref a0]))) rfl ?_
      obtain ⟨r27_3, hxr27_3, h⟩ := Option.bind_eq_some_iff.mp h
      refine gg_cv (as := []) (r := [.ref a0]) aMi263 rfl rfl rfl aMi216 (Nat.le_of_ble_eq_true rfl) rfl (Nat.le_of_ble_eq_true rfl) (Nat.le_of_ble_eq_true rfl) (by omega) (isK_of (sh11_z ha0)) (Tf216 (by omega) a0 ha0 r16_2.2 _ hxr27_3) ?_
      show aGo kad d 263 (30, ([(0, .ref a0), (1, .int i1), (2, .int i2)], [.int r27_3.1, .ref a0])) (aMem Z r27_3.2, t) _
      refine gg_br (b := decide (r27_3.1 = 0)) (tg := 37) (off := 7) aMi263 rfl rfl rfl rfl (fun hb => ?_) (fun hb => ?_)
      · rw [if_pos (of_decide_eq_true hb)] at h
        refine go_ops aMi263 1 _ (f1 := (38, ([(0, .ref a0), (1, .int i1), (2, .int i2)], [.int (2 : Int32), .ref a0]))) rfl ?_
        exact Tf263_b38 hd a0 ha0 i1 i2 (2 : Int32) r27_3.2 _ h
      · rw [if_neg (of_decide_eq_false hb)] at h
        refine go_ops aMi263 2 _ (f1 := (38, ([(0, .ref a0), (1, .int i1), (2, .int i2)], [.int (0 : Int32), .ref a0]))) rfl ?_
        exact Tf263_b38 hd a0 ha0 i1 i2 (0 : Int32) r27_3.2 _ h
    · rw [if_neg (of_decide_eq_false hb)] at h
      exact Tf263_b22 hd a0 ha0 i1 i2 r16_2.2 _ h
