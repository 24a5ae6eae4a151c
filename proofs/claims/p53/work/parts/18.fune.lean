-- KernelGym$Machine.setRegister (II)V
def f99_b19 (kad : Nat → Nat) (N : Nat) (Z : AZ) (a0 : Nat) (I : AI) : Option (Unit × AI) :=
  some ((), I)
set_option maxRecDepth 20000 in
theorem Tf99_b19 {kad : Nat → Nat} {N : Nat} {Z : AZ} {d : Nat} {t : Option Nat × (Nat × Nat)} (hd : 0 ≤ d) : ∀ (a0 : Nat) (ha0 : sh8 kad Z a0) (I : AI) (r : Unit × AI), f99_b19 kad N Z a0 I = some r → aGo kad d 99 (19, ([], [])) (aMem Z I, t) (qV Z t r) := by
  intro a0 ha0 I r h
  unfold f99_b19 at h
  cases h
  exact go_ret aMi99 rfl rfl ⟨rfl, rfl⟩
def f99 (kad : Nat → Nat) (N : Nat) (Z : AZ) (a0 : Nat) (i1 : Int32) (i2 : Int32) (I : AI) : Option (Unit × AI) :=
  if i1 < 0 then
    f99_b19 kad N Z a0 I
  else
    if (4 : Int32) ≤ i1 then
      f99_b19 kad N Z a0 I
    else
      (ixA 4 i1).bind fun j18_2 =>
      (wI I (a0 + 2) j18_2 i2).bind fun I18_1 =>
      f99_b19 kad N Z a0 I18_1
set_option maxRecDepth 20000 in
theorem Tf99 {kad : Nat → Nat} {N : Nat} {Z : AZ} {d : Nat} {t : Option Nat × (Nat × Nat)} (hd : 0 ≤ d) : ∀ (a0 : Nat) (ha0 : sh8 kad Z a0) (i1 : Int32) (i2 : Int32) (I : AI) (r : Unit × AI), f99 kad N Z a0 i1 i2 I = some r → aGo kad d 99 (0, ([(0, .ref a0), (1, .int i1), (2, .int i2)], [])) (aMem Z I, t) (qV Z t r) := by
  intro a0 ha0 i1 i2 I r h
  unfold f99 at h
  refine go_ops aMi99 1 _ (f1 := (1, ([(0, .ref a0), (1, .int i1), (2, .int i2)], [.int i1]))) rfl ?_
  refine gg_br (b := decide (i1 < 0)) (tg := 19) (off := 18) aMi99 rfl rfl rfl rfl (fun hb => ?_) (fun hb => ?_)
  · rw [if_pos (of_decide_eq_true hb)] at h
    refine go_le (lv1 := []) (aLe_of (show (List.map (fun q => q.1) ([] : ALv)).Nodup from (by show ([] : List Nat).Nodup; decide)) aSubL_nil) ?_
    exact Tf99_b19 hd a0 ha0 I _ h
  · rw [if_neg (of_decide_eq_false hb)] at h
    refine go_ops aMi99 2 _ (f1 := (6, ([(0, .ref a0), (1, .int i1), (2, .int i2)], [.int (4 : Int32), .int i1]))) rfl ?_
    refine gg_br (b := decide ((4 : Int32) ≤ i1)) (tg := 19) (off := 13) aMi99 rfl rfl rfl rfl (fun hb => ?_) (fun hb => ?_)
    · rw [if_pos (of_decide_eq_true hb)] at h
      refine go_le (lv1 := []) (aLe_of (show (List.map (fun q => q.1) ([] : ALv)).Nodup from (by show ([] : List Nat).Nodup; decide)) aSubL_nil) ?_
      exact Tf99_b19 hd a0 ha0 I _ h
    · rw [if_neg (of_decide_eq_false hb)] at h
      refine go_ops aMi99 1 _ (f1 := (10, ([(0, .ref a0), (1, .int i1), (2, .int i2)], [.ref a0]))) rfl ?_
      refine gg_gR (b := (a0 + 1)) aMi99 rfl rfl rfl (gR_of (sh8_z ha0) (sh8_r0 ha0)) ?_
      refine gg_gR (b := (a0 + 2)) aMi99 rfl rfl rfl (gR_of (sh2_z (sh8_s0 ha0)) (sh2_r14 (sh8_s0 ha0))) ?_
      refine go_ops aMi99 2 _ (f1 := (18, ([(0, .ref a0), (1, .int i1), (2, .int i2)], [.int i2, .int i1, .ref (a0 + 2)]))) rfl ?_
      obtain ⟨j18_2, hxj18_2, h⟩ := Option.bind_eq_some_iff.mp h
      obtain ⟨I18_1, hxI18_1, h⟩ := Option.bind_eq_some_iff.mp h
      refine gg_sI (Or.inl ⟨rfl, rfl⟩) aMi99 rfl (sI_of (sh2_a14 (sh8_s0 ha0)) hxj18_2 hxI18_1) ?_
      refine go_le (lv1 := []) (aLe_of (show (List.map (fun q => q.1) ([] : ALv)).Nodup from (by show ([] : List Nat).Nodup; decide)) aSubL_nil) ?_
      exact Tf99_b19 hd a0 ha0 I18_1 _ h
-- KernelGym$Machine.writeTape (I)V
def f107_b22 (kad : Nat → Nat) (N : Nat) (Z : AZ) (a0 : Nat) (I : AI) : Option (Unit × AI) :=
  (f87 kad N Z a0 (4 : Int32) I).bind fun r24_1 =>
  some ((), r24_1.2)
set_option maxRecDepth 20000 in
theorem Tf107_b22 {kad : Nat → Nat} {N : Nat} {Z : AZ} {d : Nat} {t : Option Nat × (Nat × Nat)} (hd : 1 ≤ d) : ∀ (a0 : Nat) (ha0 : sh8 kad Z a0) (I : AI) (r : Unit × AI), f107_b22 kad N Z a0 I = some r → aGo kad d 107 (22, ([(0, .ref a0)], [])) (aMem Z I, t) (qV Z t r) := by
  intro a0 ha0 I r h
  unfold f107_b22 at h
  refine go_ops aMi107 2 _ (f1 := (24, ([(0, .ref a0)], [.int (4 : Int32), .ref a0]))) rfl ?_
  obtain ⟨r24_1, hxr24_1, h⟩ := Option.bind_eq_some_iff.mp h
  refine gg_cv (as := [.int (4 : Int32)]) (r := []) aMi107 rfl rfl rfl aMi87 (Nat.le_of_ble_eq_true rfl) rfl (Nat.le_of_ble_eq_true rfl) (Nat.le_of_ble_eq_true rfl) (by omega) (isK_of (sh8_z ha0)) (Tf87 (by omega) a0 ha0 (4 : Int32) I _ hxr24_1) ?_
  show aGo kad d 107 (27, ([(0, .ref a0)], [])) (aMem Z r24_1.2, t) _
  cases h
  exact go_ret aMi107 rfl rfl ⟨rfl, rfl⟩
def f107 (kad : Nat → Nat) (N : Nat) (Z : AZ) (a0 : Nat) (i1 : Int32) (I : AI) : Option (Unit × AI) :=
  if (I (a0 + 1) 12) < 0 then
    f107_b22 kad N Z a0 I
  else
    if (I (a0 + 1) 12) < (60 : Int32) then
      (ixA 60 (I (a0 + 1) 12)).bind fun j40_2 =>
      (wI I (a0 + 7) j40_2 i1).bind fun I40_1 =>
      (wI I40_1 (a0 + 1) 12 ((I40_1 (a0 + 1) 12) + (1 : Int32))).bind fun I51_3 =>
      (f88 kad N Z a0 I51_3).bind fun r55_4 =>
      some ((), r55_4.2)
    else
      f107_b22 kad N Z a0 I
set_option maxRecDepth 20000 in
theorem Tf107 {kad : Nat → Nat} {N : Nat} {Z : AZ} {d : Nat} {t : Option Nat × (Nat × Nat)} (hd : 1 ≤ d) : ∀ (a0 : Nat) (ha0 : sh8 kad Z a0) (i1 : Int32) (I : AI) (r : Unit × AI), f107 kad N Z a0 i1 I = some r → aGo kad d 107 (0, ([(0, .ref a0), (1, .int i1)], [])) (aMem Z I, t) (qV Z t r) := by
  intro a0 ha0 i1 I r h
  unfold f107 at h
  refine go_ops aMi107 1 _ (f1 := (1, ([(0, .ref a0), (1, .int i1)], [.ref a0]))) rfl ?_
  refine gg_gR (b := (a0 + 1)) aMi107 rfl rfl rfl (gR_of (sh8_z ha0) (sh8_r0 ha0)) ?_
  refine gg_gI aMi107 rfl rfl rfl (gI_of (sh2_z (sh8_s0 ha0))) ?_
  refine gg_br (b := decide ((I (a0 + 1) 12) < 0)) (tg := 22) (off := 15) aMi107 rfl rfl rfl rfl (fun hb => ?_) (fun hb => ?_)
  · rw [if_pos (of_decide_eq_true hb)] at h
    refine go_le (lv1 := [(0, .ref a0)]) (aLe_of (show (List.map (fun q => q.1) ([(0, .ref a0)] : ALv)).Nodup from (by show ([0] : List Nat).Nodup; decide)) (aSubL_cons rfl aSubL_nil)) ?_
    exact Tf107_b22 hd a0 ha0 I _ h
  · rw [if_neg (of_decide_eq_false hb)] at h
    refine go_ops aMi107 1 _ (f1 := (11, ([(0, .ref a0), (1, .int i1)], [.ref a0]))) rfl ?_
    refine gg_gR (b := (a0 + 1)) aMi107 rfl rfl rfl (gR_of (sh8_z ha0) (sh8_r0 ha0)) ?_
    refine gg_gI aMi107 rfl rfl rfl (gI_of (sh2_z (sh8_s0 ha0))) ?_
    refine go_ops aMi107 1 _ (f1 := (19, ([(0, .ref a0), (1, .int i1)], [.int (60 : Int32), .int (I (a0 + 1) 12)]))) rfl ?_
    refine gg_br (b := decide ((I (a0 + 1) 12) < (60 : Int32))) (tg := 28) (off := 9) aMi107 rfl rfl rfl rfl (fun hb => ?_) (fun hb => ?_)
    · rw [if_pos (of_decide_eq_true hb)] at h
      refine go_ops aMi107 1 _ (f1 := (29, ([(0, .ref a0), (1, .int i1)], [.ref a0]))) rfl ?_
      refine gg_gR (b := (a0 + 7)) aMi107 rfl rfl rfl (gR_of (sh8_z ha0) (sh8_r2 ha0)) ?_
      refine go_ops aMi107 1 _ (f1 := (33, ([(0, .ref a0), (1, .int i1)], [.ref a0, .ref (a0 + 7)]))) rfl ?_
      refine gg_gR (b := (a0 + 1)) aMi107 rfl rfl rfl (gR_of (sh8_z ha0) (sh8_r0 ha0)) ?_
      refine gg_gI aMi107 rfl rfl rfl (gI_of (sh2_z (sh8_s0 ha0))) ?_
      refine go_ops aMi107 1 _ (f1 := (40, ([(0, .ref a0), (1, .int i1)], [.int i1, .int (I (a0 + 1) 12), .ref (a0 + 7)]))) rfl ?_
      obtain ⟨j40_2, hxj40_2, h⟩ := Option.bind_eq_some_iff.mp h
      obtain ⟨I40_1, hxI40_1, h⟩ := Option.bind_eq_some_iff.mp h
      refine gg_sI (Or.inl ⟨rfl, rfl⟩) aMi107 rfl (sI_of (sh8_a2 ha0) hxj40_2 hxI40_1) ?_
      refine go_ops aMi107 1 _ (f1 := (42, ([(0, .ref a0), (1, .int i1)], [.ref a0]))) rfl ?_
      refine gg_gR (b := (a0 + 1)) aMi107 rfl rfl rfl (gR_of (sh8_z ha0) (sh8_r0 ha0)) ?_
      refine go_ops aMi107 1 _ (f1 := (46, ([(0, .ref a0), (1, .int i1)], [.ref (a0 + 1), .ref (a0 + 1)]))) rfl ?_
      refine gg_gI aMi107 rfl rfl rfl (gI_of (sh2_z (sh8_s0 ha0))) ?_
      refine go_ops aMi107 2 _ (f1 := (51, ([(0, .ref a0), (1, .int i1)], [.int ((I40_1 (a0 + 1) 12) + (1 : Int32)), .ref (a0 + 1)]))) rfl ?_
      obtain ⟨I51_3, hxI51_3, h⟩ := Option.bind_eq_some_iff.mp h
      refine gg_pI aMi107 rfl rfl rfl rfl (by decide) (pI_of (sh2_z (sh8_s0 ha0)) hxI51_3) ?_
      refine go_ops aMi107 1 _ (f1 := (55, ([(0, .ref a0), (1, .int i1)], [.ref a0]))) rfl ?_
      obtain ⟨r55_4, hxr55_4, h⟩ := Option.bind_eq_some_iff.mp h
      refine gg_cv (as := []) (r := []) aMi107 rfl rfl rfl aMi88 (Nat.le_of_ble_eq_true rfl) rfl (Nat.le_of_ble_eq_true rfl) (Nat.le_of_ble_eq_true rfl) (by omega) (isK_of (sh8_z ha0)) (Tf88 (by omega) a0 ha0 I51_3 _ hxr55_4) ?_
      show aGo kad d 107 (58, ([(0, .ref a0), (1, .int i1)], [])) (aMem Z r55_4.2, t) _
      cases h
      exact go_ret aMi107 rfl rfl ⟨rfl, rfl⟩
    · rw [if_neg (of_decide_eq_false hb)] at h
      refine go_le (lv1 := [(0, .ref a0)]) (aLe_of (show (List.map (fun q => q.1) ([(0, .ref a0)] : ALv)).Nodup from (by show ([0] : List Nat).Nodup; decide)) (aSubL_cons rfl aSubL_nil)) ?_
      exact Tf107_b22 hd a0 ha0 I _ h
-- KernelGym$Machine.control (III)V
def f104_b143 (kad : Nat → Nat) (N : Nat) (Z : AZ) (a0 : Nat) (I : AI) : Option (Unit × AI) :=
  some ((), I)
set_option maxRecDepth 20000 in
theorem Tf104_b143 {kad : Nat → Nat} {N : Nat} {Z : AZ} {d : Nat} {t : Option Nat × (Nat × Nat)} (hd : 3 ≤ d) : ∀ (a0 : Nat) (ha0 : sh8 kad Z a0) (I : AI) (r : Unit × AI), f104_b143 kad N Z a0 I = some r → aGo kad d 104 (143, ([], [])) (aMem Z I, t) (qV Z t r) := by
  intro a0 ha0 I r h
  unfold f104_b143 at h
  cases h
  exact go_ret aMi104 rfl rfl ⟨rfl, rfl⟩
def f104_b55 (kad : Nat → Nat) (N : Nat) (Z : AZ) (a0 : Nat) (s0 : Int32) (I : AI) : Option (Unit × AI) :=
  (wB I (a0 + 1) 7 s0).bind fun I55_1 =>
  (f88 kad N Z a0 I55_1).bind fun r59_2 =>
  f104_b143 kad N Z a0 r59_2.2
set_option maxRecDepth 20000 in
theorem Tf104_b55 {kad : Nat → Nat} {N : Nat} {Z : AZ} {d : Nat} {t : Option Nat × (Nat × Nat)} (hd : 3 ≤ d) : ∀ (a0 : Nat) (ha0 : sh8 kad Z a0) (s0 : Int32) (I : AI) (r : Unit × AI), f104_b55 kad N Z a0 s0 I = some r → aGo kad d 104 (55, ([(0, .ref a0)], [.int s0, .ref (a0 + 1)])) (aMem Z I, t) (qV Z t r) := by
  intro a0 ha0 s0 I r h
  unfold f104_b55 at h
  obtain ⟨I55_1, hxI55_1, h⟩ := Option.bind_eq_some_iff.mp h
  refine gg_pB aMi104 rfl rfl rfl rfl (by decide) (pB_of (sh2_z (sh8_s0 ha0)) hxI55_1) ?_
  refine go_ops aMi104 1 _ (f1 := (59, ([(0, .ref a0)], [.ref a0]))) rfl ?_
  obtain ⟨r59_2, hxr59_2, h⟩ := Option.bind_eq_some_iff.mp h
  refine gg_cv (as := []) (r := []) aMi104 rfl rfl rfl aMi88 (Nat.le_of_ble_eq_true rfl) rfl (Nat.le_of_ble_eq_true rfl) (Nat.le_of_ble_eq_true rfl) (by omega) (isK_of (sh8_z ha0)) (Tf88 (by omega) a0 ha0 I55_1 _ hxr59_2) ?_
  show aGo kad d 104 (62, ([(0, .ref a0)], [])) (aMem Z r59_2.2, t) _
  refine go_ops aMi104 1 _ (f1 := (143, ([(0, .ref a0)], []))) rfl ?_
  refine go_le (lv1 := []) (aLe_of (show (List.map (fun q => q.1) ([] : ALv)).Nodup from (by show ([] : List Nat).Nodup; decide)) aSubL_nil) ?_
  exact Tf104_b143 hd a0 ha0 r59_2.2 _ h
def f104_b40 (kad : Nat → Nat) (N : Nat) (Z : AZ) (a0 : Nat) (i1 : Int32) (I : AI) : Option (Unit × AI) :=
  if ¬ i1 = (19 : Int32) then
    f104_b55 kad N Z a0 (0 : Int32) I
  else
    f104_b55 kad N Z a0 (1 : Int32) I
set_option maxRecDepth 20000 in
theorem Tf104_b40 {kad : Nat → Nat} {N : Nat} {Z : AZ} {d : Nat} {t : Option Nat × (Nat × Nat)} (hd : 3 ≤ d) : ∀ (a0 : Nat) (ha0 : sh8 kad Z a0) (i1 : Int32) (I : AI) (r : Unit × AI), f104_b40 kad N Z a0 i1 I = some r → aGo kad d 104 (40, ([(0, .ref a0), (1, .int i1)], [])) (aMem Z I, t) (qV Z t r) := by
  intro a0 ha0 i1 I r h
  unfold f104_b40 at h
  refine go_ops aMi104 1 _ (f1 := (41, ([(0, .ref a0), (1, .int i1)], [.ref a0]))) rfl ?_
  refine gg_gR (b := (a0 + 1)) aMi104 rfl rfl rfl (gR_of (sh8_z ha0) (sh8_r0 ha0)) ?_
  refine go_ops aMi104 2 _ (f1 := (47, ([(0, .ref a0), (1, .int i1)], [.int (19 : Int32), .int i1, .ref (a0 + 1)]))) rfl ?_
  refine gg_br (b := decide (¬ i1 = (19 : Int32))) (tg := 54) (off := 7) aMi104 rfl rfl rfl rfl (fun hb => ?_) (fun hb => ?_)
  · rw [if_pos (of_decide_eq_true hb)] at h
    refine go_ops aMi104 1 _ (f1 := (55, ([(0, .ref a0), (1, .int i1)], [.int (0 : Int32), .ref (a0 + 1)]))) rfl ?_
    refine go_le (lv1 := [(0, .ref a0)]) (aLe_of (show (List.map (fun q => q.1) ([(0, .ref a0)] : ALv)).Nodup from (by show ([0] : List Nat).Nodup; decide)) (aSubL_cons rfl aSubL_nil)) ?_
    exact Tf104_b55 hd a0 ha0 (0 : Int32) I _ h
  · rw [if_neg (of_decide_eq_false hb)] at h
    refine go_ops aMi104 2 _ (f1 := (55, ([(0, .ref a0), (1, .int i1)], [.int (1 : Int32), .ref (a0 + 1)]))) rfl ?_
    refine go_le (lv1 := [(0, .ref a0)]) (aLe_of (show (List.map (fun q => q.1) ([(0, .ref a0)] : ALv)).Nodup from (by show ([0] : List Nat).Nodup; decide)) (aSubL_cons rfl aSubL_nil)) ?_
    exact Tf104_b55 hd a0 ha0 (1 : Int32) I _ h
def f104_b92 (kad : Nat → Nat) (N : Nat) (Z : AZ) (a0 : Nat) (I : AI) : Option (Unit × AI) :=
  (f88 kad N Z a0 I).bind fun r93_1 =>
  f104_b143 kad N Z a0 r93_1.2
set_option maxRecDepth 20000 in
theorem Tf104_b92 {kad : Nat → Nat} {N : Nat} {Z : AZ} {d : Nat} {t : Option Nat × (Nat × Nat)} (hd : 3 ≤ d) : ∀ (a0 : Nat) (ha0 : sh8 kad Z a0) (I : AI) (r : Unit × AI), f104_b92 kad N Z a0 I = some r → aGo kad d 104 (92, ([(0, .ref a0)], [])) (aMem Z I, t) (qV Z t r) := by
  intro a0 ha0 I r h
  unfold f104_b92 at h
  refine go_ops aMi104 1 _ (f1 := (93, ([(0, .ref a0)], [.ref a0]))) rfl ?_
  obtain ⟨r93_1, hxr93_1, h⟩ := Option.bind_eq_some_iff.mp h
  refine gg_cv (as := []) (r := []) aMi104 rfl rfl rfl aMi88 (Nat.le_of_ble_eq_true rfl) rfl (Nat.le_of_ble_eq_true rfl) (Nat.le_of_ble_eq_true rfl) (by omega) (isK_of (sh8_z ha0)) (Tf88 (by omega) a0 ha0 I _ hxr93_1) ?_
  show aGo kad d 104 (96, ([(0, .ref a0)], [])) (aMem Z r93_1.2, t) _
  refine go_ops aMi104 1 _ (f1 := (143, ([(0, .ref a0)], []))) rfl ?_
  refine go_le (lv1 := []) (aLe_of (show (List.map (fun q => q.1) ([] : ALv)).Nodup from (by show ([] : List Nat).Nodup; decide)) aSubL_nil) ?_
  exact Tf104_b143 hd a0 ha0 r93_1.2 _ h
def f104 (kad : Nat → Nat) (N : Nat) (Z : AZ) (a0 : Nat) (i1 : Int32) (i2 : Int32) (i3 : Int32) (I : AI) : Option (Unit × AI) :=
  if i1 = (19 : Int32) then
    f104_b40 kad N Z a0 i1 I
  else
  if i1 = (20 : Int32) then
    f104_b40 kad N Z a0 i1 I
  else
  if i1 = (21 : Int32) then
    (f105 kad N Z a0 I).bind fun r66_1 =>
    f104_b143 kad N Z a0 r66_1.2
  else
  if i1 = (22 : Int32) then
    if ¬ (I (a0 + 1) 8) = 0 then
      f104_b92 kad N Z a0 I
    else
      if (I (a0 + 1) 9) = 0 then
        f104_b143 kad N Z a0 I
      else
        f104_b92 kad N Z a0 I
  else
  if i1 = (23 : Int32) then
    (wI I (a0 + 1) 10 i3).bind fun I104_2 =>
    (wI I104_2 (a0 + 1) 11 (0 : Int32)).bind fun I112_3 =>
    (f88 kad N Z a0 I112_3).bind fun r116_4 =>
    f104_b143 kad N Z a0 r116_4.2
  else
  if i1 = (24 : Int32) then
    (f106 kad N Z a0 I).bind fun r125_5 =>
    (f99 kad N Z a0 i2 r125_5.1 r125_5.2).bind fun r128_6 =>
    (f88 kad N Z a0 r128_6.2).bind fun r132_7 =>
    f104_b143 kad N Z a0 r132_7.2
  else
    (f107 kad N Z a0 i3 I).bind fun r140_8 =>
    f104_b143 kad N Z a0 r140_8.2
set_option maxRecDepth 20000 in
theorem Tf104 {kad : Nat → Nat} {N : Nat} {Z : AZ} {d : Nat} {t : Option Nat × (Nat × Nat)} (hd : 3 ≤ d) : ∀ (a0 : Nat) (ha0 : sh8 kad Z a0) (i1 : Int32) (i2 : Int32) (i3 : Int32) (I : AI) (r : Unit × AI), f104 kad N Z a0 i1 i2 i3 I = some r → aGo kad d 104 (0, ([(0, .ref a0), (1, .int i1), (2, .int i2), (3, .int i3)], [])) (aMem Z I, t) (qV Z t r) := by
  intro a0 ha0 i1 i2 i3 I r h
  unfold f104 at h
  refine go_ops aMi104 1 _ (f1 := (1, ([(0, .ref a0), (1, .int i1), (2, .int i2), (3, .int i3)], [.int i1]))) rfl ?_
  by_cases hs0 : i1 = (19 : Int32)
  · rw [if_pos hs0] at h
    refine go_sw (f1 := (40, ([(0, .ref a0), (1, .int i1), (2, .int i2), (3, .int i3)], []))) aMi104 rfl (by rw [hs0]; rfl) ?_
    refine go_le (lv1 := [(0, .ref a0), (1, .int i1)]) (aLe_of (show (List.map (fun q => q.1) ([(0, .ref a0), (1, .int i1)] : ALv)).Nodup from (by show ([0, 1] : List Nat).Nodup; decide)) (aSubL_cons rfl (aSubL_cons rfl aSubL_nil))) ?_
    exact Tf104_b40 hd a0 ha0 i1 I _ h
  rw [if_neg hs0] at h
  by_cases hs1 : i1 = (20 : Int32)
  · rw [if_pos hs1] at h
    refine go_sw (f1 := (40, ([(0, .ref a0), (1, .int i1), (2, .int i2), (3, .int i3)], []))) aMi104 rfl (by rw [hs1]; rfl) ?_
    refine go_le (lv1 := [(0, .ref a0), (1, .int i1)]) (aLe_of (show (List.map (fun q => q.1) ([(0, .ref a0), (1, .int i1)] : ALv)).Nodup from (by show ([0, 1] : List Nat).Nodup; decide)) (aSubL_cons rfl (aSubL_cons rfl aSubL_nil))) ?_
    exact Tf104_b40 hd a0 ha0 i1 I _ h
  rw [if_neg hs1] at h
  by_cases hs2 : i1 = (21 : Int32)
  · rw [if_pos hs2] at h
    refine go_sw (f1 := (65, ([(0, .ref a0), (1, .int i1), (2, .int i2), (3, .int i3)], []))) aMi104 rfl (by rw [hs2]; rfl) ?_
    refine go_ops aMi104 1 _ (f1 := (66, ([(0, .ref a0), (1, .int i1), (2, .int i2), (3, .int i3)], [.ref a0]))) rfl ?_
    obtain ⟨r66_1, hxr66_1, h⟩ := Option.bind_eq_some_iff.mp h
    refine gg_cv (as := []) (r := []) aMi104 rfl rfl rfl aMi105 (Nat.le_of_ble_eq_true rfl) rfl (Nat.le_of_ble_eq_true rfl) (Nat.le_of_ble_eq_true rfl) (by omega) (isK_of (sh8_z ha0)) (Tf105 (by omega) a0 ha0 I _ hxr66_1) ?_
    show aGo kad d 104 (69, ([(0, .ref a0), (1, .int i1), (2, .int i2), (3, .int i3)], [])) (aMem Z r66_1.2, t) _
    refine go_ops aMi104 1 _ (f1 := (143, ([(0, .ref a0), (1, .int i1), (2, .int i2), (3, .int i3)], []))) rfl ?_
    refine go_le (lv1 := []) (aLe_of (show (List.map (fun q => q.1) ([] : ALv)).Nodup from (by show ([] : List Nat).Nodup; decide)) aSubL_nil) ?_
    exact Tf104_b143 hd a0 ha0 r66_1.2 _ h
  rw [if_neg hs2] at h
  by_cases hs3 : i1 = (22 : Int32)
  · rw [if_pos hs3] at h
    refine go_sw (f1 := (72, ([(0, .ref a0), (1, .int i1), (2, .int i2), (3, .int i3)], []))) aMi104 rfl (by rw [hs3]; rfl) ?_
    refine go_ops aMi104 1 _ (f1 := (73, ([(0, .ref a0), (1, .int i1), (2, .int i2), (3, .int i3)], [.ref a0]))) rfl ?_
    refine gg_gR (b := (a0 + 1)) aMi104 rfl rfl rfl (gR_of (sh8_z ha0) (sh8_r0 ha0)) ?_
    refine gg_gI aMi104 rfl rfl rfl (gI_of (sh2_z (sh8_s0 ha0))) ?_
    refine gg_br (b := decide (¬ (I (a0 + 1) 8) = 0)) (tg := 92) (off := 13) aMi104 rfl rfl rfl rfl (fun hb => ?_) (fun hb => ?_)
    · rw [if_pos (of_decide_eq_true hb)] at h
      refine go_le (lv1 := [(0, .ref a0)]) (aLe_of (show (List.map (fun q => q.1) ([(0, .ref a0)] : ALv)).Nodup from (by show ([0] : List Nat).Nodup; decide)) (aSubL_cons rfl aSubL_nil)) ?_
      exact Tf104_b92 hd a0 ha0 I _ h
    · rw [if_neg (of_decide_eq_false hb)] at h
      refine go_ops aMi104 1 _ (f1 := (83, ([(0, .ref a0), (1, .int i1), (2, .int i2), (3, .int i3)], [.ref a0]))) rfl ?_
      refine gg_gR (b := (a0 + 1)) aMi104 rfl rfl rfl (gR_of (sh8_z ha0) (sh8_r0 ha0)) ?_
      refine gg_gI aMi104 rfl rfl rfl (gI_of (sh2_z (sh8_s0 ha0))) ?_
      refine gg_br (b := decide ((I (a0 + 1) 9) = 0)) (tg := 143) (off := 54) aMi104 rfl rfl rfl rfl (fun hb => ?_) (fun hb => ?_)
      · rw [if_pos (of_decide_eq_true hb)] at h
        refine go_le (lv1 := []) (aLe_of (show (List.map (fun q => q.1) ([] : ALv)).Nodup from (by show ([] : List Nat).Nodup; decide)) aSubL_nil) ?_
        exact Tf104_b143 hd a0 ha0 I _ h
      · rw [if_neg (of_decide_eq_false hb)] at h
        refine go_le (lv1 := [(0, .ref a0)]) (aLe_of (show (List.map (fun q => q.1) ([(0, .ref a0)] : ALv)).Nodup from (by show ([0] : List Nat).Nodup; decide)) (aSubL_cons rfl aSubL_nil)) ?_
        exact Tf104_b92 hd a0 ha0 I _ h
  rw [if_neg hs3] at h
  by_cases hs4 : i1 = (23 : Int32)
  · rw [if_pos hs4] at h
    refine go_sw (f1 := (99, ([(0, .ref a0), (1, .int i1), (2, .int i2), (3, .int i3)], []))) aMi104 rfl (by rw [hs4]; rfl) ?_
    refine go_ops aMi104 1 _ (f1 := (100, ([(0, .ref a0), (1, .int i1), (2, .int i2), (3, .int i3)], [.ref a0]))) rfl ?_
    refine gg_gR (b := (a0 + 1)) aMi104 rfl rfl rfl (gR_of (sh8_z ha0) (sh8_r0 ha0)) ?_
    refine go_ops aMi104 1 _ (f1 := (104, ([(0, .ref a0), (1, .int i1), (2, .int i2), (3, .int i3)], [.int i3, .ref (a0 + 1)]))) rfl ?_
    obtain ⟨I104_2, hxI104_2, h⟩ := Option.bind_eq_some_iff.mp h
    refine gg_pI aMi104 rfl rfl rfl rfl (by decide) (pI_of (sh2_z (sh8_s0 ha0)) hxI104_2) ?_
    refine go_ops aMi104 1 _ (f1 := (108, ([(0, .ref a0), (1, .int i1), (2, .int i2), (3, .int i3)], [.ref a0]))) rfl ?_
    refine gg_gR (b := (a0 + 1)) aMi104 rfl rfl rfl (gR_of (sh8_z ha0) (sh8_r0 ha0)) ?_
    refine go_ops aMi104 1 _ (f1 := (112, ([(0, .ref a0), (1, .int i1), (2, .int i2), (3, .int i3)], [.int (0 : Int32), .ref (a0 + 1)]))) rfl ?_
    obtain ⟨I112_3, hxI112_3, h⟩ := Option.bind_eq_some_iff.mp h
    refine gg_pI aMi104 rfl rfl rfl rfl (by decide) (pI_of (sh2_z (sh8_s0 ha0)) hxI112_3) ?_
    refine go_ops aMi104 1 _ (f1 := (116, ([(0, .ref a0), (1, .int i1), (2, .int i2), (3, .int i3)], [.ref a0]))) rfl ?_
    obtain ⟨r116_4, hxr116_4, h⟩ := Option.bind_eq_some_iff.mp h
    refine gg_cv (as := []) (r := []) aMi104 rfl rfl rfl aMi88 (Nat.le_of_ble_eq_true rfl) rfl (Nat.le_of_ble_eq_true rfl) (Nat.le_of_ble_eq_true rfl) (by omega) (isK_of (sh8_z ha0)) (Tf88 (by omega) a0 ha0 I112_3 _ hxr116_4) ?_
    show aGo kad d 104 (119, ([(0, .ref a0), (1, .int i1), (2, .int i2), (3, .int i3)], [])) (aMem Z r116_4.2, t) _
    refine go_ops aMi104 1 _ (f1 := (143, ([(0, .ref a0), (1, .int i1), (2, .int i2), (3, .int i3)], []))) rfl ?_
    refine go_le (lv1 := []) (aLe_of (show (List.map (fun q => q.1) ([] : ALv)).Nodup from (by show ([] : List Nat).Nodup; decide)) aSubL_nil) ?_
    exact Tf104_b143 hd a0 ha0 r116_4.2 _ h
  rw [if_neg hs4] at h
  by_cases hs5 : i1 = (24 : Int32)
  · rw [if_pos hs5] at h
    refine go_sw (f1 := (122, ([(0, .ref a0), (1, .int i1), (2, .int i2), (3, .int i3)], []))) aMi104 rfl (by rw [hs5]; rfl) ?_
    refine go_ops aMi104 3 _ (f1 := (125, ([(0, .ref a0), (1, .int i1), (2, .int i2), (3, .int i3)], [.ref a0, .int i2, .ref a0]))) rfl ?_
    obtain ⟨r125_5, hxr125_5, h⟩ := Option.bind_eq_some_iff.mp h
    refine gg_cv (as := []) (r := [.int i2, .ref a0]) aMi104 rfl rfl rfl aMi106 (Nat.le_of_ble_eq_true rfl) rfl (Nat.le_of_ble_eq_true rfl) (Nat.le_of_ble_eq_true rfl) (by omega) (isK_of (sh8_z ha0)) (Tf106 (by omega) a0 ha0 I _ hxr125_5) ?_
    show aGo kad d 104 (128, ([(0, .ref a0), (1, .int i1), (2, .int i2), (3, .int i3)], [.int r125_5.1, .int i2, .ref a0])) (aMem Z r125_5.2, t) _
    obtain ⟨r128_6, hxr128_6, h⟩ := Option.bind_eq_some_iff.mp h
    refine gg_cv (as := [.int i2, .int r125_5.1]) (r := []) aMi104 rfl rfl rfl aMi99 (Nat.le_of_ble_eq_true rfl) rfl (Nat.le_of_ble_eq_true rfl) (Nat.le_of_ble_eq_true rfl) (by omega) (isK_of (sh8_z ha0)) (Tf99 (by omega) a0 ha0 i2 r125_5.1 r125_5.2 _ hxr128_6) ?_
    show aGo kad d 104 (131, ([(0, .ref a0), (1, .int i1), (2, .int i2), (3, .int i3)], [])) (aMem Z r128_6.2, t) _
    refine go_ops aMi104 1 _ (f1 := (132, ([(0, .ref a0), (1, .int i1), (2, .int i2), (3, .int i3)], [.ref a0]))) rfl ?_
    obtain ⟨r132_7, hxr132_7, h⟩ := Option.bind_eq_some_iff.mp h
    refine gg_cv (as := []) (r := []) aMi104 rfl rfl rfl aMi88 (Nat.le_of_ble_eq_true rfl) rfl (Nat.le_of_ble_eq_true rfl) (Nat.le_of_ble_eq_true rfl) (by omega) (isK_of (sh8_z ha0)) (Tf88 (by omega) a0 ha0 r128_6.2 _ hxr132_7) ?_
    show aGo kad d 104 (135, ([(0, .ref a0), (1, .int i1), (2, .int i2), (3, .int i3)], [])) (aMem Z r132_7.2, t) _
    refine go_ops aMi104 1 _ (f1 := (143, ([(0, .ref a0), (1, .int i1), (2, .int i2), (3, .int i3)], []))) rfl ?_
    refine go_le (lv1 := []) (aLe_of (show (List.map (fun q => q.1) ([] : ALv)).Nodup from (by show ([] : List Nat).Nodup; decide)) aSubL_nil) ?_
    exact Tf104_b143 hd a0 ha0 r132_7.2 _ h
  rw [if_neg hs5] at h
  refine go_swd (tg := 138) (m := 6) aMi104 rfl rfl (by decide) (fun k hk => ?_) ?_
  · match k, hk with
    | 0, _ => exact hs0
    | 1, _ => exact hs1
    | 2, _ => exact hs2
    | 3, _ => exact hs3
    | 4, _ => exact hs4
    | 5, _ => exact hs5
    | k + 6, hk => exact absurd hk (by omega)
  refine go_ops aMi104 2 _ (f1 := (140, ([(0, .ref a0), (1, .int i1), (2, .int i2), (3, .int i3)], [.int i3, .ref a0]))) rfl ?_
  obtain ⟨r140_8, hxr140_8, h⟩ := Option.bind_eq_some_iff.mp h
  refine gg_cv (as := [.int i3]) (r := []) aMi104 rfl rfl rfl aMi107 (Nat.le_of_ble_eq_true rfl) rfl (Nat.le_of_ble_eq_true rfl) (Nat.le_of_ble_eq_true rfl) (by omega) (isK_of (sh8_z ha0)) (Tf107 (by omega) a0 ha0 i3 I _ hxr140_8) ?_
  show aGo kad d 104 (143, ([(0, .ref a0), (1, .int i1), (2, .int i2), (3, .int i3)], [])) (aMem Z r140_8.2, t) _
  refine go_le (lv1 := []) (aLe_of (show (List.map (fun q => q.1) ([] : ALv)).Nodup from (by show ([] : List Nat).Nodup; decide)) aSubL_nil) ?_
  exact Tf104_b143 hd a0 ha0 r140_8.2 _ h
-- KernelGym$Machine.useStack (III)V
def f103_b43 (kad : Nat → Nat) (N : Nat) (Z : AZ) (a0 : Nat) (I : AI) : Option (Unit × AI) :=
  some ((), I)
set_option maxRecDepth 20000 in
theorem Tf103_b43 {kad : Nat → Nat} {N : Nat} {Z : AZ} {d : Nat} {t : Option Nat × (Nat × Nat)} (hd : 3 ≤ d) : ∀ (a0 : Nat) (ha0 : sh8 kad Z a0) (I : AI) (r : Unit × AI), f103_b43 kad N Z a0 I = some r → aGo kad d 103 (43, ([], [])) (aMem Z I, t) (qV Z t r) := by
  intro a0 ha0 I r h
  unfold f103_b43 at h
  cases h
  exact go_ret aMi103 rfl rfl ⟨rfl, rfl⟩
def f103_b135 (kad : Nat → Nat) (N : Nat) (Z : AZ) (a0 : Nat) (I : AI) : Option (Unit × AI) :=
  some ((), I)
set_option maxRecDepth 20000 in
theorem Tf103_b135 {kad : Nat → Nat} {N : Nat} {Z : AZ} {d : Nat} {t : Option Nat × (Nat × Nat)} (hd : 3 ≤ d) : ∀ (a0 : Nat) (ha0 : sh8 kad Z a0) (I : AI) (r : Unit × AI), f103_b135 kad N Z a0 I = some r → aGo kad d 103 (135, ([], [])) (aMem Z I, t) (qV Z t r) := by
  intro a0 ha0 I r h
  unfold f103_b135 at h
  cases h
  exact go_ret aMi103 rfl rfl ⟨rfl, rfl⟩
def f103_b44 (kad : Nat → Nat) (N : Nat) (Z : AZ) (a0 : Nat) (i1 : Int32) (i2 : Int32) (i3 : Int32) (I : AI) : Option (Unit × AI) :=
  if i1 = (15 : Int32) then
    (f91 kad N Z a0 ((I (a0 + 1) 3) + (2 : Int32)) I).bind fun r82_1 =>
    (wI r82_1.2 (a0 + 1) 3 i3).bind fun I90_2 =>
    f103_b135 kad N Z a0 I90_2
  else
  if i1 = (16 : Int32) then
    (f92 kad N Z a0 I).bind fun r101_3 =>
    (wI r101_3.2 (a0 + 1) 3 r101_3.1).bind fun I104_4 =>
    f103_b135 kad N Z a0 I104_4
  else
  if i1 = (17 : Int32) then
    (f91 kad N Z a0 i3 I).bind fun r112_5 =>
    (f88 kad N Z a0 r112_5.2).bind fun r116_6 =>
    f103_b135 kad N Z a0 r116_6.2
  else
    (f92 kad N Z a0 I).bind fun r125_7 =>
    (f99 kad N Z a0 i2 r125_7.1 r125_7.2).bind fun r128_8 =>
    (f88 kad N Z a0 r128_8.2).bind fun r132_9 =>
    f103_b135 kad N Z a0 r132_9.2
set_option maxRecDepth 20000 in
theorem Tf103_b44 {kad : Nat → Nat} {N : Nat} {Z : AZ} {d : Nat} {t : Option Nat × (Nat × Nat)} (hd : 3 ≤ d) : ∀ (a0 : Nat) (ha0 : sh8 kad Z a0) (i1 : Int32) (i2 : Int32) (i3 : Int32) (I : AI) (r : Unit × AI), f103_b44 kad N Z a0 i1 i2 i3 I = some r → aGo kad d 103 (44, ([(0, .ref a0), (1, .int i1), (2, .int i2), (3, .int i3)], [])) (aMem Z I, t) (qV Z t r) := by
  intro a0 ha0 i1 i2 i3 I r h
  unfold f103_b44 at h
  refine go_ops aMi103 1 _ (f1 := (45, ([(0, .ref a0), (1, .int i1), (2, .int i2), (3, .int i3)], [.int i1]))) rfl ?_
  by_cases hs0 : i1 = (15 : Int32)
  · rw [if_pos hs0] at h
    refine go_sw (f1 := (72, ([(0, .ref a0), (1, .int i1), (2, .int i2), (3, .int i3)], []))) aMi103 rfl (by rw [hs0]; rfl) ?_
    refine go_ops aMi103 2 _ (f1 := (74, ([(0, .ref a0), (1, .int i1), (2, .int i2), (3, .int i3)], [.ref a0, .ref a0]))) rfl ?_
    refine gg_gR (b := (a0 + 1)) aMi103 rfl rfl rfl (gR_of (sh8_z ha0) (sh8_r0 ha0)) ?_
    refine gg_gI aMi103 rfl rfl rfl (gI_of (sh2_z (sh8_s0 ha0))) ?_
    refine go_ops aMi103 2 _ (f1 := (82, ([(0, .ref a0), (1, .int i1), (2, .int i2), (3, .int i3)], [.int ((I (a0 + 1) 3) + (2 : Int32)), .ref a0]))) rfl ?_
    obtain ⟨r82_1, hxr82_1, h⟩ := Option.bind_eq_some_iff.mp h
    refine gg_cv (as := [.int ((I (a0 + 1) 3) + (2 : Int32))]) (r := []) aMi103 rfl rfl rfl aMi91 (Nat.le_of_ble_eq_true rfl) rfl (Nat.le_of_ble_eq_true rfl) (Nat.le_of_ble_eq_true rfl) (by omega) (isK_of (sh8_z ha0)) (Tf91 (by omega) a0 ha0 ((I (a0 + 1) 3) + (2 : Int32)) I _ hxr82_1) ?_
    show aGo kad d 103 (85, ([(0, .ref a0), (1, .int i1), (2, .int i2), (3, .int i3)], [])) (aMem Z r82_1.2, t) _
    refine go_ops aMi103 1 _ (f1 := (86, ([(0, .ref a0), (1, .int i1), (2, .int i2), (3, .int i3)], [.ref a0]))) rfl ?_
    refine gg_gR (b := (a0 + 1)) aMi103 rfl rfl rfl (gR_of (sh8_z ha0) (sh8_r0 ha0)) ?_
    refine go_ops aMi103 1 _ (f1 := (90, ([(0, .ref a0), (1, .int i1), (2, .int i2), (3, .int i3)], [.int i3, .ref (a0 + 1)]))) rfl ?_
    obtain ⟨I90_2, hxI90_2, h⟩ := Option.bind_eq_some_iff.mp h
    refine gg_pI aMi103 rfl rfl rfl rfl (by decide) (pI_of (sh2_z (sh8_s0 ha0)) hxI90_2) ?_
    refine go_ops aMi103 1 _ (f1 := (135, ([(0, .ref a0), (1, .int i1), (2, .int i2), (3, .int i3)], []))) rfl ?_
    refine go_le (lv1 := []) (aLe_of (show (List.map (fun q => q.1) ([] : ALv)).Nodup from (by show ([] : List Nat).Nodup; decide)) aSubL_nil) ?_
    exact Tf103_b135 hd a0 ha0 I90_2 _ h
  rw [if_neg hs0] at h
  by_cases hs1 : i1 = (16 : Int32)
  · rw [if_pos hs1] at h
    refine go_sw (f1 := (96, ([(0, .ref a0), (1, .int i1), (2, .int i2), (3, .int i3)], []))) aMi103 rfl (by rw [hs1]; rfl) ?_
    refine go_ops aMi103 1 _ (f1 := (97, ([(0, .ref a0), (1, .int i1), (2, .int i2), (3, .int i3)], [.ref a0]))) rfl ?_
    refine gg_gR (b := (a0 + 1)) aMi103 rfl rfl rfl (gR_of (sh8_z ha0) (sh8_r0 ha0)) ?_
    refine go_ops aMi103 1 _ (f1 := (101, ([(0, .ref a0), (1, .int i1), (2, .int i2), (3, .int i3)], [.ref a0, .ref (a0 + 1)]))) rfl ?_
    obtain ⟨r101_3, hxr101_3, h⟩ := Option.bind_eq_some_iff.mp h
    refine gg_cv (as := []) (r := [.ref (a0 + 1)]) aMi103 rfl rfl rfl aMi92 (Nat.le_of_ble_eq_true rfl) rfl (Nat.le_of_ble_eq_true rfl) (Nat.le_of_ble_eq_true rfl) (by omega) (isK_of (sh8_z ha0)) (Tf92 (by omega) a0 ha0 I _ hxr101_3) ?_
    show aGo kad d 103 (104, ([(0, .ref a0), (1, .int i1), (2, .int i2), (3, .int i3)], [.int r101_3.1, .ref (a0 + 1)])) (aMem Z r101_3.2, t) _
    obtain ⟨I104_4, hxI104_4, h⟩ := Option.bind_eq_some_iff.mp h
    refine gg_pI aMi103 rfl rfl rfl rfl (by decide) (pI_of (sh2_z (sh8_s0 ha0)) hxI104_4) ?_
    refine go_ops aMi103 1 _ (f1 := (135, ([(0, .ref a0), (1, .int i1), (2, .int i2), (3, .int i3)], []))) rfl ?_
    refine go_le (lv1 := []) (aLe_of (show (List.map (fun q => q.1) ([] : ALv)).Nodup from (by show ([] : List Nat).Nodup; decide)) aSubL_nil) ?_
    exact Tf103_b135 hd a0 ha0 I104_4 _ h
  rw [if_neg hs1] at h
  by_cases hs2 : i1 = (17 : Int32)
  · rw [if_pos hs2] at h
    refine go_sw (f1 := (110, ([(0, .ref a0), (1, .int i1), (2, .int i2), (3, .int i3)], []))) aMi103 rfl (by rw [hs2]; rfl) ?_
    refine go_ops aMi103 2 _ (f1 := (112, ([(0, .ref a0), (1, .int i1), (2, .int i2), (3, .int i3)], [.int i3, .ref a0]))) rfl ?_
    obtain ⟨r112_5, hxr112_5, h⟩ := Option.bind_eq_some_iff.mp h
    refine gg_cv (as := [.int i3]) (r := []) aMi103 rfl rfl rfl aMi91 (Nat.le_of_ble_eq_true rfl) rfl (Nat.le_of_ble_eq_true rfl) (Nat.le_of_ble_eq_true rfl) (by omega) (isK_of (sh8_z ha0)) (Tf91 (by omega) a0 ha0 i3 I _ hxr112_5) ?_
    show aGo kad d 103 (115, ([(0, .ref a0), (1, .int i1), (2, .int i2), (3, .int i3)], [])) (aMem Z r112_5.2, t) _
    refine go_ops aMi103 1 _ (f1 := (116, ([(0, .ref a0), (1, .int i1), (2, .int i2), (3, .int i3)], [.ref a0]))) rfl ?_
    obtain ⟨r116_6, hxr116_6, h⟩ := Option.bind_eq_some_iff.mp h
    refine gg_cv (as := []) (r := []) aMi103 rfl rfl rfl aMi88 (Nat.le_of_ble_eq_true rfl) rfl (Nat.le_of_ble_eq_true rfl) (Nat.le_of_ble_eq_true rfl) (by omega) (isK_of (sh8_z ha0)) (Tf88 (by omega) a0 ha0 r112_5.2 _ hxr116_6) ?_
    show aGo kad d 103 (119, ([(0, .ref a0), (1, .int i1), (2, .int i2), (3, .int i3)], [])) (aMem Z r116_6.2, t) _
    refine go_ops aMi103 1 _ (f1 := (135, ([(0, .ref a0), (1, .int i1), (2, .int i2), (3, .int i3)], []))) rfl ?_
    refine go_le (lv1 := []) (aLe_of (show (List.map (fun q => q.1) ([] : ALv)).Nodup from (by show ([] : List Nat).Nodup; decide)) aSubL_nil) ?_
    exact Tf103_b135 hd a0 ha0 r116_6.2 _ h
  rw [if_neg hs2] at h
  refine go_swd (tg := 122) (m := 3) aMi103 rfl rfl (by decide) (fun k hk => ?_) ?_
  · match k, hk with
    | 0, _ => exact hs0
    | 1, _ => exact hs1
    | 2, _ => exact hs2
    | k + 3, hk => exact absurd hk (by omega)
  refine go_ops aMi103 3 _ (f1 := (125, ([(0, .ref a0), (1, .int i1), (2, .int i2), (3, .int i3)], [.ref a0, .int i2, .ref a0]))) rfl ?_
  obtain ⟨r125_7, hxr125_7, h⟩ := Option.bind_eq_some_iff.mp h
  refine gg_cv (as := []) (r := [.int i2, .ref a0]) aMi103 rfl rfl rfl aMi92 (Nat.le_of_ble_eq_true rfl) rfl (Nat.le_of_ble_eq_true rfl) (Nat.le_of_ble_eq_true rfl) (by omega) (isK_of (sh8_z ha0)) (Tf92 (by omega) a0 ha0 I _ hxr125_7) ?_
  show aGo kad d 103 (128, ([(0, .ref a0), (1, .int i1), (2, .int i2), (3, .int i3)], [.int r125_7.1, .int i2, .ref a0])) (aMem Z r125_7.2, t) _
  obtain ⟨r128_8, hxr128_8, h⟩ := Option.bind_eq_some_iff.mp h
  refine gg_cv (as := [.int i2, .int r125_7.1]) (r := []) aMi103 rfl rfl rfl aMi99 (Nat.le_of_ble_eq_true rfl) rfl (Nat.le_of_ble_eq_true rfl) (Nat.le_of_ble_eq_true rfl) (by omega) (isK_of (sh8_z ha0)) (Tf99 (by omega) a0 ha0 i2 r125_7.1 r125_7.2 _ hxr128_8) ?_
  show aGo kad d 103 (131, ([(0, .ref a0), (1, .int i1), (2, .int i2), (3, .int i3)], [])) (aMem Z r128_8.2, t) _
  refine go_ops aMi103 1 _ (f1 := (132, ([(0, .ref a0), (1, .int i1), (2, .int i2), (3, .int i3)], [.ref a0]))) rfl ?_
  obtain ⟨r132_9, hxr132_9, h⟩ := Option.bind_eq_some_iff.mp h
  refine gg_cv (as := []) (r := []) aMi103 rfl rfl rfl aMi88 (Nat.le_of_ble_eq_true rfl) rfl (Nat.le_of_ble_eq_true rfl) (Nat.le_of_ble_eq_true rfl) (by omega) (isK_of (sh8_z ha0)) (Tf88 (by omega) a0 ha0 r128_8.2 _ hxr132_9) ?_
  show aGo kad d 103 (135, ([(0, .ref a0), (1, .int i1), (2, .int i2), (3, .int i3)], [])) (aMem Z r132_9.2, t) _
  refine go_le (lv1 := []) (aLe_of (show (List.map (fun q => q.1) ([] : ALv)).Nodup from (by show ([] : List Nat).Nodup; decide)) aSubL_nil) ?_
  exact Tf103_b135 hd a0 ha0 r132_9.2 _ h
def f103_b17 (kad : Nat → Nat) (N : Nat) (Z : AZ) (a0 : Nat) (i1 : Int32) (i2 : Int32) (i3 : Int32) (s0 : Int32) (I : AI) : Option (Unit × AI) :=
  if s0 = 0 then
    (f94 kad N Z a0 (1 : Int32) I).bind fun r37_1 =>
    if ¬ r37_1.1 = 0 then
      f103_b44 kad N Z a0 i1 i2 i3 r37_1.2
    else
      f103_b43 kad N Z a0 r37_1.2
  else
    (f93 kad N Z a0 (1 : Int32) I).bind fun r26_2 =>
    if ¬ r26_2.1 = 0 then
      f103_b44 kad N Z a0 i1 i2 i3 r26_2.2
    else
      f103_b43 kad N Z a0 r26_2.2
set_option maxRecDepth 20000 in
theorem Tf103_b17 {kad : Nat → Nat} {N : Nat} {Z : AZ} {d : Nat} {t : Option Nat × (Nat × Nat)} (hd : 3 ≤ d) : ∀ (a0 : Nat) (ha0 : sh8 kad Z a0) (i1 : Int32) (i2 : Int32) (i3 : Int32) (s0 : Int32) (I : AI) (r : Unit × AI), f103_b17 kad N Z a0 i1 i2 i3 s0 I = some r → aGo kad d 103 (17, ([(0, .ref a0), (1, .int i1), (2, .int i2), (3, .int i3)], [.int s0])) (aMem Z I, t) (qV Z t r) := by
  intro a0 ha0 i1 i2 i3 s0 I r h
  unfold f103_b17 at h
  refine go_ops aMi103 2 _ (f1 := (21, ([(4, .int s0), (0, .ref a0), (1, .int i1), (2, .int i2), (3, .int i3)], [.int s0]))) rfl ?_
  refine gg_br (b := decide (s0 = 0)) (tg := 35) (off := 14) aMi103 rfl rfl rfl rfl (fun hb => ?_) (fun hb => ?_)
  · rw [if_pos (of_decide_eq_true hb)] at h
    refine go_ops aMi103 2 _ (f1 := (37, ([(4, .int s0), (0, .ref a0), (1, .int i1), (2, .int i2), (3, .int i3)], [.int (1 : Int32), .ref a0]))) rfl ?_
    obtain ⟨r37_1, hxr37_1, h⟩ := Option.bind_eq_some_iff.mp h
    refine gg_cv (as := [.int (1 : Int32)]) (r := []) aMi103 rfl rfl rfl aMi94 (Nat.le_of_ble_eq_true rfl) rfl (Nat.le_of_ble_eq_true rfl) (Nat.le_of_ble_eq_true rfl) (by omega) (isK_of (sh8_z ha0)) (Tf94 (by omega) a0 ha0 (1 : Int32) I _ hxr37_1) ?_
    show aGo kad d 103 (40, ([(4, .int s0), (0, .ref a0), (1, .int i1), (2, .int i2), (3, .int i3)], [.int r37_1.1])) (aMem Z r37_1.2, t) _
    refine gg_br (b := decide (¬ r37_1.1 = 0)) (tg := 44) (off := 4) aMi103 rfl rfl rfl rfl (fun hb => ?_) (fun hb => ?_)
    · rw [if_pos (of_decide_eq_true hb)] at h
      refine go_le (lv1 := [(0, .ref a0), (1, .int i1), (2, .int i2), (3, .int i3)]) (aLe_of (show (List.map (fun q => q.1) ([(0, .ref a0), (1, .int i1), (2, .int i2), (3, .int i3)] : ALv)).Nodup from (by show ([0, 1, 2, 3] : List Nat).Nodup; decide)) (aSubL_cons rfl (aSubL_cons rfl (aSubL_cons rfl (aSubL_cons rfl aSubL_nil))))) ?_
      exact Tf103_b44 hd a0 ha0 i1 i2 i3 r37_1.2 _ h
    · rw [if_neg (of_decide_eq_false hb)] at h
      refine go_le (lv1 := []) (aLe_of (show (List.map (fun q => q.1) ([] : ALv)).Nodup from (by show ([] : List Nat).Nodup; decide)) aSubL_nil) ?_
      exact Tf103_b43 hd a0 ha0 r37_1.2 _ h
  · rw [if_neg (of_decide_eq_false hb)] at h
    refine go_ops aMi103 2 _ (f1 := (26, ([(4, .int s0), (0, .ref a0), (1, .int i1), (2, .int i2), (3, .int i3)], [.int (1 : Int32), .ref a0]))) rfl ?_
    obtain ⟨r26_2, hxr26_2, h⟩ := Option.bind_eq_some_iff.mp h
    refine gg_cv (as := [.int (1 : Int32)]) (r := []) aMi103 rfl rfl rfl aMi93 (Nat.le_of_ble_eq_true rfl) rfl (Nat.le_of_ble_eq_true rfl) (Nat.le_of_ble_eq_true rfl) (by omega) (isK_of (sh8_z ha0)) (Tf93 (by omega) a0 ha0 (1 : Int32) I _ hxr26_2) ?_
    show aGo kad d 103 (29, ([(4, .int s0), (0, .ref a0), (1, .int i1), (2, .int i2), (3, .int i3)], [.int r26_2.1])) (aMem Z r26_2.2, t) _
    refine gg_br (b := decide (¬ r26_2.1 = 0)) (tg := 44) (off := 15) aMi103 rfl rfl rfl rfl (fun hb => ?_) (fun hb => ?_)
    · rw [if_pos (of_decide_eq_true hb)] at h
      refine go_le (lv1 := [(0, .ref a0), (1, .int i1), (2, .int i2), (3, .int i3)]) (aLe_of (show (List.map (fun q => q.1) ([(0, .ref a0), (1, .int i1), (2, .int i2), (3, .int i3)] : ALv)).Nodup from (by show ([0, 1, 2, 3] : List Nat).Nodup; decide)) (aSubL_cons rfl (aSubL_cons rfl (aSubL_cons rfl (aSubL_cons rfl aSubL_nil))))) ?_
      exact Tf103_b44 hd a0 ha0 i1 i2 i3 r26_2.2 _ h
    · rw [if_neg (of_decide_eq_false hb)] at h
      refine go_ops aMi103 1 _ (f1 := (43, ([(4, .int s0), (0, .ref a0), (1, .int i1), (2, .int i2), (3, .int i3)], []))) rfl ?_
      refine go_le (lv1 := []) (aLe_of (show (List.map (fun q => q.1) ([] : ALv)).Nodup from (by show ([] : List Nat).Nodup; decide)) aSubL_nil) ?_
      exact Tf103_b43 hd a0 ha0 r26_2.2 _ h
def f103_b12 (kad : Nat → Nat) (N : Nat) (Z : AZ) (a0 : Nat) (i1 : Int32) (i2 : Int32) (i3 : Int32) (I : AI) : Option (Unit × AI) :=
  f103_b17 kad N Z a0 i1 i2 i3 (1 : Int32) I
set_option maxRecDepth 20000 in
theorem Tf103_b12 {kad : Nat → Nat} {N : Nat} {Z : AZ} {d : Nat} {t : Option Nat × (Nat × Nat)} (hd : 3 ≤ d) : ∀ (a0 : Nat) (ha0 : sh8 kad Z a0) (i1 : Int32) (i2 : Int32) (i3 : Int32) (I : AI) (r : Unit × AI), f103_b12 kad N Z a0 i1 i2 i3 I = some r → aGo kad d 103 (12, ([(0, .ref a0), (1, .int i1), (2, .int i2), (3, .int i3)], [])) (aMem Z I, t) (qV Z t r) := by
  intro a0 ha0 i1 i2 i3 I r h
  unfold f103_b12 at h
  refine go_ops aMi103 2 _ (f1 := (17, ([(0, .ref a0), (1, .int i1), (2, .int i2), (3, .int i3)], [.int (1 : Int32)]))) rfl ?_
  exact Tf103_b17 hd a0 ha0 i1 i2 i3 (1 : Int32) I _ h
def f103 (kad : Nat → Nat) (N : Nat) (Z : AZ) (a0 : Nat) (i1 : Int32) (i2 : Int32) (i3 : Int32) (I : AI) : Option (Unit × AI) :=
  if i1 = (15 : Int32) then
    f103_b12 kad N Z a0 i1 i2 i3 I
  else
    if ¬ i1 = (17 : Int32) then
      f103_b17 kad N Z a0 i1 i2 i3 (0 : Int32) I
    else
      f103_b12 kad N Z a0 i1 i2 i3 I
set_option maxRecDepth 20000 in
theorem Tf103 {kad : Nat → Nat} {N : Nat} {Z : AZ} {d : Nat} {t : Option Nat × (Nat × Nat)} (hd : 3 ≤ d) : ∀ (a0 : Nat) (ha0 : sh8 kad Z a0) (i1 : Int32) (i2 : Int32) (i3 : Int32) (I : AI) (r : Unit × AI), f103 kad N Z a0 i1 i2 i3 I = some r → aGo kad d 103 (0, ([(0, .ref a0), (1, .int i1), (2, .int i2), (3, .int i3)], [])) (aMem Z I, t) (qV Z t r) := by
  intro a0 ha0 i1 i2 i3 I r h
  unfold f103 at h
  refine go_ops aMi103 2 _ (f1 := (3, ([(0, .ref a0), (1, .int i1), (2, .int i2), (3, .int i3)], [.int (15 : Int32), .int i1]))) rfl ?_
  refine gg_br (b := decide (i1 = (15 : Int32))) (tg := 12) (off := 9) aMi103 rfl rfl rfl rfl (fun hb => ?_) (fun hb => ?_)
  · rw [if_pos (of_decide_eq_true hb)] at h
    exact Tf103_b12 hd a0 ha0 i1 i2 i3 I _ h
  · rw [if_neg (of_decide_eq_false hb)] at h
    refine go_ops aMi103 2 _ (f1 := (9, ([(0, .ref a0), (1, .int i1), (2, .int i2), (3, .int i3)], [.int (17 : Int32), .int i1]))) rfl ?_
    refine gg_br (b := decide (¬ i1 = (17 : Int32))) (tg := 16) (off := 7) aMi103 rfl rfl rfl rfl (fun hb => ?_) (fun hb => ?_)
    · rw [if_pos (of_decide_eq_true hb)] at h
      refine go_ops aMi103 1 _ (f1 := (17, ([(0, .ref a0), (1, .int i1), (2, .int i2), (3, .int i3)], [.int (0 : Int32)]))) rfl ?_
      exact Tf103_b17 hd a0 ha0 i1 i2 i3 (0 : Int32) I _ h
    · rw [if_neg (of_decide_eq_false hb)] at h
      exact Tf103_b12 hd a0 ha0 i1 i2 i3 I _ h
-- KernelGym$Machine.jump (II)V
def f102_b47 (kad : Nat → Nat) (N : Nat) (Z : AZ) (a0 : Nat) (I : AI) : Option (Unit × AI) :=
  some ((), I)
set_option maxRecDepth 20000 in
theorem Tf102_b47 {kad : Nat → Nat} {N : Nat} {Z : AZ} {d : Nat} {t : Option Nat × (Nat × Nat)} (hd : 1 ≤ d) : ∀ (a0 : Nat) (ha0 : sh8 kad Z a0) (I : AI) (r : Unit × AI), f102_b47 kad N Z a0 I = some r → aGo kad d 102 (47, ([], [])) (aMem Z I, t) (qV Z t r) := by
  intro a0 ha0 I r h
  unfold f102_b47 at h
  cases h
  exact go_ret aMi102 rfl rfl ⟨rfl, rfl⟩
def f102_b32 (kad : Nat → Nat) (N : Nat) (Z : AZ) (a0 : Nat) (I : AI) : Option (Unit × AI) :=
  (f88 kad N Z a0 I).bind fun r33_1 =>
  f102_b47 kad N Z a0 r33_1.2
set_option maxRecDepth 20000 in
theorem Tf102_b32 {kad : Nat → Nat} {N : Nat} {Z : AZ} {d : Nat} {t : Option Nat × (Nat × Nat)} (hd : 1 ≤ d) : ∀ (a0 : Nat) (ha0 : sh8 kad Z a0) (I : AI) (r : Unit × AI), f102_b32 kad N Z a0 I = some r → aGo kad d 102 (32, ([(0, .ref a0)], [])) (aMem Z I, t) (qV Z t r) := by
  intro a0 ha0 I r h
  unfold f102_b32 at h
  refine go_ops aMi102 1 _ (f1 := (33, ([(0, .ref a0)], [.ref a0]))) rfl ?_
  obtain ⟨r33_1, hxr33_1, h⟩ := Option.bind_eq_some_iff.mp h
  refine gg_cv (as := []) (r := []) aMi102 rfl rfl rfl aMi88 (Nat.le_of_ble_eq_true rfl) rfl (Nat.le_of_ble_eq_true rfl) (Nat.le_of_ble_eq_true rfl) (by omega) (isK_of (sh8_z ha0)) (Tf88 (by omega) a0 ha0 I _ hxr33_1) ?_
  show aGo kad d 102 (36, ([(0, .ref a0)], [])) (aMem Z r33_1.2, t) _
  refine go_ops aMi102 1 _ (f1 := (47, ([(0, .ref a0)], []))) rfl ?_
  refine go_le (lv1 := []) (aLe_of (show (List.map (fun q => q.1) ([] : ALv)).Nodup from (by show ([] : List Nat).Nodup; decide)) aSubL_nil) ?_
  exact Tf102_b47 hd a0 ha0 r33_1.2 _ h
def f102_b39 (kad : Nat → Nat) (N : Nat) (Z : AZ) (a0 : Nat) (i2 : Int32) (I : AI) : Option (Unit × AI) :=
  (wI I (a0 + 1) 3 i2).bind fun I44_1 =>
  f102_b47 kad N Z a0 I44_1
set_option maxRecDepth 20000 in
theorem Tf102_b39 {kad : Nat → Nat} {N : Nat} {Z : AZ} {d : Nat} {t : Option Nat × (Nat × Nat)} (hd : 1 ≤ d) : ∀ (a0 : Nat) (ha0 : sh8 kad Z a0) (i2 : Int32) (I : AI) (r : Unit × AI), f102_b39 kad N Z a0 i2 I = some r → aGo kad d 102 (39, ([(0, .ref a0), (2, .int i2)], [])) (aMem Z I, t) (qV Z t r) := by
  intro a0 ha0 i2 I r h
  unfold f102_b39 at h
  refine go_ops aMi102 1 _ (f1 := (40, ([(0, .ref a0), (2, .int i2)], [.ref a0]))) rfl ?_
  refine gg_gR (b := (a0 + 1)) aMi102 rfl rfl rfl (gR_of (sh8_z ha0) (sh8_r0 ha0)) ?_
  refine go_ops aMi102 1 _ (f1 := (44, ([(0, .ref a0), (2, .int i2)], [.int i2, .ref (a0 + 1)]))) rfl ?_
  obtain ⟨I44_1, hxI44_1, h⟩ := Option.bind_eq_some_iff.mp h
  refine gg_pI aMi102 rfl rfl rfl rfl (by decide) (pI_of (sh2_z (sh8_s0 ha0)) hxI44_1) ?_
  refine go_le (lv1 := []) (aLe_of (show (List.map (fun q => q.1) ([] : ALv)).Nodup from (by show ([] : List Nat).Nodup; decide)) aSubL_nil) ?_
  exact Tf102_b47 hd a0 ha0 I44_1 _ h
def f102_b16 (kad : Nat → Nat) (N : Nat) (Z : AZ) (a0 : Nat) (i1 : Int32) (i2 : Int32) (I : AI) : Option (Unit × AI) :=
  if ¬ i1 = (14 : Int32) then
    f102_b39 kad N Z a0 i2 I
  else
    if ¬ (I (a0 + 1) 6) = 0 then
      f102_b39 kad N Z a0 i2 I
    else
      f102_b32 kad N Z a0 I
set_option maxRecDepth 20000 in
theorem Tf102_b16 {kad : Nat → Nat} {N : Nat} {Z : AZ} {d : Nat} {t : Option Nat × (Nat × Nat)} (hd : 1 ≤ d) : ∀ (a0 : Nat) (ha0 : sh8 kad Z a0) (i1 : Int32) (i2 : Int32) (I : AI) (r : Unit × AI), f102_b16 kad N Z a0 i1 i2 I = some r → aGo kad d 102 (16, ([(0, .ref a0), (1, .int i1), (2, .int i2)], [])) (aMem Z I, t) (qV Z t r) := by
  intro a0 ha0 i1 i2 I r h
  unfold f102_b16 at h
  refine go_ops aMi102 2 _ (f1 := (19, ([(0, .ref a0), (1, .int i1), (2, .int i2)], [.int (14 : Int32), .int i1]))) rfl ?_
  refine gg_br (b := decide (¬ i1 = (14 : Int32))) (tg := 39) (off := 20) aMi102 rfl rfl rfl rfl (fun hb => ?_) (fun hb => ?_)
  · rw [if_pos (of_decide_eq_true hb)] at h
    refine go_le (lv1 := [(0, .ref a0), (2, .int i2)]) (aLe_of (show (List.map (fun q => q.1) ([(0, .ref a0), (2, .int i2)] : ALv)).Nodup from (by show ([0, 2] : List Nat).Nodup; decide)) (aSubL_cons rfl (aSubL_cons rfl aSubL_nil))) ?_
    exact Tf102_b39 hd a0 ha0 i2 I _ h
  · rw [if_neg (of_decide_eq_false hb)] at h
    refine go_ops aMi102 1 _ (f1 := (23, ([(0, .ref a0), (1, .int i1), (2, .int i2)], [.ref a0]))) rfl ?_
    refine gg_gR (b := (a0 + 1)) aMi102 rfl rfl rfl (gR_of (sh8_z ha0) (sh8_r0 ha0)) ?_
    refine gg_gI aMi102 rfl rfl rfl (gI_of (sh2_z (sh8_s0 ha0))) ?_
    refine gg_br (b := decide (¬ (I (a0 + 1) 6) = 0)) (tg := 39) (off := 10) aMi102 rfl rfl rfl rfl (fun hb => ?_) (fun hb => ?_)
    · rw [if_pos (of_decide_eq_true hb)] at h
      refine go_le (lv1 := [(0, .ref a0), (2, .int i2)]) (aLe_of (show (List.map (fun q => q.1) ([(0, .ref a0), (2, .int i2)] : ALv)).Nodup from (by show ([0, 2] : List Nat).Nodup; decide)) (aSubL_cons rfl (aSubL_cons rfl aSubL_nil))) ?_
      exact Tf102_b39 hd a0 ha0 i2 I _ h
    · rw [if_neg (of_decide_eq_false hb)] at h
      refine go_le (lv1 := [(0, .ref a0)]) (aLe_of (show (List.map (fun q => q.1) ([(0, .ref a0)] : ALv)).Nodup from (by show ([0] : List Nat).Nodup; decide)) (aSubL_cons rfl aSubL_nil)) ?_
      exact Tf102_b32 hd a0 ha0 I _ h
def f102 (kad : Nat → Nat) (N : Nat) (Z : AZ) (a0 : Nat) (i1 : Int32) (i2 : Int32) (I : AI) : Option (Unit × AI) :=
  if ¬ i1 = (13 : Int32) then
    f102_b16 kad N Z a0 i1 i2 I
  else
    if (I (a0 + 1) 5) = 0 then
      f102_b32 kad N Z a0 I
    else
      f102_b16 kad N Z a0 i1 i2 I
set_option maxRecDepth 20000 in
theorem Tf102 {kad : Nat → Nat} {N : Nat} {Z : AZ} {d : Nat} {t : Option Nat × (Nat × Nat)} (hd : 1 ≤ d) : ∀ (a0 : Nat) (ha0 : sh8 kad Z a0) (i1 : Int32) (i2 : Int32) (I : AI) (r : Unit × AI), f102 kad N Z a0 i1 i2 I = some r → aGo kad d 102 (0, ([(0, .ref a0), (1, .int i1), (2, .int i2)], [])) (aMem Z I, t) (qV Z t r) := by
  intro a0 ha0 i1 i2 I r h
  unfold f102 at h
  refine go_ops aMi102 2 _ (f1 := (3, ([(0, .ref a0), (1, .int i1), (2, .int i2)], [.int (13 : Int32), .int i1]))) rfl ?_
  refine gg_br (b := decide (¬ i1 = (13 : Int32))) (tg := 16) (off := 13) aMi102 rfl rfl rfl rfl (fun hb => ?_) (fun hb => ?_)
  · rw [if_pos (of_decide_eq_true hb)] at h
    exact Tf102_b16 hd a0 ha0 i1 i2 I _ h
  · rw [if_neg (of_decide_eq_false hb)] at h
    refine go_ops aMi102 1 _ (f1 := (7, ([(0, .ref a0), (1, .int i1), (2, .int i2)], [.ref a0]))) rfl ?_
    refine gg_gR (b := (a0 + 1)) aMi102 rfl rfl rfl (gR_of (sh8_z ha0) (sh8_r0 ha0)) ?_
    refine gg_gI aMi102 rfl rfl rfl (gI_of (sh2_z (sh8_s0 ha0))) ?_
    refine gg_br (b := decide ((I (a0 + 1) 5) = 0)) (tg := 32) (off := 19) aMi102 rfl rfl rfl rfl (fun hb => ?_) (fun hb => ?_)
    · rw [if_pos (of_decide_eq_true hb)] at h
      refine go_le (lv1 := [(0, .ref a0)]) (aLe_of (show (List.map (fun q => q.1) ([(0, .ref a0)] : ALv)).Nodup from (by show ([0] : List Nat).Nodup; decide)) (aSubL_cons rfl aSubL_nil)) ?_
      exact Tf102_b32 hd a0 ha0 I _ h
    · rw [if_neg (of_decide_eq_false hb)] at h
      exact Tf102_b16 hd a0 ha0 i1 i2 I _ h
-- KernelGym$Machine.registerAt (I)I
def f98_b22 (kad : Nat → Nat) (N : Nat) (Z : AZ) (a0 : Nat) (s0 : Int32) (I : AI) : Option (Int32 × AI) :=
  some (s0, I)
set_option maxRecDepth 20000 in
theorem Tf98_b22 {kad : Nat → Nat} {N : Nat} {Z : AZ} {d : Nat} {t : Option Nat × (Nat × Nat)} (hd : 0 ≤ d) : ∀ (a0 : Nat) (ha0 : sh8 kad Z a0) (s0 : Int32) (I : AI) (r : Int32 × AI), f98_b22 kad N Z a0 s0 I = some r → aGo kad d 98 (22, ([], [.int s0])) (aMem Z I, t) (qI Z t r) := by
  intro a0 ha0 s0 I r h
  unfold f98_b22 at h
  cases h
  exact go_ret aMi98 rfl aRetI ⟨rfl, rfl⟩
def f98_b21 (kad : Nat → Nat) (N : Nat) (Z : AZ) (a0 : Nat) (I : AI) : Option (Int32 × AI) :=
  f98_b22 kad N Z a0 (0 : Int32) I
set_option maxRecDepth 20000 in
theorem Tf98_b21 {kad : Nat → Nat} {N : Nat} {Z : AZ} {d : Nat} {t : Option Nat × (Nat × Nat)} (hd : 0 ≤ d) : ∀ (a0 : Nat) (ha0 : sh8 kad Z a0) (I : AI) (r : Int32 × AI), f98_b21 kad N Z a0 I = some r → aGo kad d 98 (21, ([], [])) (aMem Z I, t) (qI Z t r) := by
  intro a0 ha0 I r h
  unfold f98_b21 at h
  refine go_ops aMi98 1 _ (f1 := (22, ([], [.int (0 : Int32)]))) rfl ?_
  exact Tf98_b22 hd a0 ha0 (0 : Int32) I _ h
def f98 (kad : Nat → Nat) (N : Nat) (Z : AZ) (a0 : Nat) (i1 : Int32) (I : AI) : Option (Int32 × AI) :=
  if i1 < 0 then
    f98_b21 kad N Z a0 I
  else
    if (4 : Int32) ≤ i1 then
      f98_b21 kad N Z a0 I
    else
      (ixA 4 i1).bind fun j17_1 =>
      f98_b22 kad N Z a0 (I (a0 + 2) j17_1) I
set_option maxRecDepth 20000 in
theorem Tf98 {kad : Nat → Nat} {N : Nat} {Z : AZ} {d : Nat} {t : Option Nat × (Nat × Nat)} (hd : 0 ≤ d) : ∀ (a0 : Nat) (ha0 : sh8 kad Z a0) (i1 : Int32) (I : AI) (r : Int32 × AI), f98 kad N Z a0 i1 I = some r → aGo kad d 98 (0, ([(0, .ref a0), (1, .int i1)], [])) (aMem Z I, t) (qI Z t r) := by
  intro a0 ha0 i1 I r h
  unfold f98 at h
  refine go_ops aMi98 1 _ (f1 := (1, ([(0, .ref a0), (1, .int i1)], [.int i1]))) rfl ?_
  refine gg_br (b := decide (i1 < 0)) (tg := 21) (off := 20) aMi98 rfl rfl rfl rfl (fun hb => ?_) (fun hb => ?_)
  · rw [if_pos (of_decide_eq_true hb)] at h
    refine go_le (lv1 := []) (aLe_of (show (List.map (fun q => q.1) ([] : ALv)).Nodup from (by show ([] : List Nat).Nodup; decide)) aSubL_nil) ?_
    exact Tf98_b21 hd a0 ha0 I _ h
  · rw [if_neg (of_decide_eq_false hb)] at h
    refine go_ops aMi98 2 _ (f1 := (6, ([(0, .ref a0), (1, .int i1)], [.int (4 : Int32), .int i1]))) rfl ?_
    refine gg_br (b := decide ((4 : Int32) ≤ i1)) (tg := 21) (off := 15) aMi98 rfl rfl rfl rfl (fun hb => ?_) (fun hb => ?_)
    · rw [if_pos (of_decide_eq_true hb)] at h
      refine go_le (lv1 := []) (aLe_of (show (List.map (fun q => q.1) ([] : ALv)).Nodup from (by show ([] : List Nat).Nodup; decide)) aSubL_nil) ?_
      exact Tf98_b21 hd a0 ha0 I _ h
    · rw [if_neg (of_decide_eq_false hb)] at h
      refine go_ops aMi98 1 _ (f1 := (10, ([(0, .ref a0), (1, .int i1)], [.ref a0]))) rfl ?_
      refine gg_gR (b := (a0 + 1)) aMi98 rfl rfl rfl (gR_of (sh8_z ha0) (sh8_r0 ha0)) ?_
      refine gg_gR (b := (a0 + 2)) aMi98 rfl rfl rfl (gR_of (sh2_z (sh8_s0 ha0)) (sh2_r14 (sh8_s0 ha0))) ?_
      refine go_ops aMi98 1 _ (f1 := (17, ([(0, .ref a0), (1, .int i1)], [.int i1, .ref (a0 + 2)]))) rfl ?_
      obtain ⟨j17_1, hxj17_1, h⟩ := Option.bind_eq_some_iff.mp h
      refine gg_lI (Or.inl ⟨rfl, rfl⟩) aMi98 rfl (lI_of (sh2_a14 (sh8_s0 ha0)) hxj17_1) ?_
      refine go_ops aMi98 1 _ (f1 := (22, ([(0, .ref a0), (1, .int i1)], [.int (I (a0 + 2) j17_1)]))) rfl ?_
      refine go_le (lv1 := []) (aLe_of (show (List.map (fun q => q.1) ([] : ALv)).Nodup from (by show ([] : List Nat).Nodup; decide)) aSubL_nil) ?_
      exact Tf98_b22 hd a0 ha0 (I (a0 + 2) j17_1) I _ h
-- KernelGym$Machine.resultOf (III)J
def f101_b81 (kad : Nat → Nat) (N : Nat) (Z : AZ) (i1 : Int32) (i2 : Int32) (I : AI) : Option (Int64 × AI) :=
  some (((i1 - i2).toInt64), I)
set_option maxRecDepth 20000 in
theorem Tf101_b81 {kad : Nat → Nat} {N : Nat} {Z : AZ} {d : Nat} {t : Option Nat × (Nat × Nat)} (hd : 0 ≤ d) : ∀ (i1 : Int32) (i2 : Int32) (I : AI) (r : Int64 × AI), f101_b81 kad N Z i1 i2 I = some r → aGo kad d 101 (81, ([(1, .int i1), (2, .int i2)], [])) (aMem Z I, t) (qJ Z t r) := by
  intro i1 i2 I r h
  unfold f101_b81 at h
  refine go_ops aMi101 4 _ (f1 := (85, ([(1, .int i1), (2, .int i2)], [.long ((i1 - i2).toInt64)]))) rfl ?_
  cases h
  exact go_ret aMi101 rfl rfl ⟨rfl, rfl⟩
def f101 (kad : Nat → Nat) (N : Nat) (Z : AZ) (i0 : Int32) (i1 : Int32) (i2 : Int32) (I : AI) : Option (Int64 × AI) :=
  if i0 = (4 : Int32) then
    some (((i1 + i2).toInt64), I)
  else
  if i0 = (5 : Int32) then
    f101_b81 kad N Z i1 i2 I
  else
  if i0 = (6 : Int32) then
    some (((i1.toInt64) * (i2.toInt64)), I)
  else
  if i0 = (7 : Int32) then
    some (((i1 &&& i2).toInt64), I)
  else
  if i0 = (8 : Int32) then
    some (((i1 ^^^ i2).toInt64), I)
  else
  if i0 = (9 : Int32) then
    some (((i1 <<< ((i2 - i2 / (16 : Int32) * (16 : Int32)) &&& 31)).toInt64), I)
  else
  if i0 = (10 : Int32) then
    some (((i1 >>> ((i2 - i2 / (16 : Int32) * (16 : Int32)) &&& 31)).toInt64), I)
  else
    f101_b81 kad N Z i1 i2 I
set_option maxRecDepth 20000 in
theorem Tf101 {kad : Nat → Nat} {N : Nat} {Z : AZ} {d : Nat} {t : Option Nat × (Nat × Nat)} (hd : 0 ≤ d) : ∀ (i0 : Int32) (i1 : Int32) (i2 : Int32) (I : AI) (r : Int64 × AI), f101 kad N Z i0 i1 i2 I = some r → aGo kad d 101 (0, ([(0, .int i0), (1, .int i1), (2, .int i2)], [])) (aMem Z I, t) (qJ Z t r) := by
  intro i0 i1 i2 I r h
  unfold f101 at h
  refine go_ops aMi101 1 _ (f1 := (1, ([(0, .int i0), (1, .int i1), (2, .int i2)], [.int i0]))) rfl ?_
  by_cases hs0 : i0 = (4 : Int32)
  · rw [if_pos hs0] at h
    refine go_sw (f1 := (44, ([(0, .int i0), (1, .int i1), (2, .int i2)], []))) aMi101 rfl (by rw [hs0]; rfl) ?_
    refine go_ops aMi101 4 _ (f1 := (48, ([(0, .int i0), (1, .int i1), (2, .int i2)], [.long ((i1 + i2).toInt64)]))) rfl ?_
    cases h
    exact go_ret aMi101 rfl rfl ⟨rfl, rfl⟩
  rw [if_neg hs0] at h
  by_cases hs1 : i0 = (5 : Int32)
  · rw [if_pos hs1] at h
    refine go_sw (f1 := (81, ([(0, .int i0), (1, .int i1), (2, .int i2)], []))) aMi101 rfl (by rw [hs1]; rfl) ?_
    refine go_le (lv1 := [(1, .int i1), (2, .int i2)]) (aLe_of (show (List.map (fun q => q.1) ([(1, .int i1), (2, .int i2)] : ALv)).Nodup from (by show ([1, 2] : List Nat).Nodup; decide)) (aSubL_cons rfl (aSubL_cons rfl aSubL_nil))) ?_
    exact Tf101_b81 hd i1 i2 I _ h
  rw [if_neg hs1] at h
  by_cases hs2 : i0 = (6 : Int32)
  · rw [if_pos hs2] at h
    refine go_sw (f1 := (49, ([(0, .int i0), (1, .int i1), (2, .int i2)], []))) aMi101 rfl (by rw [hs2]; rfl) ?_
    refine go_ops aMi101 5 _ (f1 := (54, ([(0, .int i0), (1, .int i1), (2, .int i2)], [.long ((i1.toInt64) * (i2.toInt64))]))) rfl ?_
    cases h
    exact go_ret aMi101 rfl rfl ⟨rfl, rfl⟩
  rw [if_neg hs2] at h
  by_cases hs3 : i0 = (7 : Int32)
  · rw [if_pos hs3] at h
    refine go_sw (f1 := (55, ([(0, .int i0), (1, .int i1), (2, .int i2)], []))) aMi101 rfl (by rw [hs3]; rfl) ?_
    refine go_ops aMi101 4 _ (f1 := (59, ([(0, .int i0), (1, .int i1), (2, .int i2)], [.long ((i1 &&& i2).toInt64)]))) rfl ?_
    cases h
    exact go_ret aMi101 rfl rfl ⟨rfl, rfl⟩
  rw [if_neg hs3] at h
  by_cases hs4 : i0 = (8 : Int32)
  · rw [if_pos hs4] at h
    refine go_sw (f1 := (60, ([(0, .int i0), (1, .int i1), (2, .int i2)], []))) aMi101 rfl (by rw [hs4]; rfl) ?_
    refine go_ops aMi101 4 _ (f1 := (64, ([(0, .int i0), (1, .int i1), (2, .int i2)], [.long ((i1 ^^^ i2).toInt64)]))) rfl ?_
    cases h
    exact go_ret aMi101 rfl rfl ⟨rfl, rfl⟩
  rw [if_neg hs4] at h
  by_cases hs5 : i0 = (9 : Int32)
  · rw [if_pos hs5] at h
    refine go_sw (f1 := (65, ([(0, .int i0), (1, .int i1), (2, .int i2)], []))) aMi101 rfl (by rw [hs5]; rfl) ?_
    refine go_ops aMi101 6 _ (f1 := (72, ([(0, .int i0), (1, .int i1), (2, .int i2)], [.long ((i1 <<< ((i2 - i2 / (16 : Int32) * (16 : Int32)) &&& 31)).toInt64)]))) rfl ?_
    cases h
    exact go_ret aMi101 rfl rfl ⟨rfl, rfl⟩
  rw [if_neg hs5] at h
  by_cases hs6 : i0 = (10 : Int32)
  · rw [if_pos hs6] at h
    refine go_sw (f1 := (73, ([(0, .int i0), (1, .int i1), (2, .int i2)], []))) aMi101 rfl (by rw [hs6]; rfl) ?_
    refine go_ops aMi101 6 _ (f1 := (80, ([(0, .int i0), (1, .int i1), (2, .int i2)], [.long ((i1 >>> ((i2 - i2 / (16 : Int32) * (16 : Int32)) &&& 31)).toInt64)]))) rfl ?_
    cases h
    exact go_ret aMi101 rfl rfl ⟨rfl, rfl⟩
  rw [if_neg hs6] at h
  refine go_swd (tg := 81) (m := 7) aMi101 rfl rfl (by decide) (fun k hk => ?_) ?_
  · match k, hk with
    | 0, _ => exact hs0
    | 1, _ => exact hs1
    | 2, _ => exact hs2
    | 3, _ => exact hs3
    | 4, _ => exact hs4
    | 5, _ => exact hs5
    | 6, _ => exact hs6
    | k + 7, hk => exact absurd hk (by omega)
  refine go_le (lv1 := [(1, .int i1), (2, .int i2)]) (aLe_of (show (List.map (fun q => q.1) ([(1, .int i1), (2, .int i2)] : ALv)).Nodup from (by show ([1, 2] : List Nat).Nodup; decide)) (aSubL_cons rfl (aSubL_cons rfl aSubL_nil))) ?_
  exact Tf101_b81 hd i1 i2 I _ h
-- KernelGym$Machine.calculate (III)V
def f100_b103 (kad : Nat → Nat) (N : Nat) (Z : AZ) (a0 : Nat) (I : AI) : Option (Unit × AI) :=
  (f88 kad N Z a0 I).bind fun r104_1 =>
  some ((), r104_1.2)
set_option maxRecDepth 20000 in
theorem Tf100_b103 {kad : Nat → Nat} {N : Nat} {Z : AZ} {d : Nat} {t : Option Nat × (Nat × Nat)} (hd : 1 ≤ d) : ∀ (a0 : Nat) (ha0 : sh8 kad Z a0) (I : AI) (r : Unit × AI), f100_b103 kad N Z a0 I = some r → aGo kad d 100 (103, ([(0, .ref a0)], [])) (aMem Z I, t) (qV Z t r) := by
  intro a0 ha0 I r h
  unfold f100_b103 at h
  refine go_ops aMi100 1 _ (f1 := (104, ([(0, .ref a0)], [.ref a0]))) rfl ?_
  obtain ⟨r104_1, hxr104_1, h⟩ := Option.bind_eq_some_iff.mp h
  refine gg_cv (as := []) (r := []) aMi100 rfl rfl rfl aMi88 (Nat.le_of_ble_eq_true rfl) rfl (Nat.le_of_ble_eq_true rfl) (Nat.le_of_ble_eq_true rfl) (by omega) (isK_of (sh8_z ha0)) (Tf88 (by omega) a0 ha0 I _ hxr104_1) ?_
  show aGo kad d 100 (107, ([(0, .ref a0)], [])) (aMem Z r104_1.2, t) _
  cases h
  exact go_ret aMi100 rfl rfl ⟨rfl, rfl⟩
def f100_b87 (kad : Nat → Nat) (N : Nat) (Z : AZ) (a0 : Nat) (i1 : Int32) (i2 : Int32) (i7 : Int32) (s0 : Int32) (I : AI) : Option (Unit × AI) :=
  (wB I (a0 + 1) 5 s0).bind fun I87_1 =>
  if i1 = (11 : Int32) then
    f100_b103 kad N Z a0 I87_1
  else
    (f99 kad N Z a0 i2 i7 I87_1).bind fun r100_2 =>
    f100_b103 kad N Z a0 r100_2.2
set_option maxRecDepth 20000 in
theorem Tf100_b87 {kad : Nat → Nat} {N : Nat} {Z : AZ} {d : Nat} {t : Option Nat × (Nat × Nat)} (hd : 1 ≤ d) : ∀ (a0 : Nat) (ha0 : sh8 kad Z a0) (i1 : Int32) (i2 : Int32) (i7 : Int32) (s0 : Int32) (I : AI) (r : Unit × AI), f100_b87 kad N Z a0 i1 i2 i7 s0 I = some r → aGo kad d 100 (87, ([(0, .ref a0), (1, .int i1), (2, .int i2), (7, .int i7)], [.int s0, .ref (a0 + 1)])) (aMem Z I, t) (qV Z t r) := by
  intro a0 ha0 i1 i2 i7 s0 I r h
  unfold f100_b87 at h
  obtain ⟨I87_1, hxI87_1, h⟩ := Option.bind_eq_some_iff.mp h
  refine gg_pB aMi100 rfl rfl rfl rfl (by decide) (pB_of (sh2_z (sh8_s0 ha0)) hxI87_1) ?_
  refine go_ops aMi100 2 _ (f1 := (93, ([(0, .ref a0), (1, .int i1), (2, .int i2), (7, .int i7)], [.int (11 : Int32), .int i1]))) rfl ?_
  refine gg_br (b := decide (i1 = (11 : Int32))) (tg := 103) (off := 10) aMi100 rfl rfl rfl rfl (fun hb => ?_) (fun hb => ?_)
  · rw [if_pos (of_decide_eq_true hb)] at h
    refine go_le (lv1 := [(0, .ref a0)]) (aLe_of (show (List.map (fun q => q.1) ([(0, .ref a0)] : ALv)).Nodup from (by show ([0] : List Nat).Nodup; decide)) (aSubL_cons rfl aSubL_nil)) ?_
    exact Tf100_b103 hd a0 ha0 I87_1 _ h
  · rw [if_neg (of_decide_eq_false hb)] at h
    refine go_ops aMi100 3 _ (f1 := (100, ([(0, .ref a0), (1, .int i1), (2, .int i2), (7, .int i7)], [.int i7, .int i2, .ref a0]))) rfl ?_
    obtain ⟨r100_2, hxr100_2, h⟩ := Option.bind_eq_some_iff.mp h
    refine gg_cv (as := [.int i2, .int i7]) (r := []) aMi100 rfl rfl rfl aMi99 (Nat.le_of_ble_eq_true rfl) rfl (Nat.le_of_ble_eq_true rfl) (Nat.le_of_ble_eq_true rfl) (by omega) (isK_of (sh8_z ha0)) (Tf99 (by omega) a0 ha0 i2 i7 I87_1 _ hxr100_2) ?_
    show aGo kad d 100 (103, ([(0, .ref a0), (1, .int i1), (2, .int i2), (7, .int i7)], [])) (aMem Z r100_2.2, t) _
    refine go_le (lv1 := [(0, .ref a0)]) (aLe_of (show (List.map (fun q => q.1) ([(0, .ref a0)] : ALv)).Nodup from (by show ([0] : List Nat).Nodup; decide)) (aSubL_cons rfl aSubL_nil)) ?_
    exact Tf100_b103 hd a0 ha0 r100_2.2 _ h
def f100_b70 (kad : Nat → Nat) (N : Nat) (Z : AZ) (a0 : Nat) (i1 : Int32) (i2 : Int32) (i7 : Int32) (s0 : Int32) (I : AI) : Option (Unit × AI) :=
  (wB I (a0 + 1) 6 s0).bind fun I70_1 =>
  if ¬ i7 = 0 then
    f100_b87 kad N Z a0 i1 i2 i7 (0 : Int32) I70_1
  else
    f100_b87 kad N Z a0 i1 i2 i7 (1 : Int32) I70_1
set_option maxRecDepth 20000 in
theorem Tf100_b70 {kad : Nat → Nat} {N : Nat} {Z : AZ} {d : Nat} {t : Option Nat × (Nat × Nat)} (hd : 1 ≤ d) : ∀ (a0 : Nat) (ha0 : sh8 kad Z a0) (i1 : Int32) (i2 : Int32) (i7 : Int32) (s0 : Int32) (I : AI) (r : Unit × AI), f100_b70 kad N Z a0 i1 i2 i7 s0 I = some r → aGo kad d 100 (70, ([(0, .ref a0), (1, .int i1), (2, .int i2), (7, .int i7)], [.int s0, .ref (a0 + 1)])) (aMem Z I, t) (qV Z t r) := by
  intro a0 ha0 i1 i2 i7 s0 I r h
  unfold f100_b70 at h
  obtain ⟨I70_1, hxI70_1, h⟩ := Option.bind_eq_some_iff.mp h
  refine gg_pB aMi100 rfl rfl rfl rfl (by decide) (pB_of (sh2_z (sh8_s0 ha0)) hxI70_1) ?_
  refine go_ops aMi100 1 _ (f1 := (74, ([(0, .ref a0), (1, .int i1), (2, .int i2), (7, .int i7)], [.ref a0]))) rfl ?_
  refine gg_gR (b := (a0 + 1)) aMi100 rfl rfl rfl (gR_of (sh8_z ha0) (sh8_r0 ha0)) ?_
  refine go_ops aMi100 1 _ (f1 := (79, ([(0, .ref a0), (1, .int i1), (2, .int i2), (7, .int i7)], [.int i7, .ref (a0 + 1)]))) rfl ?_
  refine gg_br (b := decide (¬ i7 = 0)) (tg := 86) (off := 7) aMi100 rfl rfl rfl rfl (fun hb => ?_) (fun hb => ?_)
  · rw [if_pos (of_decide_eq_true hb)] at h
    refine go_ops aMi100 1 _ (f1 := (87, ([(0, .ref a0), (1, .int i1), (2, .int i2), (7, .int i7)], [.int (0 : Int32), .ref (a0 + 1)]))) rfl ?_
    exact Tf100_b87 hd a0 ha0 i1 i2 i7 (0 : Int32) I70_1 _ h
  · rw [if_neg (of_decide_eq_false hb)] at h
    refine go_ops aMi100 2 _ (f1 := (87, ([(0, .ref a0), (1, .int i1), (2, .int i2), (7, .int i7)], [.int (1 : Int32), .ref (a0 + 1)]))) rfl ?_
    exact Tf100_b87 hd a0 ha0 i1 i2 i7 (1 : Int32) I70_1 _ h
def f100_b65 (kad : Nat → Nat) (N : Nat) (Z : AZ) (a0 : Nat) (i1 : Int32) (i2 : Int32) (i7 : Int32) (I : AI) : Option (Unit × AI) :=
  f100_b70 kad N Z a0 i1 i2 i7 (1 : Int32) I
set_option maxRecDepth 20000 in
theorem Tf100_b65 {kad : Nat → Nat} {N : Nat} {Z : AZ} {d : Nat} {t : Option Nat × (Nat × Nat)} (hd : 1 ≤ d) : ∀ (a0 : Nat) (ha0 : sh8 kad Z a0) (i1 : Int32) (i2 : Int32) (i7 : Int32) (I : AI) (r : Unit × AI), f100_b65 kad N Z a0 i1 i2 i7 I = some r → aGo kad d 100 (65, ([(0, .ref a0), (1, .int i1), (2, .int i2), (7, .int i7)], [.ref (a0 + 1)])) (aMem Z I, t) (qV Z t r) := by
  intro a0 ha0 i1 i2 i7 I r h
  unfold f100_b65 at h
  refine go_ops aMi100 2 _ (f1 := (70, ([(0, .ref a0), (1, .int i1), (2, .int i2), (7, .int i7)], [.int (1 : Int32), .ref (a0 + 1)]))) rfl ?_
  exact Tf100_b70 hd a0 ha0 i1 i2 i7 (1 : Int32) I _ h
def f100_b69 (kad : Nat → Nat) (N : Nat) (Z : AZ) (a0 : Nat) (i1 : Int32) (i2 : Int32) (i7 : Int32) (I : AI) : Option (Unit × AI) :=
  f100_b70 kad N Z a0 i1 i2 i7 (0 : Int32) I
set_option maxRecDepth 20000 in
theorem Tf100_b69 {kad : Nat → Nat} {N : Nat} {Z : AZ} {d : Nat} {t : Option Nat × (Nat × Nat)} (hd : 1 ≤ d) : ∀ (a0 : Nat) (ha0 : sh8 kad Z a0) (i1 : Int32) (i2 : Int32) (i7 : Int32) (I : AI) (r : Unit × AI), f100_b69 kad N Z a0 i1 i2 i7 I = some r → aGo kad d 100 (69, ([(0, .ref a0), (1, .int i1), (2, .int i2), (7, .int i7)], [.ref (a0 + 1)])) (aMem Z I, t) (qV Z t r) := by
  intro a0 ha0 i1 i2 i7 I r h
  unfold f100_b69 at h
  refine go_ops aMi100 1 _ (f1 := (70, ([(0, .ref a0), (1, .int i1), (2, .int i2), (7, .int i7)], [.int (0 : Int32), .ref (a0 + 1)]))) rfl ?_
  exact Tf100_b70 hd a0 ha0 i1 i2 i7 (0 : Int32) I _ h
def f100_b29 (kad : Nat → Nat) (N : Nat) (Z : AZ) (a0 : Nat) (i1 : Int32) (i2 : Int32) (l4 : Int64) (s0 : Int32) (I : AI) : Option (Unit × AI) :=
  if ¬ s0 = 0 then
    f100_b69 kad N Z a0 i1 i2 ((l4 &&& (65535 : Int64)).toInt32) I
  else
    if (lg_cmp l4 (0 : Int64)) < 0 then
      f100_b65 kad N Z a0 i1 i2 ((l4 &&& (65535 : Int64)).toInt32) I
    else
      if (lg_cmp l4 (65535 : Int64)) ≤ 0 then
        f100_b69 kad N Z a0 i1 i2 ((l4 &&& (65535 : Int64)).toInt32) I
      else
        f100_b65 kad N Z a0 i1 i2 ((l4 &&& (65535 : Int64)).toInt32) I
set_option maxRecDepth 20000 in
theorem Tf100_b29 {kad : Nat → Nat} {N : Nat} {Z : AZ} {d : Nat} {t : Option Nat × (Nat × Nat)} (hd : 1 ≤ d) : ∀ (a0 : Nat) (ha0 : sh8 kad Z a0) (i1 : Int32) (i2 : Int32) (l4 : Int64) (s0 : Int32) (I : AI) (r : Unit × AI), f100_b29 kad N Z a0 i1 i2 l4 s0 I = some r → aGo kad d 100 (29, ([(0, .ref a0), (1, .int i1), (2, .int i2), (4, .long l4)], [.int s0])) (aMem Z I, t) (qV Z t r) := by
  intro a0 ha0 i1 i2 l4 s0 I r h
  unfold f100_b29 at h
  refine go_ops aMi100 2 _ (f1 := (33, ([(6, .int s0), (0, .ref a0), (1, .int i1), (2, .int i2), (4, .long l4)], [.long l4]))) rfl ?_
  refine gg_kL aMi100 rfl rfl ?_
  refine go_ops aMi100 4 _ (f1 := (41, ([(7, .int ((l4 &&& (65535 : Int64)).toInt32)), (6, .int s0), (0, .ref a0), (1, .int i1), (2, .int i2), (4, .long l4)], [.ref a0]))) rfl ?_
  refine gg_gR (b := (a0 + 1)) aMi100 rfl rfl rfl (gR_of (sh8_z ha0) (sh8_r0 ha0)) ?_
  refine go_ops aMi100 1 _ (f1 := (46, ([(7, .int ((l4 &&& (65535 : Int64)).toInt32)), (6, .int s0), (0, .ref a0), (1, .int i1), (2, .int i2), (4, .long l4)], [.int s0, .ref (a0 + 1)]))) rfl ?_
  refine gg_br (b := decide (¬ s0 = 0)) (tg := 69) (off := 23) aMi100 rfl rfl rfl rfl (fun hb => ?_) (fun hb => ?_)
  · rw [if_pos (of_decide_eq_true hb)] at h
    refine go_le (lv1 := [(0, .ref a0), (1, .int i1), (2, .int i2), (7, .int ((l4 &&& (65535 : Int64)).toInt32))]) (aLe_of (show (List.map (fun q => q.1) ([(0, .ref a0), (1, .int i1), (2, .int i2), (7, .int ((l4 &&& (65535 : Int64)).toInt32))] : ALv)).Nodup from (by show ([0, 1, 2, 7] : List Nat).Nodup; decide)) (aSubL_cons rfl (aSubL_cons rfl (aSubL_cons rfl (aSubL_cons rfl aSubL_nil))))) ?_
    exact Tf100_b69 hd a0 ha0 i1 i2 ((l4 &&& (65535 : Int64)).toInt32) I _ h
  · rw [if_neg (of_decide_eq_false hb)] at h
    refine go_ops aMi100 3 _ (f1 := (53, ([(7, .int ((l4 &&& (65535 : Int64)).toInt32)), (6, .int s0), (0, .ref a0), (1, .int i1), (2, .int i2), (4, .long l4)], [.int (lg_cmp l4 (0 : Int64)), .ref (a0 + 1)]))) rfl ?_
    refine gg_br (b := decide ((lg_cmp l4 (0 : Int64)) < 0)) (tg := 65) (off := 12) aMi100 rfl rfl rfl rfl (fun hb => ?_) (fun hb => ?_)
    · rw [if_pos (of_decide_eq_true hb)] at h
      refine go_le (lv1 := [(0, .ref a0), (1, .int i1), (2, .int i2), (7, .int ((l4 &&& (65535 : Int64)).toInt32))]) (aLe_of (show (List.map (fun q => q.1) ([(0, .ref a0), (1, .int i1), (2, .int i2), (7, .int ((l4 &&& (65535 : Int64)).toInt32))] : ALv)).Nodup from (by show ([0, 1, 2, 7] : List Nat).Nodup; decide)) (aSubL_cons rfl (aSubL_cons rfl (aSubL_cons rfl (aSubL_cons rfl aSubL_nil))))) ?_
      exact Tf100_b65 hd a0 ha0 i1 i2 ((l4 &&& (65535 : Int64)).toInt32) I _ h
    · rw [if_neg (of_decide_eq_false hb)] at h
      refine go_ops aMi100 1 _ (f1 := (58, ([(7, .int ((l4 &&& (65535 : Int64)).toInt32)), (6, .int s0), (0, .ref a0), (1, .int i1), (2, .int i2), (4, .long l4)], [.long l4, .ref (a0 + 1)]))) rfl ?_
      refine gg_kL aMi100 rfl rfl ?_
      refine go_ops aMi100 1 _ (f1 := (62, ([(7, .int ((l4 &&& (65535 : Int64)).toInt32)), (6, .int s0), (0, .ref a0), (1, .int i1), (2, .int i2), (4, .long l4)], [.int (lg_cmp l4 (65535 : Int64)), .ref (a0 + 1)]))) rfl ?_
      refine gg_br (b := decide ((lg_cmp l4 (65535 : Int64)) ≤ 0)) (tg := 69) (off := 7) aMi100 rfl rfl rfl rfl (fun hb => ?_) (fun hb => ?_)
      · rw [if_pos (of_decide_eq_true hb)] at h
        refine go_le (lv1 := [(0, .ref a0), (1, .int i1), (2, .int i2), (7, .int ((l4 &&& (65535 : Int64)).toInt32))]) (aLe_of (show (List.map (fun q => q.1) ([(0, .ref a0), (1, .int i1), (2, .int i2), (7, .int ((l4 &&& (65535 : Int64)).toInt32))] : ALv)).Nodup from (by show ([0, 1, 2, 7] : List Nat).Nodup; decide)) (aSubL_cons rfl (aSubL_cons rfl (aSubL_cons rfl (aSubL_cons rfl aSubL_nil))))) ?_
        exact Tf100_b69 hd a0 ha0 i1 i2 ((l4 &&& (65535 : Int64)).toInt32) I _ h
      · rw [if_neg (of_decide_eq_false hb)] at h
        refine go_le (lv1 := [(0, .ref a0), (1, .int i1), (2, .int i2), (7, .int ((l4 &&& (65535 : Int64)).toInt32))]) (aLe_of (show (List.map (fun q => q.1) ([(0, .ref a0), (1, .int i1), (2, .int i2), (7, .int ((l4 &&& (65535 : Int64)).toInt32))] : ALv)).Nodup from (by show ([0, 1, 2, 7] : List Nat).Nodup; decide)) (aSubL_cons rfl (aSubL_cons rfl (aSubL_cons rfl (aSubL_cons rfl aSubL_nil))))) ?_
        exact Tf100_b65 hd a0 ha0 i1 i2 ((l4 &&& (65535 : Int64)).toInt32) I _ h
def f100_b28 (kad : Nat → Nat) (N : Nat) (Z : AZ) (a0 : Nat) (i1 : Int32) (i2 : Int32) (l4 : Int64) (I : AI) : Option (Unit × AI) :=
  f100_b29 kad N Z a0 i1 i2 l4 (0 : Int32) I
set_option maxRecDepth 20000 in
theorem Tf100_b28 {kad : Nat → Nat} {N : Nat} {Z : AZ} {d : Nat} {t : Option Nat × (Nat × Nat)} (hd : 1 ≤ d) : ∀ (a0 : Nat) (ha0 : sh8 kad Z a0) (i1 : Int32) (i2 : Int32) (l4 : Int64) (I : AI) (r : Unit × AI), f100_b28 kad N Z a0 i1 i2 l4 I = some r → aGo kad d 100 (28, ([(0, .ref a0), (1, .int i1), (2, .int i2), (4, .long l4)], [])) (aMem Z I, t) (qV Z t r) := by
  intro a0 ha0 i1 i2 l4 I r h
  unfold f100_b28 at h
  refine go_ops aMi100 1 _ (f1 := (29, ([(0, .ref a0), (1, .int i1), (2, .int i2), (4, .long l4)], [.int (0 : Int32)]))) rfl ?_
  exact Tf100_b29 hd a0 ha0 i1 i2 l4 (0 : Int32) I _ h
def f100 (kad : Nat → Nat) (N : Nat) (Z : AZ) (a0 : Nat) (i1 : Int32) (i2 : Int32) (i3 : Int32) (I : AI) : Option (Unit × AI) :=
  (f98 kad N Z a0 i2 I).bind fun r3_1 =>
  (f101 kad N Z i1 r3_1.1 i3 r3_1.2).bind fun r7_2 =>
  if i1 < (7 : Int32) then
    f100_b28 kad N Z a0 i1 i2 r7_2.1 r7_2.2
  else
    if (10 : Int32) < i1 then
      f100_b28 kad N Z a0 i1 i2 r7_2.1 r7_2.2
    else
      f100_b29 kad N Z a0 i1 i2 r7_2.1 (1 : Int32) r7_2.2
set_option maxRecDepth 20000 in
theorem Tf100 {kad : Nat → Nat} {N : Nat} {Z : AZ} {d : Nat} {t : Option Nat × (Nat × Nat)} (hd : 1 ≤ d) : ∀ (a0 : Nat) (ha0 : sh8 kad Z a0) (i1 : Int32) (i2 : Int32) (i3 : Int32) (I : AI) (r : Unit × AI), f100 kad N Z a0 i1 i2 i3 I = some r → aGo kad d 100 (0, ([(0, .ref a0), (1, .int i1), (2, .int i2), (3, .int i3)], [])) (aMem Z I, t) (qV Z t r) := by
  intro a0 ha0 i1 i2 i3 I r h
  unfold f100 at h
  refine go_ops aMi100 3 _ (f1 := (3, ([(0, .ref a0), (1, .int i1), (2, .int i2), (3, .int i3)], [.int i2, .ref a0, .int i1]))) rfl ?_
  obtain ⟨r3_1, hxr3_1, h⟩ := Option.bind_eq_some_iff.mp h
  refine gg_cv (as := [.int i2]) (r := [.int i1]) aMi100 rfl rfl rfl aMi98 (Nat.le_of_ble_eq_true rfl) rfl (Nat.le_of_ble_eq_true rfl) (Nat.le_of_ble_eq_true rfl) (by omega) (isK_of (sh8_z ha0)) (Tf98 (by omega) a0 ha0 i2 I _ hxr3_1) ?_
  show aGo kad d 100 (6, ([(0, .ref a0), (1, .int i1), (2, .int i2), (3, .int i3)], [.int r3_1.1, .int i1])) (aMem Z r3_1.2, t) _
  refine go_ops aMi100 1 _ (f1 := (7, ([(0, .ref a0), (1, .int i1), (2, .int i2), (3, .int i3)], [.int i3, .int r3_1.1, .int i1]))) rfl ?_
  obtain ⟨r7_2, hxr7_2, h⟩ := Option.bind_eq_some_iff.mp h
  refine gg_cs (as := [.int i1, .int r3_1.1, .int i3]) (r := []) aMi100 rfl rfl rfl aMi101 rfl (Nat.le_of_ble_eq_true rfl) (Nat.le_of_ble_eq_true rfl) (by omega) (Tf101 (by omega) i1 r3_1.1 i3 r3_1.2 _ hxr7_2) ?_
  show aGo kad d 100 (10, ([(0, .ref a0), (1, .int i1), (2, .int i2), (3, .int i3)], [.long r7_2.1])) (aMem Z r7_2.2, t) _
  refine go_ops aMi100 3 _ (f1 := (15, ([(4, .long r7_2.1), (0, .ref a0), (1, .int i1), (2, .int i2), (3, .int i3)], [.int (7 : Int32), .int i1]))) rfl ?_
  refine gg_br (b := decide (i1 < (7 : Int32))) (tg := 28) (off := 13) aMi100 rfl rfl rfl rfl (fun hb => ?_) (fun hb => ?_)
  · rw [if_pos (of_decide_eq_true hb)] at h
    refine go_le (lv1 := [(0, .ref a0), (1, .int i1), (2, .int i2), (4, .long r7_2.1)]) (aLe_of (show (List.map (fun q => q.1) ([(0, .ref a0), (1, .int i1), (2, .int i2), (4, .long r7_2.1)] : ALv)).Nodup from (by show ([0, 1, 2, 4] : List Nat).Nodup; decide)) (aSubL_cons rfl (aSubL_cons rfl (aSubL_cons rfl (aSubL_cons rfl aSubL_nil))))) ?_
    exact Tf100_b28 hd a0 ha0 i1 i2 r7_2.1 r7_2.2 _ h
  · rw [if_neg (of_decide_eq_false hb)] at h
    refine go_ops aMi100 2 _ (f1 := (21, ([(4, .long r7_2.1), (0, .ref a0), (1, .int i1), (2, .int i2), (3, .int i3)], [.int (10 : Int32), .int i1]))) rfl ?_
    refine gg_br (b := decide ((10 : Int32) < i1)) (tg := 28) (off := 7) aMi100 rfl rfl rfl rfl (fun hb => ?_) (fun hb => ?_)
    · rw [if_pos (of_decide_eq_true hb)] at h
      refine go_le (lv1 := [(0, .ref a0), (1, .int i1), (2, .int i2), (4, .long r7_2.1)]) (aLe_of (show (List.map (fun q => q.1) ([(0, .ref a0), (1, .int i1), (2, .int i2), (4, .long r7_2.1)] : ALv)).Nodup from (by show ([0, 1, 2, 4] : List Nat).Nodup; decide)) (aSubL_cons rfl (aSubL_cons rfl (aSubL_cons rfl (aSubL_cons rfl aSubL_nil))))) ?_
      exact Tf100_b28 hd a0 ha0 i1 i2 r7_2.1 r7_2.2 _ h
    · rw [if_neg (of_decide_eq_false hb)] at h
      refine go_ops aMi100 2 _ (f1 := (29, ([(4, .long r7_2.1), (0, .ref a0), (1, .int i1), (2, .int i2), (3, .int i3)], [.int (1 : Int32)]))) rfl ?_
      refine go_le (lv1 := [(0, .ref a0), (1, .int i1), (2, .int i2), (4, .long r7_2.1)]) (aLe_of (show (List.map (fun q => q.1) ([(0, .ref a0), (1, .int i1), (2, .int i2), (4, .long r7_2.1)] : ALv)).Nodup from (by show ([0, 1, 2, 4] : List Nat).Nodup; decide)) (aSubL_cons rfl (aSubL_cons rfl (aSubL_cons rfl (aSubL_cons rfl aSubL_nil))))) ?_
      exact Tf100_b29 hd a0 ha0 i1 i2 r7_2.1 (1 : Int32) r7_2.2 _ h
-- KernelGym$Machine.move (III)V
def f97_b84 (kad : Nat → Nat) (N : Nat) (Z : AZ) (a0 : Nat) (I : AI) : Option (Unit × AI) :=
  some ((), I)
set_option maxRecDepth 20000 in
theorem Tf97_b84 {kad : Nat → Nat} {N : Nat} {Z : AZ} {d : Nat} {t : Option Nat × (Nat × Nat)} (hd : 2 ≤ d) : ∀ (a0 : Nat) (ha0 : sh8 kad Z a0) (I : AI) (r : Unit × AI), f97_b84 kad N Z a0 I = some r → aGo kad d 97 (84, ([], [])) (aMem Z I, t) (qV Z t r) := by
  intro a0 ha0 I r h
  unfold f97_b84 at h
  cases h
  exact go_ret aMi97 rfl rfl ⟨rfl, rfl⟩
def f97 (kad : Nat → Nat) (N : Nat) (Z : AZ) (a0 : Nat) (i1 : Int32) (i2 : Int32) (i3 : Int32) (I : AI) : Option (Unit × AI) :=
  if ¬ i1 = 0 then
    if ¬ i1 = (1 : Int32) then
      if i3 < (256 : Int32) then
        if ¬ i1 = (2 : Int32) then
          (f98 kad N Z a0 i2 I).bind fun r74_1 =>
          (f90 kad N Z a0 i3 r74_1.1 r74_1.2).bind fun r77_2 =>
          (f88 kad N Z a0 r77_2.2).bind fun r81_3 =>
          f97_b84 kad N Z a0 r81_3.2
        else
          (f89 kad N Z a0 i3 I).bind fun r57_4 =>
          (f99 kad N Z a0 i2 r57_4.1 r57_4.2).bind fun r60_5 =>
          (f88 kad N Z a0 r60_5.2).bind fun r64_6 =>
          f97_b84 kad N Z a0 r64_6.2
      else
        (f87 kad N Z a0 (1 : Int32) I).bind fun r42_7 =>
        f97_b84 kad N Z a0 r42_7.2
    else
      (f99 kad N Z a0 i2 i3 I).bind fun r23_8 =>
      (f88 kad N Z a0 r23_8.2).bind fun r27_9 =>
      f97_b84 kad N Z a0 r27_9.2
  else
    (wI I (a0 + 1) 0 (2 : Int32)).bind fun I9_10 =>
    f97_b84 kad N Z a0 I9_10
set_option maxRecDepth 20000 in
theorem Tf97 {kad : Nat → Nat} {N : Nat} {Z : AZ} {d : Nat} {t : Option Nat × (Nat × Nat)} (hd : 2 ≤ d) : ∀ (a0 : Nat) (ha0 : sh8 kad Z a0) (i1 : Int32) (i2 : Int32) (i3 : Int32) (I : AI) (r : Unit × AI), f97 kad N Z a0 i1 i2 i3 I = some r → aGo kad d 97 (0, ([(0, .ref a0), (1, .int i1), (2, .int i2), (3, .int i3)], [])) (aMem Z I, t) (qV Z t r) := by
  intro a0 ha0 i1 i2 i3 I r h
  unfold f97 at h
  refine go_ops aMi97 1 _ (f1 := (1, ([(0, .ref a0), (1, .int i1), (2, .int i2), (3, .int i3)], [.int i1]))) rfl ?_
  refine gg_br (b := decide (¬ i1 = 0)) (tg := 15) (off := 14) aMi97 rfl rfl rfl rfl (fun hb => ?_) (fun hb => ?_)
  · rw [if_pos (of_decide_eq_true hb)] at h
    refine go_ops aMi97 2 _ (f1 := (17, ([(0, .ref a0), (1, .int i1), (2, .int i2), (3, .int i3)], [.int (1 : Int32), .int i1]))) rfl ?_
    refine gg_br (b := decide (¬ i1 = (1 : Int32))) (tg := 33) (off := 16) aMi97 rfl rfl rfl rfl (fun hb => ?_) (fun hb => ?_)
    · rw [if_pos (of_decide_eq_true hb)] at h
      refine go_ops aMi97 2 _ (f1 := (37, ([(0, .ref a0), (1, .int i1), (2, .int i2), (3, .int i3)], [.int (256 : Int32), .int i3]))) rfl ?_
      refine gg_br (b := decide (i3 < (256 : Int32))) (tg := 48) (off := 11) aMi97 rfl rfl rfl rfl (fun hb => ?_) (fun hb => ?_)
      · rw [if_pos (of_decide_eq_true hb)] at h
        refine go_ops aMi97 2 _ (f1 := (50, ([(0, .ref a0), (1, .int i1), (2, .int i2), (3, .int i3)], [.int (2 : Int32), .int i1]))) rfl ?_
        refine gg_br (b := decide (¬ i1 = (2 : Int32))) (tg := 70) (off := 20) aMi97 rfl rfl rfl rfl (fun hb => ?_) (fun hb => ?_)
        · rw [if_pos (of_decide_eq_true hb)] at h
          refine go_ops aMi97 4 _ (f1 := (74, ([(0, .ref a0), (1, .int i1), (2, .int i2), (3, .int i3)], [.int i2, .ref a0, .int i3, .ref a0]))) rfl ?_
          obtain ⟨r74_1, hxr74_1, h⟩ := Option.bind_eq_some_iff.mp h
          refine gg_cv (as := [.int i2]) (r := [.int i3, .ref a0]) aMi97 rfl rfl rfl aMi98 (Nat.le_of_ble_eq_true rfl) rfl (Nat.le_of_ble_eq_true rfl) (Nat.le_of_ble_eq_true rfl) (by omega) (isK_of (sh8_z ha0)) (Tf98 (by omega) a0 ha0 i2 I _ hxr74_1) ?_
          show aGo kad d 97 (77, ([(0, .ref a0), (1, .int i1), (2, .int i2), (3, .int i3)], [.int r74_1.1, .int i3, .ref a0])) (aMem Z r74_1.2, t) _
          obtain ⟨r77_2, hxr77_2, h⟩ := Option.bind_eq_some_iff.mp h
          refine gg_cv (as := [.int i3, .int r74_1.1]) (r := []) aMi97 rfl rfl rfl aMi90 (Nat.le_of_ble_eq_true rfl) rfl (Nat.le_of_ble_eq_true rfl) (Nat.le_of_ble_eq_true rfl) (by omega) (isK_of (sh8_z ha0)) (Tf90 (by omega) a0 ha0 i3 r74_1.1 r74_1.2 _ hxr77_2) ?_
          show aGo kad d 97 (80, ([(0, .ref a0), (1, .int i1), (2, .int i2), (3, .int i3)], [])) (aMem Z r77_2.2, t) _
          refine go_ops aMi97 1 _ (f1 := (81, ([(0, .ref a0), (1, .int i1), (2, .int i2), (3, .int i3)], [.ref a0]))) rfl ?_
          obtain ⟨r81_3, hxr81_3, h⟩ := Option.bind_eq_some_iff.mp h
          refine gg_cv (as := []) (r := []) aMi97 rfl rfl rfl aMi88 (Nat.le_of_ble_eq_true rfl) rfl (Nat.le_of_ble_eq_true rfl) (Nat.le_of_ble_eq_true rfl) (by omega) (isK_of (sh8_z ha0)) (Tf88 (by omega) a0 ha0 r77_2.2 _ hxr81_3) ?_
          show aGo kad d 97 (84, ([(0, .ref a0), (1, .int i1), (2, .int i2), (3, .int i3)], [])) (aMem Z r81_3.2, t) _
          refine go_le (lv1 := []) (aLe_of (show (List.map (fun q => q.1) ([] : ALv)).Nodup from (by show ([] : List Nat).Nodup; decide)) aSubL_nil) ?_
          exact Tf97_b84 hd a0 ha0 r81_3.2 _ h
        · rw [if_neg (of_decide_eq_false hb)] at h
          refine go_ops aMi97 4 _ (f1 := (57, ([(0, .ref a0), (1, .int i1), (2, .int i2), (3, .int i3)], [.int i3, .ref a0, .int i2, .ref a0]))) rfl ?_
          obtain ⟨r57_4, hxr57_4, h⟩ := Option.bind_eq_some_iff.mp h
          refine gg_cv (as := [.int i3]) (r := [.int i2, .ref a0]) aMi97 rfl rfl rfl aMi89 (Nat.le_of_ble_eq_true rfl) rfl (Nat.le_of_ble_eq_true rfl) (Nat.le_of_ble_eq_true rfl) (by omega) (isK_of (sh8_z ha0)) (Tf89 (by omega) a0 ha0 i3 I _ hxr57_4) ?_
          show aGo kad d 97 (60, ([(0, .ref a0), (1, .int i1), (2, .int i2), (3, .int i3)], [.int r57_4.1, .int i2, .ref a0])) (aMem Z r57_4.2, t) _
          obtain ⟨r60_5, hxr60_5, h⟩ := Option.bind_eq_some_iff.mp h
          refine gg_cv (as := [.int i2, .int r57_4.1]) (r := []) aMi97 rfl rfl rfl aMi99 (Nat.le_of_ble_eq_true rfl) rfl (Nat.le_of_ble_eq_true rfl) (Nat.le_of_ble_eq_true rfl) (by omega) (isK_of (sh8_z ha0)) (Tf99 (by omega) a0 ha0 i2 r57_4.1 r57_4.2 _ hxr60_5) ?_
          show aGo kad d 97 (63, ([(0, .ref a0), (1, .int i1), (2, .int i2), (3, .int i3)], [])) (aMem Z r60_5.2, t) _
          refine go_ops aMi97 1 _ (f1 := (64, ([(0, .ref a0), (1, .int i1), (2, .int i2), (3, .int i3)], [.ref a0]))) rfl ?_
          obtain ⟨r64_6, hxr64_6, h⟩ := Option.bind_eq_some_iff.mp h
          refine gg_cv (as := []) (r := []) aMi97 rfl rfl rfl aMi88 (Nat.le_of_ble_eq_true rfl) rfl (Nat.le_of_ble_eq_true rfl) (Nat.le_of_ble_eq_true rfl) (by omega) (isK_of (sh8_z ha0)) (Tf88 (by omega) a0 ha0 r60_5.2 _ hxr64_6) ?_
          show aGo kad d 97 (67, ([(0, .ref a0), (1, .int i1), (2, .int i2), (3, .int i3)], [])) (aMem Z r64_6.2, t) _
          refine go_ops aMi97 1 _ (f1 := (84, ([(0, .ref a0), (1, .int i1), (2, .int i2), (3, .int i3)], []))) rfl ?_
          refine go_le (lv1 := []) (aLe_of (show (List.map (fun q => q.1) ([] : ALv)).Nodup from (by show ([] : List Nat).Nodup; decide)) aSubL_nil) ?_
          exact Tf97_b84 hd a0 ha0 r64_6.2 _ h
      · rw [if_neg (of_decide_eq_false hb)] at h
        refine go_ops aMi97 2 _ (f1 := (42, ([(0, .ref a0), (1, .int i1), (2, .int i2), (3, .int i3)], [.int (1 : Int32), .ref a0]))) rfl ?_
        obtain ⟨r42_7, hxr42_7, h⟩ := Option.bind_eq_some_iff.mp h
        refine gg_cv (as := [.int (1 : Int32)]) (r := []) aMi97 rfl rfl rfl aMi87 (Nat.le_of_ble_eq_true rfl) rfl (Nat.le_of_ble_eq_true rfl) (Nat.le_of_ble_eq_true rfl) (by omega) (isK_of (sh8_z ha0)) (Tf87 (by omega) a0 ha0 (1 : Int32) I _ hxr42_7) ?_
        show aGo kad d 97 (45, ([(0, .ref a0), (1, .int i1), (2, .int i2), (3, .int i3)], [])) (aMem Z r42_7.2, t) _
        refine go_ops aMi97 1 _ (f1 := (84, ([(0, .ref a0), (1, .int i1), (2, .int i2), (3, .int i3)], []))) rfl ?_
        refine go_le (lv1 := []) (aLe_of (show (List.map (fun q => q.1) ([] : ALv)).Nodup from (by show ([] : List Nat).Nodup; decide)) aSubL_nil) ?_
        exact Tf97_b84 hd a0 ha0 r42_7.2 _ h
    · rw [if_neg (of_decide_eq_false hb)] at h
      refine go_ops aMi97 3 _ (f1 := (23, ([(0, .ref a0), (1, .int i1), (2, .int i2), (3, .int i3)], [.int i3, .int i2, .ref a0]))) rfl ?_
      obtain ⟨r23_8, hxr23_8, h⟩ := Option.bind_eq_some_iff.mp h
      refine gg_cv (as := [.int i2, .int i3]) (r := []) aMi97 rfl rfl rfl aMi99 (Nat.le_of_ble_eq_true rfl) rfl (Nat.le_of_ble_eq_true rfl) (Nat.le_of_ble_eq_true rfl) (by omega) (isK_of (sh8_z ha0)) (Tf99 (by omega) a0 ha0 i2 i3 I _ hxr23_8) ?_
      show aGo kad d 97 (26, ([(0, .ref a0), (1, .int i1), (2, .int i2), (3, .int i3)], [])) (aMem Z r23_8.2, t) _
      refine go_ops aMi97 1 _ (f1 := (27, ([(0, .ref a0), (1, .int i1), (2, .int i2), (3, .int i3)], [.ref a0]))) rfl ?_
      obtain ⟨r27_9, hxr27_9, h⟩ := Option.bind_eq_some_iff.mp h
      refine gg_cv (as := []) (r := []) aMi97 rfl rfl rfl aMi88 (Nat.le_of_ble_eq_true rfl) rfl (Nat.le_of_ble_eq_true rfl) (Nat.le_of_ble_eq_true rfl) (by omega) (isK_of (sh8_z ha0)) (Tf88 (by omega) a0 ha0 r23_8.2 _ hxr27_9) ?_
      show aGo kad d 97 (30, ([(0, .ref a0), (1, .int i1), (2, .int i2), (3, .int i3)], [])) (aMem Z r27_9.2, t) _
      refine go_ops aMi97 1 _ (f1 := (84, ([(0, .ref a0), (1, .int i1), (2, .int i2), (3, .int i3)], []))) rfl ?_
      refine go_le (lv1 := []) (aLe_of (show (List.map (fun q => q.1) ([] : ALv)).Nodup from (by show ([] : List Nat).Nodup; decide)) aSubL_nil) ?_
      exact Tf97_b84 hd a0 ha0 r27_9.2 _ h
  · rw [if_neg (of_decide_eq_false hb)] at h
    refine go_ops aMi97 1 _ (f1 := (5, ([(0, .ref a0), (1, .int i1), (2, .int i2), (3, .int i3)], [.ref a0]))) rfl ?_
    refine gg_gR (b := (a0 + 1)) aMi97 rfl rfl rfl (gR_of (sh8_z ha0) (sh8_r0 ha0)) ?_
    refine go_ops aMi97 1 _ (f1 := (9, ([(0, .ref a0), (1, .int i1), (2, .int i2), (3, .int i3)], [.int (2 : Int32), .ref (a0 + 1)]))) rfl ?_
    obtain ⟨I9_10, hxI9_10, h⟩ := Option.bind_eq_some_iff.mp h
    refine gg_pI aMi97 rfl rfl rfl rfl (by decide) (pI_of (sh2_z (sh8_s0 ha0)) hxI9_10) ?_
    refine go_ops aMi97 1 _ (f1 := (84, ([(0, .ref a0), (1, .int i1), (2, .int i2), (3, .int i3)], []))) rfl ?_
    refine go_le (lv1 := []) (aLe_of (show (List.map (fun q => q.1) ([] : ALv)).Nodup from (by show ([] : List Nat).Nodup; decide)) aSubL_nil) ?_
    exact Tf97_b84 hd a0 ha0 I9_10 _ h
-- KernelGym$Machine.doInstruction ()V
def f96_b199 (kad : Nat → Nat) (N : Nat) (Z : AZ) (a0 : Nat) (I : AI) : Option (Unit × AI) :=
  some ((), I)
set_option maxRecDepth 20000 in
theorem Tf96_b199 {kad : Nat → Nat} {N : Nat} {Z : AZ} {d : Nat} {t : Option Nat × (Nat × Nat)} (hd : 4 ≤ d) : ∀ (a0 : Nat) (ha0 : sh8 kad Z a0) (I : AI) (r : Unit × AI), f96_b199 kad N Z a0 I = some r → aGo kad d 96 (199, ([], [])) (aMem Z I, t) (qV Z t r) := by
  intro a0 ha0 I r h
  unfold f96_b199 at h
  cases h
  exact go_ret aMi96 rfl rfl ⟨rfl, rfl⟩
def f96_b90 (kad : Nat → Nat) (N : Nat) (Z : AZ) (a0 : Nat) (i3 : Int32) (i4 : Int32) (s0 : Int32) (I : AI) : Option (Unit × AI) :=
  if i3 ≤ (26 : Int32) then
    if ¬ i3 = (26 : Int32) then
      if i3 < (19 : Int32) then
        if i3 < (15 : Int32) then
          if i3 < (12 : Int32) then
            if i3 < (4 : Int32) then
              (f97 kad N Z a0 i3 i4 s0 I).bind fun r196_1 =>
              f96_b199 kad N Z a0 r196_1.2
            else
              (f100 kad N Z a0 i3 i4 s0 I).bind fun r184_2 =>
              f96_b199 kad N Z a0 r184_2.2
          else
            (f102 kad N Z a0 i3 s0 I).bind fun r167_3 =>
            f96_b199 kad N Z a0 r167_3.2
        else
          (f103 kad N Z a0 i3 i4 s0 I).bind fun r151_4 =>
          f96_b199 kad N Z a0 r151_4.2
      else
        (f104 kad N Z a0 i3 i4 s0 I).bind fun r133_5 =>
        f96_b199 kad N Z a0 r133_5.2
    else
      (f108 kad N Z a0 s0 I).bind fun r115_6 =>
      f96_b199 kad N Z a0 r115_6.2
  else
    (f87 kad N Z a0 (2 : Int32) I).bind fun r100_7 =>
    f96_b199 kad N Z a0 r100_7.2
set_option maxRecDepth 20000 in
theorem Tf96_b90 {kad : Nat → Nat} {N : Nat} {Z : AZ} {d : Nat} {t : Option Nat × (Nat × Nat)} (hd : 4 ≤ d) : ∀ (a0 : Nat) (ha0 : sh8 kad Z a0) (i3 : Int32) (i4 : Int32) (s0 : Int32) (I : AI) (r : Unit × AI), f96_b90 kad N Z a0 i3 i4 s0 I = some r → aGo kad d 96 (90, ([(0, .ref a0), (3, .int i3), (4, .int i4)], [.int s0])) (aMem Z I, t) (qV Z t r) := by
  intro a0 ha0 i3 i4 s0 I r h
  unfold f96_b90 at h
  refine go_ops aMi96 3 _ (f1 := (95, ([(6, .int s0), (0, .ref a0), (3, .int i3), (4, .int i4)], [.int (26 : Int32), .int i3]))) rfl ?_
  refine gg_br (b := decide (i3 ≤ (26 : Int32))) (tg := 106) (off := 11) aMi96 rfl rfl rfl rfl (fun hb => ?_) (fun hb => ?_)
  · rw [if_pos (of_decide_eq_true hb)] at h
    refine go_ops aMi96 2 _ (f1 := (109, ([(6, .int s0), (0, .ref a0), (3, .int i3), (4, .int i4)], [.int (26 : Int32), .int i3]))) rfl ?_
    refine gg_br (b := decide (¬ i3 = (26 : Int32))) (tg := 121) (off := 12) aMi96 rfl rfl rfl rfl (fun hb => ?_) (fun hb => ?_)
    · rw [if_pos (of_decide_eq_true hb)] at h
      refine go_ops aMi96 2 _ (f1 := (124, ([(6, .int s0), (0, .ref a0), (3, .int i3), (4, .int i4)], [.int (19 : Int32), .int i3]))) rfl ?_
      refine gg_br (b := decide (i3 < (19 : Int32))) (tg := 139) (off := 15) aMi96 rfl rfl rfl rfl (fun hb => ?_) (fun hb => ?_)
      · rw [if_pos (of_decide_eq_true hb)] at h
        refine go_ops aMi96 2 _ (f1 := (142, ([(6, .int s0), (0, .ref a0), (3, .int i3), (4, .int i4)], [.int (15 : Int32), .int i3]))) rfl ?_
        refine gg_br (b := decide (i3 < (15 : Int32))) (tg := 157) (off := 15) aMi96 rfl rfl rfl rfl (fun hb => ?_) (fun hb => ?_)
        · rw [if_pos (of_decide_eq_true hb)] at h
          refine go_ops aMi96 2 _ (f1 := (160, ([(6, .int s0), (0, .ref a0), (3, .int i3), (4, .int i4)], [.int (12 : Int32), .int i3]))) rfl ?_
          refine gg_br (b := decide (i3 < (12 : Int32))) (tg := 173) (off := 13) aMi96 rfl rfl rfl rfl (fun hb => ?_) (fun hb => ?_)
          · rw [if_pos (of_decide_eq_true hb)] at h
            refine go_ops aMi96 2 _ (f1 := (175, ([(6, .int s0), (0, .ref a0), (3, .int i3), (4, .int i4)], [.int (4 : Int32), .int i3]))) rfl ?_
            refine gg_br (b := decide (i3 < (4 : Int32))) (tg := 190) (off := 15) aMi96 rfl rfl rfl rfl (fun hb => ?_) (fun hb => ?_)
            · rw [if_pos (of_decide_eq_true hb)] at h
              refine go_ops aMi96 4 _ (f1 := (196, ([(6, .int s0), (0, .ref a0), (3, .int i3), (4, .int i4)], [.int s0, .int i4, .int i3, .ref a0]))) rfl ?_
              obtain ⟨r196_1, hxr196_1, h⟩ := Option.bind_eq_some_iff.mp h
              refine gg_cv (as := [.int i3, .int i4, .int s0]) (r := []) aMi96 rfl rfl rfl aMi97 (Nat.le_of_ble_eq_true rfl) rfl (Nat.le_of_ble_eq_true rfl) (Nat.le_of_ble_eq_true rfl) (by omega) (isK_of (sh8_z ha0)) (Tf97 (by omega) a0 ha0 i3 i4 s0 I _ hxr196_1) ?_
              show aGo kad d 96 (199, ([(6, .int s0), (0, .ref a0), (3, .int i3), (4, .int i4)], [])) (aMem Z r196_1.2, t) _
              refine go_le (lv1 := []) (aLe_of (show (List.map (fun q => q.1) ([] : ALv)).Nodup from (by show ([] : List Nat).Nodup; decide)) aSubL_nil) ?_
              exact Tf96_b199 hd a0 ha0 r196_1.2 _ h
            · rw [if_neg (of_decide_eq_false hb)] at h
              refine go_ops aMi96 4 _ (f1 := (184, ([(6, .int s0), (0, .ref a0), (3, .int i3), (4, .int i4)], [.int s0, .int i4, .int i3, .ref a0]))) rfl ?_
              obtain ⟨r184_2, hxr184_2, h⟩ := Option.bind_eq_some_iff.mp h
              refine gg_cv (as := [.int i3, .int i4, .int s0]) (r := []) aMi96 rfl rfl rfl aMi100 (Nat.le_of_ble_eq_true rfl) rfl (Nat.le_of_ble_eq_true rfl) (Nat.le_of_ble_eq_true rfl) (by omega) (isK_of (sh8_z ha0)) (Tf100 (by omega) a0 ha0 i3 i4 s0 I _ hxr184_2) ?_
              show aGo kad d 96 (187, ([(6, .int s0), (0, .ref a0), (3, .int i3), (4, .int i4)], [])) (aMem Z r184_2.2, t) _
              refine go_ops aMi96 1 _ (f1 := (199, ([(6, .int s0), (0, .ref a0), (3, .int i3), (4, .int i4)], []))) rfl ?_
              refine go_le (lv1 := []) (aLe_of (show (List.map (fun q => q.1) ([] : ALv)).Nodup from (by show ([] : List Nat).Nodup; decide)) aSubL_nil) ?_
              exact Tf96_b199 hd a0 ha0 r184_2.2 _ h
          · rw [if_neg (of_decide_eq_false hb)] at h
            refine go_ops aMi96 3 _ (f1 := (167, ([(6, .int s0), (0, .ref a0), (3, .int i3), (4, .int i4)], [.int s0, .int i3, .ref a0]))) rfl ?_
            obtain ⟨r167_3, hxr167_3, h⟩ := Option.bind_eq_some_iff.mp h
            refine gg_cv (as := [.int i3, .int s0]) (r := []) aMi96 rfl rfl rfl aMi102 (Nat.le_of_ble_eq_true rfl) rfl (Nat.le_of_ble_eq_true rfl) (Nat.le_of_ble_eq_true rfl) (by omega) (isK_of (sh8_z ha0)) (Tf102 (by omega) a0 ha0 i3 s0 I _ hxr167_3) ?_
            show aGo kad d 96 (170, ([(6, .int s0), (0, .ref a0), (3, .int i3), (4, .int i4)], [])) (aMem Z r167_3.2, t) _
            refine go_ops aMi96 1 _ (f1 := (199, ([(6, .int s0), (0, .ref a0), (3, .int i3), (4, .int i4)], []))) rfl ?_
            refine go_le (lv1 := []) (aLe_of (show (List.map (fun q => q.1) ([] : ALv)).Nodup from (by show ([] : List Nat).Nodup; decide)) aSubL_nil) ?_
            exact Tf96_b199 hd a0 ha0 r167_3.2 _ h
        · rw [if_neg (of_decide_eq_false hb)] at h
          refine go_ops aMi96 4 _ (f1 := (151, ([(6, .int s0), (0, .ref a0), (3, .int i3), (4, .int i4)], [.int s0, .int i4, .int i3, .ref a0]))) rfl ?_
          obtain ⟨r151_4, hxr151_4, h⟩ := Option.bind_eq_some_iff.mp h
          refine gg_cv (as := [.int i3, .int i4, .int s0]) (r := []) aMi96 rfl rfl rfl aMi103 (Nat.le_of_ble_eq_true rfl) rfl (Nat.le_of_ble_eq_true rfl) (Nat.le_of_ble_eq_true rfl) (by omega) (isK_of (sh8_z ha0)) (Tf103 (by omega) a0 ha0 i3 i4 s0 I _ hxr151_4) ?_
          show aGo kad d 96 (154, ([(6, .int s0), (0, .ref a0), (3, .int i3), (4, .int i4)], [])) (aMem Z r151_4.2, t) _
          refine go_ops aMi96 1 _ (f1 := (199, ([(6, .int s0), (0, .ref a0), (3, .int i3), (4, .int i4)], []))) rfl ?_
          refine go_le (lv1 := []) (aLe_of (show (List.map (fun q => q.1) ([] : ALv)).Nodup from (by show ([] : List Nat).Nodup; decide)) aSubL_nil) ?_
          exact Tf96_b199 hd a0 ha0 r151_4.2 _ h
      · rw [if_neg (of_decide_eq_false hb)] at h
        refine go_ops aMi96 4 _ (f1 := (133, ([(6, .int s0), (0, .ref a0), (3, .int i3), (4, .int i4)], [.int s0, .int i4, .int i3, .ref a0]))) rfl ?_
        obtain ⟨r133_5, hxr133_5, h⟩ := Option.bind_eq_some_iff.mp h
        refine gg_cv (as := [.int i3, .int i4, .int s0]) (r := []) aMi96 rfl rfl rfl aMi104 (Nat.le_of_ble_eq_true rfl) rfl (Nat.le_of_ble_eq_true rfl) (Nat.le_of_ble_eq_true rfl) (by omega) (isK_of (sh8_z ha0)) (Tf104 (by omega) a0 ha0 i3 i4 s0 I _ hxr133_5) ?_
        show aGo kad d 96 (136, ([(6, .int s0), (0, .ref a0), (3, .int i3), (4, .int i4)], [])) (aMem Z r133_5.2, t) _
        refine go_ops aMi96 1 _ (f1 := (199, ([(6, .int s0), (0, .ref a0), (3, .int i3), (4, .int i4)], []))) rfl ?_
        refine go_le (lv1 := []) (aLe_of (show (List.map (fun q => q.1) ([] : ALv)).Nodup from (by show ([] : List Nat).Nodup; decide)) aSubL_nil) ?_
        exact Tf96_b199 hd a0 ha0 r133_5.2 _ h
    · rw [if_neg (of_decide_eq_false hb)] at h
      refine go_ops aMi96 2 _ (f1 := (115, ([(6, .int s0), (0, .ref a0), (3, .int i3), (4, .int i4)], [.int s0, .ref a0]))) rfl ?_
      obtain ⟨r115_6, hxr115_6, h⟩ := Option.bind_eq_some_iff.mp h
      refine gg_cv (as := [.int s0]) (r := []) aMi96 rfl rfl rfl aMi108 (Nat.le_of_ble_eq_true rfl) rfl (Nat.le_of_ble_eq_true rfl) (Nat.le_of_ble_eq_true rfl) (by omega) (isK_of (sh8_z ha0)) (Tf108 (by omega) a0 ha0 s0 I _ hxr115_6) ?_
      show aGo kad d 96 (118, ([(6, .int s0), (0, .ref a0), (3, .int i3), (4, .int i4)], [])) (aMem Z r115_6.2, t) _
      refine go_ops aMi96 1 _ (f1 := (199, ([(6, .int s0), (0, .ref a0), (3, .int i3), (4, .int i4)], []))) rfl ?_
      refine go_le (lv1 := []) (aLe_of (show (List.map (fun q => q.1) ([] : ALv)).Nodup from (by show ([] : List Nat).Nodup; decide)) aSubL_nil) ?_
      exact Tf96_b199 hd a0 ha0 r115_6.2 _ h
  · rw [if_neg (of_decide_eq_false hb)] at h
    refine go_ops aMi96 2 _ (f1 := (100, ([(6, .int s0), (0, .ref a0), (3, .int i3), (4, .int i4)], [.int (2 : Int32), .ref a0]))) rfl ?_
    obtain ⟨r100_7, hxr100_7, h⟩ := Option.bind_eq_some_iff.mp h
    refine gg_cv (as := [.int (2 : Int32)]) (r := []) aMi96 rfl rfl rfl aMi87 (Nat.le_of_ble_eq_true rfl) rfl (Nat.le_of_ble_eq_true rfl) (Nat.le_of_ble_eq_true rfl) (by omega) (isK_of (sh8_z ha0)) (Tf87 (by omega) a0 ha0 (2 : Int32) I _ hxr100_7) ?_
    show aGo kad d 96 (103, ([(6, .int s0), (0, .ref a0), (3, .int i3), (4, .int i4)], [])) (aMem Z r100_7.2, t) _
    refine go_ops aMi96 1 _ (f1 := (199, ([(6, .int s0), (0, .ref a0), (3, .int i3), (4, .int i4)], []))) rfl ?_
    refine go_le (lv1 := []) (aLe_of (show (List.map (fun q => q.1) ([] : ALv)).Nodup from (by show ([] : List Nat).Nodup; decide)) aSubL_nil) ?_
    exact Tf96_b199 hd a0 ha0 r100_7.2 _ h
def f96 (kad : Nat → Nat) (N : Nat) (Z : AZ) (a0 : Nat) (I : AI) : Option (Unit × AI) :=
  if ((I (a0 + 1) 3) + (2 : Int32)) ≤ (256 : Int32) then
    (f89 kad N Z a0 (I (a0 + 1) 3) I).bind fun r29_1 =>
    (f89 kad N Z a0 (((r29_1.2) (a0 + 1) 3) + (1 : Int32)) r29_1.2).bind fun r43_2 =>
    if ¬ ((r29_1.1 / (4 : Int32)) &&& (3 : Int32)) = (r29_1.1 &&& (3 : Int32)) then
      (ixA 4 (r29_1.1 &&& (3 : Int32))).bind fun j84_3 =>
      f96_b90 kad N Z a0 (r29_1.1 / (16 : Int32)) ((r29_1.1 / (4 : Int32)) &&& (3 : Int32)) (((r43_2.2 (a0 + 2) j84_3) + r43_2.1) &&& (65535 : Int32)) r43_2.2
    else
      f96_b90 kad N Z a0 (r29_1.1 / (16 : Int32)) ((r29_1.1 / (4 : Int32)) &&& (3 : Int32)) r43_2.1 r43_2.2
  else
    (f87 kad N Z a0 (1 : Int32) I).bind fun r17_4 =>
    some ((), r17_4.2)
set_option maxRecDepth 20000 in
theorem Tf96 {kad : Nat → Nat} {N : Nat} {Z : AZ} {d : Nat} {t : Option Nat × (Nat × Nat)} (hd : 4 ≤ d) : ∀ (a0 : Nat) (ha0 : sh8 kad Z a0) (I : AI) (r : Unit × AI), f96 kad N Z a0 I = some r → aGo kad d 96 (0, ([(0, .ref a0)], [])) (aMem Z I, t) (qV Z t r) := by
  intro a0 ha0 I r h
  unfold f96 at h
  refine go_ops aMi96 1 _ (f1 := (1, ([(0, .ref a0)], [.ref a0]))) rfl ?_
  refine gg_gR (b := (a0 + 1)) aMi96 rfl rfl rfl (gR_of (sh8_z ha0) (sh8_r0 ha0)) ?_
  refine gg_gI aMi96 rfl rfl rfl (gI_of (sh2_z (sh8_s0 ha0))) ?_
  refine go_ops aMi96 3 _ (f1 := (12, ([(0, .ref a0)], [.int (256 : Int32), .int ((I (a0 + 1) 3) + (2 : Int32))]))) rfl ?_
  refine gg_br (b := decide (((I (a0 + 1) 3) + (2 : Int32)) ≤ (256 : Int32))) (tg := 21) (off := 9) aMi96 rfl rfl rfl rfl (fun hb => ?_) (fun hb => ?_)
  · rw [if_pos (of_decide_eq_true hb)] at h
    refine go_ops aMi96 2 _ (f1 := (23, ([(0, .ref a0)], [.ref a0, .ref a0]))) rfl ?_
    refine gg_gR (b := (a0 + 1)) aMi96 rfl rfl rfl (gR_of (sh8_z ha0) (sh8_r0 ha0)) ?_
    refine gg_gI aMi96 rfl rfl rfl (gI_of (sh2_z (sh8_s0 ha0))) ?_
    obtain ⟨r29_1, hxr29_1, h⟩ := Option.bind_eq_some_iff.mp h
    refine gg_cv (as := [.int (I (a0 + 1) 3)]) (r := []) aMi96 rfl rfl rfl aMi89 (Nat.le_of_ble_eq_true rfl) rfl (Nat.le_of_ble_eq_true rfl) (Nat.le_of_ble_eq_true rfl) (by omega) (isK_of (sh8_z ha0)) (Tf89 (by omega) a0 ha0 (I (a0 + 1) 3) I _ hxr29_1) ?_
    show aGo kad d 96 (32, ([(0, .ref a0)], [.int r29_1.1])) (aMem Z r29_1.2, t) _
    refine go_ops aMi96 3 _ (f1 := (35, ([(1, .int r29_1.1), (0, .ref a0)], [.ref a0, .ref a0]))) rfl ?_
    refine gg_gR (b := (a0 + 1)) aMi96 rfl rfl rfl (gR_of (sh8_z ha0) (sh8_r0 ha0)) ?_
    refine gg_gI aMi96 rfl rfl rfl (gI_of (sh2_z (sh8_s0 ha0))) ?_
    refine go_ops aMi96 2 _ (f1 := (43, ([(1, .int r29_1.1), (0, .ref a0)], [.int (((r29_1.2) (a0 + 1) 3) + (1 : Int32)), .ref a0]))) rfl ?_
    obtain ⟨r43_2, hxr43_2, h⟩ := Option.bind_eq_some_iff.mp h
    refine gg_cv (as := [.int (((r29_1.2) (a0 + 1) 3) + (1 : Int32))]) (r := []) aMi96 rfl rfl rfl aMi89 (Nat.le_of_ble_eq_true rfl) rfl (Nat.le_of_ble_eq_true rfl) (Nat.le_of_ble_eq_true rfl) (by omega) (isK_of (sh8_z ha0)) (Tf89 (by omega) a0 ha0 (((r29_1.2) (a0 + 1) 3) + (1 : Int32)) r29_1.2 _ hxr43_2) ?_
    show aGo kad d 96 (46, ([(1, .int r29_1.1), (0, .ref a0)], [.int r43_2.1])) (aMem Z r43_2.2, t) _
    refine go_ops aMi96 17 _ (f1 := (68, ([(5, .int (r29_1.1 &&& (3 : Int32))), (4, .int ((r29_1.1 / (4 : Int32)) &&& (3 : Int32))), (3, .int (r29_1.1 / (16 : Int32))), (2, .int r43_2.1), (1, .int r29_1.1), (0, .ref a0)], [.int (r29_1.1 &&& (3 : Int32)), .int ((r29_1.1 / (4 : Int32)) &&& (3 : Int32))]))) rfl ?_
    refine gg_br (b := decide (¬ ((r29_1.1 / (4 : Int32)) &&& (3 : Int32)) = (r29_1.1 &&& (3 : Int32)))) (tg := 75) (off := 7) aMi96 rfl rfl rfl rfl (fun hb => ?_) (fun hb => ?_)
    · rw [if_pos (of_decide_eq_true hb)] at h
      refine go_ops aMi96 1 _ (f1 := (76, ([(5, .int (r29_1.1 &&& (3 : Int32))), (4, .int ((r29_1.1 / (4 : Int32)) &&& (3 : Int32))), (3, .int (r29_1.1 / (16 : Int32))), (2, .int r43_2.1), (1, .int r29_1.1), (0, .ref a0)], [.ref a0]))) rfl ?_
      refine gg_gR (b := (a0 + 1)) aMi96 rfl rfl rfl (gR_of (sh8_z ha0) (sh8_r0 ha0)) ?_
      refine gg_gR (b := (a0 + 2)) aMi96 rfl rfl rfl (gR_of (sh2_z (sh8_s0 ha0)) (sh2_r14 (sh8_s0 ha0))) ?_
      refine go_ops aMi96 1 _ (f1 := (84, ([(5, .int (r29_1.1 &&& (3 : Int32))), (4, .int ((r29_1.1 / (4 : Int32)) &&& (3 : Int32))), (3, .int (r29_1.1 / (16 : Int32))), (2, .int r43_2.1), (1, .int r29_1.1), (0, .ref a0)], [.int (r29_1.1 &&& (3 : Int32)), .ref (a0 + 2)]))) rfl ?_
      obtain ⟨j84_3, hxj84_3, h⟩ := Option.bind_eq_some_iff.mp h
      refine gg_lI (Or.inl ⟨rfl, rfl⟩) aMi96 rfl (lI_of (sh2_a14 (sh8_s0 ha0)) hxj84_3) ?_
      refine go_ops aMi96 2 _ (f1 := (87, ([(5, .int (r29_1.1 &&& (3 : Int32))), (4, .int ((r29_1.1 / (4 : Int32)) &&& (3 : Int32))), (3, .int (r29_1.1 / (16 : Int32))), (2, .int r43_2.1), (1, .int r29_1.1), (0, .ref a0)], [.int ((r43_2.2 (a0 + 2) j84_3) + r43_2.1)]))) rfl ?_
      refine gg_kI (Or.inl ⟨rfl, rfl⟩) aMi96 rfl rfl ?_
      refine go_ops aMi96 1 _ (f1 := (90, ([(5, .int (r29_1.1 &&& (3 : Int32))), (4, .int ((r29_1.1 / (4 : Int32)) &&& (3 : Int32))), (3, .int (r29_1.1 / (16 : Int32))), (2, .int r43_2.1), (1, .int r29_1.1), (0, .ref a0)], [.int (((r43_2.2 (a0 + 2) j84_3) + r43_2.1) &&& (65535 : Int32))]))) rfl ?_
      refine go_le (lv1 := [(0, .ref a0), (3, .int (r29_1.1 / (16 : Int32))), (4, .int ((r29_1.1 / (4 : Int32)) &&& (3 : Int32)))]) (aLe_of (show (List.map (fun q => q.1) ([(0, .ref a0), (3, .int (r29_1.1 / (16 : Int32))), (4, .int ((r29_1.1 / (4 : Int32)) &&& (3 : Int32)))] : ALv)).Nodup from (by show ([0, 3, 4] : List Nat).Nodup; decide)) (aSubL_cons rfl (aSubL_cons rfl (aSubL_cons rfl aSubL_nil)))) ?_
      exact Tf96_b90 hd a0 ha0 (r29_1.1 / (16 : Int32)) ((r29_1.1 / (4 : Int32)) &&& (3 : Int32)) (((r43_2.2 (a0 + 2) j84_3) + r43_2.1) &&& (65535 : Int32)) r43_2.2 _ h
    · rw [if_neg (of_decide_eq_false hb)] at h
      refine go_ops aMi96 2 _ (f1 := (90, ([(5, .int (r29_1.1 &&& (3 : Int32))), (4, .int ((r29_1.1 / (4 : Int32)) &&& (3 : Int32))), (3, .int (r29_1.1 / (16 : Int32))), (2, .int r43_2.1), (1, .int r29_1.1), (0, .ref a0)], [.int r43_2.1]))) rfl ?_
      refine go_le (lv1 := [(0, .ref a0), (3, .int (r29_1.1 / (16 : Int32))), (4, .int ((r29_1.1 / (4 : Int32)) &&& (3 : Int32)))]) (aLe_of (show (List.map (fun q => q.1) ([(0, .ref a0), (3, .int (r29_1.1 / (16 : Int32))), (4, .int ((r29_1.1 / (4 : Int32)) &&& (3 : Int32)))] : ALv)).Nodup from (by show ([0, 3, 4] : List Nat).Nodup; decide)) (aSubL_cons rfl (aSubL_cons rfl (aSubL_cons rfl aSubL_nil)))) ?_
      exact Tf96_b90 hd a0 ha0 (r29_1.1 / (16 : Int32)) ((r29_1.1 / (4 : Int32)) &&& (3 : Int32)) r43_2.1 r43_2.2 _ h
  · rw [if_neg (of_decide_eq_false hb)] at h
    refine go_ops aMi96 2 _ (f1 := (17, ([(0, .ref a0)], [.int (1 : Int32), .ref a0]))) rfl ?_
    obtain ⟨r17_4, hxr17_4, h⟩ := Option.bind_eq_some_iff.mp h
    refine gg_cv (as := [.int (1 : Int32)]) (r := []) aMi96 rfl rfl rfl aMi87 (Nat.le_of_ble_eq_true rfl) rfl (Nat.le_of_ble_eq_true rfl) (Nat.le_of_ble_eq_true rfl) (by omega) (isK_of (sh8_z ha0)) (Tf87 (by omega) a0 ha0 (1 : Int32) I _ hxr17_4) ?_
    show aGo kad d 96 (20, ([(0, .ref a0)], [])) (aMem Z r17_4.2, t) _
    cases h
    exact go_ret aMi96 rfl rfl ⟨rfl, rfl⟩
-- KernelGym$Machine.passTime ()V
def f86_b56 (kad : Nat → Nat) (N : Nat) (Z : AZ) (a0 : Nat) (I : AI) : Option (Unit × AI) :=
  some ((), I)
set_option maxRecDepth 20000 in
theorem Tf86_b56 {kad : Nat → Nat} {N : Nat} {Z : AZ} {d : Nat} {t : Option Nat × (Nat × Nat)} (hd : 0 ≤ d) : ∀ (a0 : Nat) (ha0 : sh8 kad Z a0) (I : AI) (r : Unit × AI), f86_b56 kad N Z a0 I = some r → aGo kad d 86 (56, ([], [])) (aMem Z I, t) (qV Z t r) := by
  intro a0 ha0 I r h
  unfold f86_b56 at h
  cases h
  exact go_ret aMi86 rfl rfl ⟨rfl, rfl⟩
def f86 (kad : Nat → Nat) (N : Nat) (Z : AZ) (a0 : Nat) (I : AI) : Option (Unit × AI) :=
  if (I (a0 + 1) 10) ≤ 0 then
    f86_b56 kad N Z a0 I
  else
    (wI I (a0 + 1) 11 ((I (a0 + 1) 11) + (1 : Int32))).bind fun I20_1 =>
    if ¬ (I20_1 (a0 + 1) 11) = (I20_1 (a0 + 1) 10) then
      f86_b56 kad N Z a0 I20_1
    else
      (wI I20_1 (a0 + 1) 11 (0 : Int32)).bind fun I45_2 =>
      (wI I45_2 (a0 + 1) 8 (1 : Int32)).bind fun I53_3 =>
      f86_b56 kad N Z a0 I53_3
set_option maxRecDepth 20000 in
theorem Tf86 {kad : Nat → Nat} {N : Nat} {Z : AZ} {d : Nat} {t : Option Nat × (Nat × Nat)} (hd : 0 ≤ d) : ∀ (a0 : Nat) (ha0 : sh8 kad Z a0) (I : AI) (r : Unit × AI), f86 kad N Z a0 I = some r → aGo kad d 86 (0, ([(0, .ref a0)], [])) (aMem Z I, t) (qV Z t r) := by
  intro a0 ha0 I r h
  unfold f86 at h
  refine go_ops aMi86 1 _ (f1 := (1, ([(0, .ref a0)], [.ref a0]))) rfl ?_
  refine gg_gR (b := (a0 + 1)) aMi86 rfl rfl rfl (gR_of (sh8_z ha0) (sh8_r0 ha0)) ?_
  refine gg_gI aMi86 rfl rfl rfl (gI_of (sh2_z (sh8_s0 ha0))) ?_
  refine gg_br (b := decide ((I (a0 + 1) 10) ≤ 0)) (tg := 56) (off := 49) aMi86 rfl rfl rfl rfl (fun hb => ?_) (fun hb => ?_)
  · rw [if_pos (of_decide_eq_true hb)] at h
    refine go_le (lv1 := []) (aLe_of (show (List.map (fun q => q.1) ([] : ALv)).Nodup from (by show ([] : List Nat).Nodup; decide)) aSubL_nil) ?_
    exact Tf86_b56 hd a0 ha0 I _ h
  · rw [if_neg (of_decide_eq_false hb)] at h
    refine go_ops aMi86 1 _ (f1 := (11, ([(0, .ref a0)], [.ref a0]))) rfl ?_
    refine gg_gR (b := (a0 + 1)) aMi86 rfl rfl rfl (gR_of (sh8_z ha0) (sh8_r0 ha0)) ?_
    refine go_ops aMi86 1 _ (f1 := (15, ([(0, .ref a0)], [.ref (a0 + 1), .ref (a0 + 1)]))) rfl ?_
    refine gg_gI aMi86 rfl rfl rfl (gI_of (sh2_z (sh8_s0 ha0))) ?_
    refine go_ops aMi86 2 _ (f1 := (20, ([(0, .ref a0)], [.int ((I (a0 + 1) 11) + (1 : Int32)), .ref (a0 + 1)]))) rfl ?_
    obtain ⟨I20_1, hxI20_1, h⟩ := Option.bind_eq_some_iff.mp h
    refine gg_pI aMi86 rfl rfl rfl rfl (by decide) (pI_of (sh2_z (sh8_s0 ha0)) hxI20_1) ?_
    refine go_ops aMi86 1 _ (f1 := (24, ([(0, .ref a0)], [.ref a0]))) rfl ?_
    refine gg_gR (b := (a0 + 1)) aMi86 rfl rfl rfl (gR_of (sh8_z ha0) (sh8_r0 ha0)) ?_
    refine gg_gI aMi86 rfl rfl rfl (gI_of (sh2_z (sh8_s0 ha0))) ?_
    refine go_ops aMi86 1 _ (f1 := (31, ([(0, .ref a0)], [.ref a0, .int (I20_1 (a0 + 1) 11)]))) rfl ?_
    refine gg_gR (b := (a0 + 1)) aMi86 rfl rfl rfl (gR_of (sh8_z ha0) (sh8_r0 ha0)) ?_
    refine gg_gI aMi86 rfl rfl rfl (gI_of (sh2_z (sh8_s0 ha0))) ?_
    refine gg_br (b := decide (¬ (I20_1 (a0 + 1) 11) = (I20_1 (a0 + 1) 10))) (tg := 56) (off := 19) aMi86 rfl rfl rfl rfl (fun hb => ?_) (fun hb => ?_)
    · rw [if_pos (of_decide_eq_true hb)] at h
      refine go_le (lv1 := []) (aLe_of (show (List.map (fun q => q.1) ([] : ALv)).Nodup from (by show ([] : List Nat).Nodup; decide)) aSubL_nil) ?_
      exact Tf86_b56 hd a0 ha0 I20_1 _ h
    · rw [if_neg (of_decide_eq_false hb)] at h
      refine go_ops aMi86 1 _ (f1 := (41, ([(0, .ref a0)], [.ref a0]))) rfl ?_
      refine gg_gR (b := (a0 + 1)) aMi86 rfl rfl rfl (gR_of (sh8_z ha0) (sh8_r0 ha0)) ?_
      refine go_ops aMi86 1 _ (f1 := (45, ([(0, .ref a0)], [.int (0 : Int32), .ref (a0 + 1)]))) rfl ?_
      obtain ⟨I45_2, hxI45_2, h⟩ := Option.bind_eq_some_iff.mp h
      refine gg_pI aMi86 rfl rfl rfl rfl (by decide) (pI_of (sh2_z (sh8_s0 ha0)) hxI45_2) ?_
      refine go_ops aMi86 1 _ (f1 := (49, ([(0, .ref a0)], [.ref a0]))) rfl ?_
      refine gg_gR (b := (a0 + 1)) aMi86 rfl rfl rfl (gR_of (sh8_z ha0) (sh8_r0 ha0)) ?_
      refine go_ops aMi86 1 _ (f1 := (53, ([(0, .ref a0)], [.int (1 : Int32), .ref (a0 + 1)]))) rfl ?_
      obtain ⟨I53_3, hxI53_3, h⟩ := Option.bind_eq_some_iff.mp h
      refine gg_pB aMi86 rfl rfl rfl rfl (by decide) (pB_lit (sh2_z (sh8_s0 ha0)) (Or.inr rfl) hxI53_3) ?_
      refine go_le (lv1 := []) (aLe_of (show (List.map (fun q => q.1) ([] : ALv)).Nodup from (by show ([] : List Nat).Nodup; decide)) aSubL_nil) ?_
      exact Tf86_b56 hd a0 ha0 I53_3 _ h
-- KernelGym$Machine.makeStep (LKernelGym$Kept;)V
def f83_b77 (kad : Nat → Nat) (N : Nat) (Z : AZ) (a0 : Nat) (a1 : Nat) (I : AI) : Option (Unit × AI) :=
  (wI I (a0 + 1) 2 ((I (a0 + 1) 2) + (1 : Int32))).bind fun I87_1 =>
  (f86 kad N Z a0 I87_1).bind fun r91_2 =>
  (f85 kad N Z a0 r91_2.2).bind fun r95_3 =>
  some ((), r95_3.2)
set_option maxRecDepth 20000 in
theorem Tf83_b77 {kad : Nat → Nat} {N : Nat} {Z : AZ} {d : Nat} {t : Option Nat × (Nat × Nat)} (hd : 5 ≤ d) : ∀ (a0 : Nat) (ha0 : sh8 kad Z a0) (a1 : Nat) (ha1 : sh5 kad Z a1) (I : AI) (r : Unit × AI), f83_b77 kad N Z a0 a1 I = some r → aGo kad d 83 (77, ([(0, .ref a0)], [])) (aMem Z I, t) (qV Z t r) := by
  intro a0 ha0 a1 ha1 I r h
  unfold f83_b77 at h
  refine go_ops aMi83 1 _ (f1 := (78, ([(0, .ref a0)], [.ref a0]))) rfl ?_
  refine gg_gR (b := (a0 + 1)) aMi83 rfl rfl rfl (gR_of (sh8_z ha0) (sh8_r0 ha0)) ?_
  refine go_ops aMi83 1 _ (f1 := (82, ([(0, .ref a0)], [.ref (a0 + 1), .ref (a0 + 1)]))) rfl ?_
  refine gg_gI aMi83 rfl rfl rfl (gI_of (sh2_z (sh8_s0 ha0))) ?_
  refine go_ops aMi83 2 _ (f1 := (87, ([(0, .ref a0)], [.int ((I (a0 + 1) 2) + (1 : Int32)), .ref (a0 + 1)]))) rfl ?_
  obtain ⟨I87_1, hxI87_1, h⟩ := Option.bind_eq_some_iff.mp h
  refine gg_pI aMi83 rfl rfl rfl rfl (by decide) (pI_of (sh2_z (sh8_s0 ha0)) hxI87_1) ?_
  refine go_ops aMi83 1 _ (f1 := (91, ([(0, .ref a0)], [.ref a0]))) rfl ?_
  obtain ⟨r91_2, hxr91_2, h⟩ := Option.bind_eq_some_iff.mp h
  refine gg_cv (as := []) (r := []) aMi83 rfl rfl rfl aMi86 (Nat.le_of_ble_eq_true rfl) rfl (Nat.le_of_ble_eq_true rfl) (Nat.le_of_ble_eq_true rfl) (by omega) (isK_of (sh8_z ha0)) (Tf86 (by omega) a0 ha0 I87_1 _ hxr91_2) ?_
  show aGo kad d 83 (94, ([(0, .ref a0)], [])) (aMem Z r91_2.2, t) _
  refine go_ops aMi83 1 _ (f1 := (95, ([(0, .ref a0)], [.ref a0]))) rfl ?_
  obtain ⟨r95_3, hxr95_3, h⟩ := Option.bind_eq_some_iff.mp h
  refine gg_cv (as := []) (r := []) aMi83 rfl rfl rfl aMi85 (Nat.le_of_ble_eq_true rfl) rfl (Nat.le_of_ble_eq_true rfl) (Nat.le_of_ble_eq_true rfl) (by omega) (isK_of (sh8_z ha0)) (Tf85 (by omega) a0 ha0 r91_2.2 _ hxr95_3) ?_
  show aGo kad d 83 (98, ([(0, .ref a0)], [])) (aMem Z r95_3.2, t) _
  cases h
  exact go_ret aMi83 rfl rfl ⟨rfl, rfl⟩
def f83_b66 (kad : Nat → Nat) (N : Nat) (Z : AZ) (a0 : Nat) (a1 : Nat) (I : AI) : Option (Unit × AI) :=
  (f95 kad N Z a0 I).bind fun r67_1 =>
  f83_b77 kad N Z a0 a1 r67_1.2
set_option maxRecDepth 20000 in
theorem Tf83_b66 {kad : Nat → Nat} {N : Nat} {Z : AZ} {d : Nat} {t : Option Nat × (Nat × Nat)} (hd : 5 ≤ d) : ∀ (a0 : Nat) (ha0 : sh8 kad Z a0) (a1 : Nat) (ha1 : sh5 kad Z a1) (I : AI) (r : Unit × AI), f83_b66 kad N Z a0 a1 I = some r → aGo kad d 83 (66, ([(0, .ref a0)], [])) (aMem Z I, t) (qV Z t r) := by
  intro a0 ha0 a1 ha1 I r h
  unfold f83_b66 at h
  refine go_ops aMi83 1 _ (f1 := (67, ([(0, .ref a0)], [.ref a0]))) rfl ?_
  obtain ⟨r67_1, hxr67_1, h⟩ := Option.bind_eq_some_iff.mp h
  refine gg_cv (as := []) (r := []) aMi83 rfl rfl rfl aMi95 (Nat.le_of_ble_eq_true rfl) rfl (Nat.le_of_ble_eq_true rfl) (Nat.le_of_ble_eq_true rfl) (by omega) (isK_of (sh8_z ha0)) (Tf95 (by omega) a0 ha0 I _ hxr67_1) ?_
  show aGo kad d 83 (70, ([(0, .ref a0)], [])) (aMem Z r67_1.2, t) _
  refine go_ops aMi83 1 _ (f1 := (77, ([(0, .ref a0)], []))) rfl ?_
  exact Tf83_b77 hd a0 ha0 a1 ha1 r67_1.2 _ h
def f83_b73 (kad : Nat → Nat) (N : Nat) (Z : AZ) (a0 : Nat) (a1 : Nat) (I : AI) : Option (Unit × AI) :=
  (f96 kad N Z a0 I).bind fun r74_1 =>
  f83_b77 kad N Z a0 a1 r74_1.2
set_option maxRecDepth 20000 in
theorem Tf83_b73 {kad : Nat → Nat} {N : Nat} {Z : AZ} {d : Nat} {t : Option Nat × (Nat × Nat)} (hd : 5 ≤ d) : ∀ (a0 : Nat) (ha0 : sh8 kad Z a0) (a1 : Nat) (ha1 : sh5 kad Z a1) (I : AI) (r : Unit × AI), f83_b73 kad N Z a0 a1 I = some r → aGo kad d 83 (73, ([(0, .ref a0)], [])) (aMem Z I, t) (qV Z t r) := by
  intro a0 ha0 a1 ha1 I r h
  unfold f83_b73 at h
  refine go_ops aMi83 1 _ (f1 := (74, ([(0, .ref a0)], [.ref a0]))) rfl ?_
  obtain ⟨r74_1, hxr74_1, h⟩ := Option.bind_eq_some_iff.mp h
  refine gg_cv (as := []) (r := []) aMi83 rfl rfl rfl aMi96 (Nat.le_of_ble_eq_true rfl) rfl (Nat.le_of_ble_eq_true rfl) (Nat.le_of_ble_eq_true rfl) (by omega) (isK_of (sh8_z ha0)) (Tf96 (by omega) a0 ha0 I _ hxr74_1) ?_
  show aGo kad d 83 (77, ([(0, .ref a0)], [])) (aMem Z r74_1.2, t) _
  exact Tf83_b77 hd a0 ha0 a1 ha1 r74_1.2 _ h
def f83 (kad : Nat → Nat) (N : Nat) (Z : AZ) (a0 : Nat) (a1 : Nat) (I : AI) : Option (Unit × AI) :=
  (pR Z I 8 7 a0 a1).bind fun I2_1 =>
  (f67 kad N Z (Z.2.1 a0 7 (I2_1 a0 7)) (a0 + 1) I2_1).bind fun r13_2 =>
  (f63 kad N Z (a0 + 3) r13_2.2).bind fun r23_3 =>
  if r23_3.1 ≤ 0 then
    if ((r23_3.2) (a0 + 1) 7) = 0 then
      f83_b73 kad N Z a0 a1 r23_3.2
    else
      if ¬ ((r23_3.2) (a0 + 1) 8) = 0 then
        f83_b66 kad N Z a0 a1 r23_3.2
      else
        if ((r23_3.2) (a0 + 1) 9) = 0 then
          f83_b73 kad N Z a0 a1 r23_3.2
        else
          f83_b66 kad N Z a0 a1 r23_3.2
  else
    (f109 kad N Z a0 r23_3.2).bind fun r30_4 =>
    f83_b77 kad N Z a0 a1 r30_4.2
set_option maxRecDepth 20000 in
theorem Tf83 {kad : Nat → Nat} {N : Nat} {Z : AZ} {d : Nat} {t : Option Nat × (Nat × Nat)} (hd : 5 ≤ d) : ∀ (a0 : Nat) (ha0 : sh8 kad Z a0) (a1 : Nat) (ha1 : sh5 kad Z a1) (I : AI) (r : Unit × AI), f83 kad N Z a0 a1 I = some r → aGo kad d 83 (0, ([(0, .ref a0), (1, .ref a1)], [])) (aMem Z I, t) (qV Z t r) := by
  intro a0 ha0 a1 ha1 I r h
  unfold f83 at h
  refine go_ops aMi83 2 _ (f1 := (2, ([(0, .ref a0), (1, .ref a1)], [.ref a1, .ref a0]))) rfl ?_
  obtain ⟨I2_1, hxI2_1, h⟩ := Option.bind_eq_some_iff.mp h
  refine gg_pR aMi83 rfl rfl rfl rfl (by decide) hxI2_1 ?_
  refine go_ops aMi83 1 _ (f1 := (6, ([(0, .ref a0), (1, .ref a1)], [.ref a0]))) rfl ?_
  refine gg_gR (b := (Z.2.1 a0 7 (I2_1 a0 7))) aMi83 rfl rfl rfl (gR_of2 (sh8_z ha0) rfl) ?_
  refine go_ops aMi83 1 _ (f1 := (10, ([(0, .ref a0), (1, .ref a1)], [.ref a0, .ref (Z.2.1 a0 7 (I2_1 a0 7))]))) rfl ?_
  refine gg_gR (b := (a0 + 1)) aMi83 rfl rfl rfl (gR_of (sh8_z ha0) (sh8_r0 ha0)) ?_
  obtain ⟨r13_2, hxr13_2, h⟩ := Option.bind_eq_some_iff.mp h
  refine gg_cv (as := [.ref (a0 + 1)]) (r := []) aMi83 rfl rfl rfl aMi67 (Nat.le_of_ble_eq_true rfl) rfl (Nat.le_of_ble_eq_true rfl) (Nat.le_of_ble_eq_true rfl) (by omega) (isK_of (sh5_z (sh8_k ha0 _))) (Tf67 (by omega) (Z.2.1 a0 7 (I2_1 a0 7)) (sh8_k ha0 _) (a0 + 1) (sh8_s0 ha0) I2_1 _ hxr13_2) ?_
  show aGo kad d 83 (16, ([(0, .ref a0), (1, .ref a1)], [])) (aMem Z r13_2.2, t) _
  refine go_ops aMi83 1 _ (f1 := (17, ([(0, .ref a0), (1, .ref a1)], [.ref a0]))) rfl ?_
  refine gg_gR (b := (a0 + 1)) aMi83 rfl rfl rfl (gR_of (sh8_z ha0) (sh8_r0 ha0)) ?_
  refine gg_gR (b := (a0 + 3)) aMi83 rfl rfl rfl (gR_of (sh2_z (sh8_s0 ha0)) (sh2_r15 (sh8_s0 ha0))) ?_
  obtain ⟨r23_3, hxr23_3, h⟩ := Option.bind_eq_some_iff.mp h
  refine gg_cv (as := []) (r := []) aMi83 rfl rfl rfl aMi63 (Nat.le_of_ble_eq_true rfl) rfl (Nat.le_of_ble_eq_true rfl) (Nat.le_of_ble_eq_true rfl) (by omega) (isK_of (sh4_z (sh2_s15 (sh8_s0 ha0)))) (Tf63 (by omega) (a0 + 3) (sh2_s15 (sh8_s0 ha0)) r13_2.2 _ hxr23_3) ?_
  show aGo kad d 83 (26, ([(0, .ref a0), (1, .ref a1)], [.int r23_3.1])) (aMem Z r23_3.2, t) _
  refine gg_br (b := decide (r23_3.1 ≤ 0)) (tg := 36) (off := 10) aMi83 rfl rfl rfl rfl (fun hb => ?_) (fun hb => ?_)
  · rw [if_pos (of_decide_eq_true hb)] at h
    refine go_ops aMi83 1 _ (f1 := (37, ([(0, .ref a0), (1, .ref a1)], [.ref a0]))) rfl ?_
    refine gg_gR (b := (a0 + 1)) aMi83 rfl rfl rfl (gR_of (sh8_z ha0) (sh8_r0 ha0)) ?_
    refine gg_gI aMi83 rfl rfl rfl (gI_of (sh2_z (sh8_s0 ha0))) ?_
    refine gg_br (b := decide (((r23_3.2) (a0 + 1) 7) = 0)) (tg := 73) (off := 30) aMi83 rfl rfl rfl rfl (fun hb => ?_) (fun hb => ?_)
    · rw [if_pos (of_decide_eq_true hb)] at h
      refine go_le (lv1 := [(0, .ref a0)]) (aLe_of (show (List.map (fun q => q.1) ([(0, .ref a0)] : ALv)).Nodup from (by show ([0] : List Nat).Nodup; decide)) (aSubL_cons rfl aSubL_nil)) ?_
      exact Tf83_b73 hd a0 ha0 a1 ha1 r23_3.2 _ h
    · rw [if_neg (of_decide_eq_false hb)] at h
      refine go_ops aMi83 1 _ (f1 := (47, ([(0, .ref a0), (1, .ref a1)], [.ref a0]))) rfl ?_
      refine gg_gR (b := (a0 + 1)) aMi83 rfl rfl rfl (gR_of (sh8_z ha0) (sh8_r0 ha0)) ?_
      refine gg_gI aMi83 rfl rfl rfl (gI_of (sh2_z (sh8_s0 ha0))) ?_
      refine gg_br (b := decide (¬ ((r23_3.2) (a0 + 1) 8) = 0)) (tg := 66) (off := 13) aMi83 rfl rfl rfl rfl (fun hb => ?_) (fun hb => ?_)
      · rw [if_pos (of_decide_eq_true hb)] at h
        refine go_le (lv1 := [(0, .ref a0)]) (aLe_of (show (List.map (fun q => q.1) ([(0, .ref a0)] : ALv)).Nodup from (by show ([0] : List Nat).Nodup; decide)) (aSubL_cons rfl aSubL_nil)) ?_
        exact Tf83_b66 hd a0 ha0 a1 ha1 r23_3.2 _ h
      · rw [if_neg (of_decide_eq_false hb)] at h
        refine go_ops aMi83 1 _ (f1 := (57, ([(0, .ref a0), (1, .ref a1)], [.ref a0]))) rfl ?_
        refine gg_gR (b := (a0 + 1)) aMi83 rfl rfl rfl (gR_of (sh8_z ha0) (sh8_r0 ha0)) ?_
        refine gg_gI aMi83 rfl rfl rfl (gI_of (sh2_z (sh8_s0 ha0))) ?_
        refine gg_br (b := decide (((r23_3.2) (a0 + 1) 9) = 0)) (tg := 73) (off := 10) aMi83 rfl rfl rfl rfl (fun hb => ?_) (fun hb => ?_)
        · rw [if_pos (of_decide_eq_true hb)] at h
          refine go_le (lv1 := [(0, .ref a0)]) (aLe_of (show (List.map (fun q => q.1) ([(0, .ref a0)] : ALv)).Nodup from (by show ([0] : List Nat).Nodup; decide)) (aSubL_cons rfl aSubL_nil)) ?_
          exact Tf83_b73 hd a0 ha0 a1 ha1 r23_3.2 _ h
        · rw [if_neg (of_decide_eq_false hb)] at h
          refine go_le (lv1 := [(0, .ref a0)]) (aLe_of (show (List.map (fun q => q.1) ([(0, .ref a0)] : ALv)).Nodup from (by show ([0] : List Nat).Nodup; decide)) (aSubL_cons rfl aSubL_nil)) ?_
          exact Tf83_b66 hd a0 ha0 a1 ha1 r23_3.2 _ h
  · rw [if_neg (of_decide_eq_false hb)] at h
    refine go_ops aMi83 1 _ (f1 := (30, ([(0, .ref a0), (1, .ref a1)], [.ref a0]))) rfl ?_
    obtain ⟨r30_4, hxr30_4, h⟩ := Option.bind_eq_some_iff.mp h
    refine gg_cv (as := []) (r := []) aMi83 rfl rfl rfl aMi109 (Nat.le_of_ble_eq_true rfl) rfl (Nat.le_of_ble_eq_true rfl) (Nat.le_of_ble_eq_true rfl) (by omega) (isK_of (sh8_z ha0)) (Tf109 (by omega) a0 ha0 r23_3.2 _ hxr30_4) ?_
    show aGo kad d 83 (33, ([(0, .ref a0), (1, .ref a1)], [])) (aMem Z r30_4.2, t) _
    refine go_ops aMi83 1 _ (f1 := (77, ([(0, .ref a0), (1, .ref a1)], []))) rfl ?_
    refine go_le (lv1 := [(0, .ref a0)]) (aLe_of (show (List.map (fun q => q.1) ([(0, .ref a0)] : ALv)).Nodup from (by show ([0] : List Nat).Nodup; decide)) (aSubL_cons rfl aSubL_nil)) ?_
    exact Tf83_b77 hd a0 ha0 a1 ha1 r30_4.2 _ h
-- KernelGym$Machine.takeBack (LKernelGym$Kept;)V
def f84_b46 (kad : Nat → Nat) (N : Nat) (Z : AZ) (k7 : Nat → Nat → Int32 → AI → Option (Unit × AI)) (a0 : Nat) (a1 : Nat) (i2 : Int32) (I : AI) : Option (Unit × AI) :=
  k7 a0 a1 (i2 + (Int32.ofInt (-1))) I
set_option maxRecDepth 20000 in
theorem Tf84_b46 {kad : Nat → Nat} {N : Nat} {Z : AZ} {d : Nat} {t : Option Nat × (Nat × Nat)} (hd : 2 ≤ d) (k7 : Nat → Nat → Int32 → AI → Option (Unit × AI))  (hk7 : ∀ (a0 : Nat) (ha0 : sh8 kad Z a0) (a1 : Nat) (ha1 : sh5 kad Z a1) (i2 : Int32) (I : AI) (r : Unit × AI), k7 a0 a1 i2 I = some r → aGo kad d 84 (7, ([(0, .ref a0), (1, .ref a1), (2, .int i2)], [])) (aMem Z I, t) (qV Z t r)) : ∀ (a0 : Nat) (ha0 : sh8 kad Z a0) (a1 : Nat) (ha1 : sh5 kad Z a1) (i2 : Int32) (I : AI) (r : Unit × AI), f84_b46 kad N Z k7 a0 a1 i2 I = some r → aGo kad d 84 (46, ([(0, .ref a0), (1, .ref a1), (2, .int i2)], [])) (aMem Z I, t) (qV Z t r) := by
  intro a0 ha0 a1 ha1 i2 I r h
  unfold f84_b46 at h
  refine go_ops aMi84 2 _ (f1 := (7, ([(2, .int (i2 + (Int32.ofInt (-1)))), (0, .ref a0), (1, .ref a1)], []))) rfl ?_
  refine go_le (lv1 := [(0, .ref a0), (1, .ref a1), (2, .int (i2 + (Int32.ofInt (-1))))]) (aLe_of (show (List.map (fun q => q.1) ([(0, .ref a0), (1, .ref a1), (2, .int (i2 + (Int32.ofInt (-1))))] : ALv)).Nodup from (by show ([0, 1, 2] : List Nat).Nodup; decide)) (aSubL_cons rfl (aSubL_cons rfl (aSubL_cons rfl aSubL_nil)))) ?_
  exact hk7 a0 ha0 a1 ha1 (i2 + (Int32.ofInt (-1))) I _ h
def f84_b52 (kad : Nat → Nat) (N : Nat) (Z : AZ) (a0 : Nat) (a1 : Nat) (I : AI) : Option (Unit × AI) :=
  (f45 kad N Z (a0 + 8) (I a1 4) (a1 + 8) I).bind fun r64_1 =>
  (f38 kad N Z (a0 + 1) (a1 + 1) r64_1.2).bind fun r75_2 =>
  some ((), r75_2.2)
set_option maxRecDepth 20000 in
theorem Tf84_b52 {kad : Nat → Nat} {N : Nat} {Z : AZ} {d : Nat} {t : Option Nat × (Nat × Nat)} (hd : 2 ≤ d) : ∀ (a0 : Nat) (ha0 : sh8 kad Z a0) (a1 : Nat) (ha1 : sh5 kad Z a1) (I : AI) (r : Unit × AI), f84_b52 kad N Z a0 a1 I = some r → aGo kad d 84 (52, ([(0, .ref a0), (1, .ref a1)], [])) (aMem Z I, t) (qV Z t r) := by
  intro a0 ha0 a1 ha1 I r h
  unfold f84_b52 at h
  refine go_ops aMi84 1 _ (f1 := (53, ([(0, .ref a0), (1, .ref a1)], [.ref a0]))) rfl ?_
  refine gg_gR (b := (a0 + 8)) aMi84 rfl rfl rfl (gR_of (sh8_z ha0) (sh8_r3 ha0)) ?_
  refine go_ops aMi84 1 _ (f1 := (57, ([(0, .ref a0), (1, .ref a1)], [.ref a1, .ref (a0 + 8)]))) rfl ?_
  refine gg_gI aMi84 rfl rfl rfl (gI_of (sh5_z ha1)) ?_
  refine go_ops aMi84 1 _ (f1 := (61, ([(0, .ref a0), (1, .ref a1)], [.ref a1, .int (I a1 4), .ref (a0 + 8)]))) rfl ?_
  refine gg_gR (b := (a1 + 8)) aMi84 rfl rfl rfl (gR_of (sh5_z ha1) (sh5_r5 ha1)) ?_
  obtain ⟨r64_1, hxr64_1, h⟩ := Option.bind_eq_some_iff.mp h
  refine gg_cv (as := [.int (I a1 4), .ref (a1 + 8)]) (r := []) aMi84 rfl rfl rfl aMi45 (Nat.le_of_ble_eq_true rfl) rfl (Nat.le_of_ble_eq_true rfl) (Nat.le_of_ble_eq_true rfl) (by omega) (isK_of (sh3_z (sh8_s3 ha0))) (Tf45 (by omega) (a0 + 8) (sh8_s3 ha0) (I a1 4) (a1 + 8) I _ hxr64_1) ?_
  show aGo kad d 84 (67, ([(0, .ref a0), (1, .ref a1)], [])) (aMem Z r64_1.2, t) _
  refine go_ops aMi84 1 _ (f1 := (68, ([(0, .ref a0), (1, .ref a1)], [.ref a0]))) rfl ?_
  refine gg_gR (b := (a0 + 1)) aMi84 rfl rfl rfl (gR_of (sh8_z ha0) (sh8_r0 ha0)) ?_
  refine go_ops aMi84 1 _ (f1 := (72, ([(0, .ref a0), (1, .ref a1)], [.ref a1, .ref (a0 + 1)]))) rfl ?_
  refine gg_gR (b := (a1 + 1)) aMi84 rfl rfl rfl (gR_of (sh5_z ha1) (sh5_r0 ha1)) ?_
  obtain ⟨r75_2, hxr75_2, h⟩ := Option.bind_eq_some_iff.mp h
  refine gg_cv (as := [.ref (a1 + 1)]) (r := []) aMi84 rfl rfl rfl aMi38 (Nat.le_of_ble_eq_true rfl) rfl (Nat.le_of_ble_eq_true rfl) (Nat.le_of_ble_eq_true rfl) (by omega) (isK_of (sh2_z (sh8_s0 ha0))) (Tf38 (by omega) (a0 + 1) (sh8_s0 ha0) (a1 + 1) (sh5_s0 ha1) r64_1.2 _ hxr75_2) ?_
  show aGo kad d 84 (78, ([(0, .ref a0), (1, .ref a1)], [])) (aMem Z r75_2.2, t) _
  cases h
  exact go_ret aMi84 rfl rfl ⟨rfl, rfl⟩
def f84_b7 (kad : Nat → Nat) (N : Nat) (Z : AZ) : Nat → Nat → Nat → Int32 → AI → Option (Unit × AI)
  | 0, _, _, _, _ => none
  | F + 1, a0, a1, i2, I =>
    if i2 < 0 then
      f84_b52 kad N Z a0 a1 I
    else
      if (2 : Int32) ≤ i2 then
        f84_b52 kad N Z a0 a1 I
      else
        (ixA 2 i2).bind fun j21_1 =>
        if (I (a1 + 6) j21_1) < 0 then
          f84_b46 kad N Z (fun p0 p1 p2 I => f84_b7 kad N Z F p0 p1 p2 I) a0 a1 i2 I
        else
          if (256 : Int32) ≤ (I (a1 + 6) j21_1) then
            f84_b46 kad N Z (fun p0 p1 p2 I => f84_b7 kad N Z F p0 p1 p2 I) a0 a1 i2 I
          else
            (ixA 2 i2).bind fun j44_2 =>
            (ixA 256 (I (a1 + 6) j21_1)).bind fun j45_4 =>
            (wI I (a0 + 6) j45_4 (I (a1 + 7) j44_2)).bind fun I45_3 =>
            f84_b46 kad N Z (fun p0 p1 p2 I => f84_b7 kad N Z F p0 p1 p2 I) a0 a1 i2 I45_3
set_option maxRecDepth 20000 in
theorem Tf84_b7 {kad : Nat → Nat} {N : Nat} {Z : AZ} {d : Nat} {t : Option Nat × (Nat × Nat)} (hd : 2 ≤ d) : ∀ (F : Nat) (a0 : Nat) (ha0 : sh8 kad Z a0) (a1 : Nat) (ha1 : sh5 kad Z a1) (i2 : Int32) (I : AI) (r : Unit × AI), f84_b7 kad N Z F a0 a1 i2 I = some r → aGo kad d 84 (7, ([(0, .ref a0), (1, .ref a1), (2, .int i2)], [])) (aMem Z I, t) (qV Z t r) := by
  intro F
  induction F with
  | zero => intro a0 ha0 a1 ha1 i2 I r h; cases h
  | succ F ih =>
    intro a0 ha0 a1 ha1 i2 I r h
    unfold f84_b7 at h
    refine go_ops aMi84 1 _ (f1 := (8, ([(0, .ref a0), (1, .ref a1), (2, .int i2)], [.int i2]))) rfl ?_
    refine gg_br (b := decide (i2 < 0)) (tg := 52) (off := 44) aMi84 rfl rfl rfl rfl (fun hb => ?_) (fun hb => ?_)
    · rw [if_pos (of_decide_eq_true hb)] at h
      refine go_le (lv1 := [(0, .ref a0), (1, .ref a1)]) (aLe_of (show (List.map (fun q => q.1) ([(0, .ref a0), (1, .ref a1)] : ALv)).Nodup from (by show ([0, 1] : List Nat).Nodup; decide)) (aSubL_cons rfl (aSubL_cons rfl aSubL_nil))) ?_
      exact Tf84_b52 hd a0 ha0 a1 ha1 I _ h
    · rw [if_neg (of_decide_eq_false hb)] at h
      refine go_ops aMi84 2 _ (f1 := (13, ([(0, .ref a0), (1, .ref a1), (2, .int i2)], [.int (2 : Int32), .int i2]))) rfl ?_
      refine gg_br (b := decide ((2 : Int32) ≤ i2)) (tg := 52) (off := 39) aMi84 rfl rfl rfl rfl (fun hb => ?_) (fun hb => ?_)
      · rw [if_pos (of_decide_eq_true hb)] at h
        refine go_le (lv1 := [(0, .ref a0), (1, .ref a1)]) (aLe_of (show (List.map (fun q => q.1) ([(0, .ref a0), (1, .ref a1)] : ALv)).Nodup from (by show ([0, 1] : List Nat).Nodup; decide)) (aSubL_cons rfl (aSubL_cons rfl aSubL_nil))) ?_
        exact Tf84_b52 hd a0 ha0 a1 ha1 I _ h
      · rw [if_neg (of_decide_eq_false hb)] at h
        refine go_ops aMi84 1 _ (f1 := (17, ([(0, .ref a0), (1, .ref a1), (2, .int i2)], [.ref a1]))) rfl ?_
        refine gg_gR (b := (a1 + 6)) aMi84 rfl rfl rfl (gR_of (sh5_z ha1) (sh5_r2 ha1)) ?_
        refine go_ops aMi84 1 _ (f1 := (21, ([(0, .ref a0), (1, .ref a1), (2, .int i2)], [.int i2, .ref (a1 + 6)]))) rfl ?_
        obtain ⟨j21_1, hxj21_1, h⟩ := Option.bind_eq_some_iff.mp h
        refine gg_lI (Or.inl ⟨rfl, rfl⟩) aMi84 rfl (lI_of (sh5_a2 ha1) hxj21_1) ?_
        refine go_ops aMi84 2 _ (f1 := (24, ([(3, .int (I (a1 + 6) j21_1)), (0, .ref a0), (1, .ref a1), (2, .int i2)], [.int (I (a1 + 6) j21_1)]))) rfl ?_
        refine gg_br (b := decide ((I (a1 + 6) j21_1) < 0)) (tg := 46) (off := 22) aMi84 rfl rfl rfl rfl (fun hb => ?_) (fun hb => ?_)
        · rw [if_pos (of_decide_eq_true hb)] at h
          refine go_le (lv1 := [(0, .ref a0), (1, .ref a1), (2, .int i2)]) (aLe_of (show (List.map (fun q => q.1) ([(0, .ref a0), (1, .ref a1), (2, .int i2)] : ALv)).Nodup from (by show ([0, 1, 2] : List Nat).Nodup; decide)) (aSubL_cons rfl (aSubL_cons rfl (aSubL_cons rfl aSubL_nil)))) ?_
          exact Tf84_b46 hd (fun p0 p1 p2 I => f84_b7 kad N Z F p0 p1 p2 I) (fun p0 q0 p1 q1 p2 I r hh => ih p0 q0 p1 q1 p2 I r hh) a0 ha0 a1 ha1 i2 I _ h
        · rw [if_neg (of_decide_eq_false hb)] at h
          refine go_ops aMi84 2 _ (f1 := (31, ([(3, .int (I (a1 + 6) j21_1)), (0, .ref a0), (1, .ref a1), (2, .int i2)], [.int (256 : Int32), .int (I (a1 + 6) j21_1)]))) rfl ?_
          refine gg_br (b := decide ((256 : Int32) ≤ (I (a1 + 6) j21_1))) (tg := 46) (off := 15) aMi84 rfl rfl rfl rfl (fun hb => ?_) (fun hb => ?_)
          · rw [if_pos (of_decide_eq_true hb)] at h
            refine go_le (lv1 := [(0, .ref a0), (1, .ref a1), (2, .int i2)]) (aLe_of (show (List.map (fun q => q.1) ([(0, .ref a0), (1, .ref a1), (2, .int i2)] : ALv)).Nodup from (by show ([0, 1, 2] : List Nat).Nodup; decide)) (aSubL_cons rfl (aSubL_cons rfl (aSubL_cons rfl aSubL_nil)))) ?_
            exact Tf84_b46 hd (fun p0 p1 p2 I => f84_b7 kad N Z F p0 p1 p2 I) (fun p0 q0 p1 q1 p2 I r hh => ih p0 q0 p1 q1 p2 I r hh) a0 ha0 a1 ha1 i2 I _ h
          · rw [if_neg (of_decide_eq_false hb)] at h
            refine go_ops aMi84 1 _ (f1 := (35, ([(3, .int (I (a1 + 6) j21_1)), (0, .ref a0), (1, .ref a1), (2, .int i2)], [.ref a0]))) rfl ?_
            refine gg_gR (b := (a0 + 6)) aMi84 rfl rfl rfl (gR_of (sh8_z ha0) (sh8_r1 ha0)) ?_
            refine go_ops aMi84 2 _ (f1 := (40, ([(3, .int (I (a1 + 6) j21_1)), (0, .ref a0), (1, .ref a1), (2, .int i2)], [.ref a1, .int (I (a1 + 6) j21_1), .ref (a0 + 6)]))) rfl ?_
            refine gg_gR (b := (a1 + 7)) aMi84 rfl rfl rfl (gR_of (sh5_z ha1) (sh5_r3 ha1)) ?_
            refine go_ops aMi84 1 _ (f1 := (44, ([(3, .int (I (a1 + 6) j21_1)), (0, .ref a0), (1, .ref a1), (2, .int i2)], [.int i2, .ref (a1 + 7), .int (I (a1 + 6) j21_1), .ref (a0 + 6)]))) rfl ?_
            obtain ⟨j44_2, hxj44_2, h⟩ := Option.bind_eq_some_iff.mp h
            refine gg_lI (Or.inl ⟨rfl, rfl⟩) aMi84 rfl (lI_of (sh5_a3 ha1) hxj44_2) ?_
            obtain ⟨j45_4, hxj45_4, h⟩ := Option.bind_eq_some_iff.mp h
            obtain ⟨I45_3, hxI45_3, h⟩ := Option.bind_eq_some_iff.mp h
            refine gg_sI (Or.inl ⟨rfl, rfl⟩) aMi84 rfl (sI_of (sh8_a1 ha0) hxj45_4 hxI45_3) ?_
            refine go_le (lv1 := [(0, .ref a0), (1, .ref a1), (2, .int i2)]) (aLe_of (show (List.map (fun q => q.1) ([(0, .ref a0), (1, .ref a1), (2, .int i2)] : ALv)).Nodup from (by show ([0, 1, 2] : List Nat).Nodup; decide)) (aSubL_cons rfl (aSubL_cons rfl (aSubL_cons rfl aSubL_nil)))) ?_
            exact Tf84_b46 hd (fun p0 p1 p2 I => f84_b7 kad N Z F p0 p1 p2 I) (fun p0 q0 p1 q1 p2 I r hh => ih p0 q0 p1 q1 p2 I r hh) a0 ha0 a1 ha1 i2 I45_3 _ h
def f84 (kad : Nat → Nat) (N : Nat) (Z : AZ) (a0 : Nat) (a1 : Nat) (I : AI) : Option (Unit × AI) :=
  f84_b7 kad N Z N a0 a1 ((I a1 1) - (1 : Int32)) I
set_option maxRecDepth 20000 in
theorem Tf84 {kad : Nat → Nat} {N : Nat} {Z : AZ} {d : Nat} {t : Option Nat × (Nat × Nat)} (hd : 2 ≤ d) : ∀ (a0 : Nat) (ha0 : sh8 kad Z a0) (a1 : Nat) (ha1 : sh5 kad Z a1) (I : AI) (r : Unit × AI), f84 kad N Z a0 a1 I = some r → aGo kad d 84 (0, ([(0, .ref a0), (1, .ref a1)], [])) (aMem Z I, t) (qV Z t r) := by
  intro a0 ha0 a1 ha1 I r h
  unfold f84 at h
  refine go_ops aMi84 1 _ (f1 := (1, ([(0, .ref a0), (1, .ref a1)], [.ref a1]))) rfl ?_
  refine gg_gI aMi84 rfl rfl rfl (gI_of (sh5_z ha1)) ?_
  refine go_ops aMi84 3 _ (f1 := (7, ([(2, .int ((I a1 1) - (1 : Int32))), (0, .ref a0), (1, .ref a1)], []))) rfl ?_
  refine go_le (lv1 := [(0, .ref a0), (1, .ref a1), (2, .int ((I a1 1) - (1 : Int32)))]) (aLe_of (show (List.map (fun q => q.1) ([(0, .ref a0), (1, .ref a1), (2, .int ((I a1 1) - (1 : Int32)))] : ALv)).Nodup from (by show ([0, 1, 2] : List Nat).Nodup; decide)) (aSubL_cons rfl (aSubL_cons rfl (aSubL_cons rfl aSubL_nil)))) ?_
  exact Tf84_b7 hd N a0 ha0 a1 ha1 ((I a1 1) - (1 : Int32)) I _ h
-- KernelGym$Machine.hasOnTape ([II)Z
def f111_b52 (kad : Nat → Nat) (N : Nat) (Z : AZ) (a0 : Nat) (I : AI) : Option (Int32 × AI) :=
  some ((1 : Int32), I)
set_option maxRecDepth 20000 in
theorem Tf111_b52 {kad : Nat → Nat} {N : Nat} {Z : AZ} {d : Nat} {t : Option Nat × (Nat × Nat)} (hd : 0 ≤ d) : ∀ (a0 : Nat) (ha0 : sh8 kad Z a0) (I : AI) (r : Int32 × AI), f111_b52 kad N Z a0 I = some r → aGo kad d 111 (52, ([], [])) (aMem Z I, t) (qI Z t r) := by
  intro a0 ha0 I r h
  unfold f111_b52 at h
  refine go_ops aMi111 1 _ (f1 := (53, ([], [.int (1 : Int32)]))) rfl ?_
  cases h
  exact go_ret aMi111 rfl (aRetZ (Or.inr rfl)) ⟨rfl, rfl⟩
def f111_b15 (kad : Nat → Nat) (N : Nat) (Z : AZ) : Nat → Nat → Nat → Int32 → Int32 → AI → Option (Int32 × AI)
  | 0, _, _, _, _, _ => none
  | F + 1, a0, b1, i2, i3, I =>
    if i2 ≤ i3 then
      f111_b52 kad N Z a0 I
    else
      (nL Z b1).bind fun x22_1 =>
      if x22_1 ≤ i3 then
        f111_b52 kad N Z a0 I
      else
        if (60 : Int32) ≤ i3 then
          f111_b52 kad N Z a0 I
        else
          (ixA 60 i3).bind fun j37_2 =>
          (lI Z I 100 b1 i3).bind fun x40_3 =>
          if (I (a0 + 7) j37_2) = x40_3 then
            f111_b15 kad N Z F a0 b1 i2 (i3 + (1 : Int32)) I
          else
            some ((0 : Int32), I)
set_option maxRecDepth 20000 in
theorem Tf111_b15 {kad : Nat → Nat} {N : Nat} {Z : AZ} {d : Nat} {t : Option Nat × (Nat × Nat)} (hd : 0 ≤ d) : ∀ (F : Nat) (a0 : Nat) (ha0 : sh8 kad Z a0) (b1 : Nat) (i2 : Int32) (i3 : Int32) (I : AI) (r : Int32 × AI), f111_b15 kad N Z F a0 b1 i2 i3 I = some r → aGo kad d 111 (15, ([(0, .ref a0), (1, .ref b1), (2, .int i2), (3, .int i3)], [])) (aMem Z I, t) (qI Z t r) := by
  intro F
  induction F with
  | zero => intro a0 ha0 b1 i2 i3 I r h; cases h
  | succ F ih =>
    intro a0 ha0 b1 i2 i3 I r h
    unfold f111_b15 at h
    refine go_ops aMi111 2 _ (f1 := (17, ([(0, .ref a0), (1, .ref b1), (2, .int i2), (3, .int i3)], [.int i2, .int i3]))) rfl ?_
    refine gg_br (b := decide (i2 ≤ i3)) (tg := 52) (off := 35) aMi111 rfl rfl rfl rfl (fun hb => ?_) (fun hb => ?_)
    · rw [if_pos (of_decide_eq_true hb)] at h
      refine go_le (lv1 := []) (aLe_of (show (List.map (fun q => q.1) ([] : ALv)).Nodup from (by show ([] : List Nat).Nodup; decide)) aSubL_nil) ?_
      exact Tf111_b52 hd a0 ha0 I _ h
    · rw [if_neg (of_decide_eq_false hb)] at h
      refine go_ops aMi111 2 _ (f1 := (22, ([(0, .ref a0), (1, .ref b1), (2, .int i2), (3, .int i3)], [.ref b1, .int i3]))) rfl ?_
      obtain ⟨x22_1, hxx22_1, h⟩ := Option.bind_eq_some_iff.mp h
      refine gg_len aMi111 rfl hxx22_1 ?_
      refine gg_br (b := decide (x22_1 ≤ i3)) (tg := 52) (off := 29) aMi111 rfl rfl rfl rfl (fun hb => ?_) (fun hb => ?_)
      · rw [if_pos (of_decide_eq_true hb)] at h
        refine go_le (lv1 := []) (aLe_of (show (List.map (fun q => q.1) ([] : ALv)).Nodup from (by show ([] : List Nat).Nodup; decide)) aSubL_nil) ?_
        exact Tf111_b52 hd a0 ha0 I _ h
      · rw [if_neg (of_decide_eq_false hb)] at h
        refine go_ops aMi111 2 _ (f1 := (29, ([(0, .ref a0), (1, .ref b1), (2, .int i2), (3, .int i3)], [.int (60 : Int32), .int i3]))) rfl ?_
        refine gg_br (b := decide ((60 : Int32) ≤ i3)) (tg := 52) (off := 23) aMi111 rfl rfl rfl rfl (fun hb => ?_) (fun hb => ?_)
        · rw [if_pos (of_decide_eq_true hb)] at h
          refine go_le (lv1 := []) (aLe_of (show (List.map (fun q => q.1) ([] : ALv)).Nodup from (by show ([] : List Nat).Nodup; decide)) aSubL_nil) ?_
          exact Tf111_b52 hd a0 ha0 I _ h
        · rw [if_neg (of_decide_eq_false hb)] at h
          refine go_ops aMi111 1 _ (f1 := (33, ([(0, .ref a0), (1, .ref b1), (2, .int i2), (3, .int i3)], [.ref a0]))) rfl ?_
          refine gg_gR (b := (a0 + 7)) aMi111 rfl rfl rfl (gR_of (sh8_z ha0) (sh8_r2 ha0)) ?_
          refine go_ops aMi111 1 _ (f1 := (37, ([(0, .ref a0), (1, .ref b1), (2, .int i2), (3, .int i3)], [.int i3, .ref (a0 + 7)]))) rfl ?_
          obtain ⟨j37_2, hxj37_2, h⟩ := Option.bind_eq_some_iff.mp h
          refine gg_lI (Or.inl ⟨rfl, rfl⟩) aMi111 rfl (lI_of (sh8_a2 ha0) hxj37_2) ?_
          refine go_ops aMi111 2 _ (f1 := (40, ([(0, .ref a0), (1, .ref b1), (2, .int i2), (3, .int i3)], [.int i3, .ref b1, .int (I (a0 + 7) j37_2)]))) rfl ?_
          obtain ⟨x40_3, hxx40_3, h⟩ := Option.bind_eq_some_iff.mp h
          refine gg_lI (Or.inl ⟨rfl, rfl⟩) aMi111 rfl hxx40_3 ?_
          refine gg_br (b := decide ((I (a0 + 7) j37_2) = x40_3)) (tg := 46) (off := 5) aMi111 rfl rfl rfl rfl (fun hb => ?_) (fun hb => ?_)
          · rw [if_pos (of_decide_eq_true hb)] at h
            refine go_ops aMi111 2 _ (f1 := (15, ([(3, .int (i3 + (1 : Int32))), (0, .ref a0), (1, .ref b1), (2, .int i2)], []))) rfl ?_
            refine go_le (lv1 := [(0, .ref a0), (1, .ref b1), (2, .int i2), (3, .int (i3 + (1 : Int32)))]) (aLe_of (show (List.map (fun q => q.1) ([(0, .ref a0), (1, .ref b1), (2, .int i2), (3, .int (i3 + (1 : Int32)))] : ALv)).Nodup from (by show ([0, 1, 2, 3] : List Nat).Nodup; decide)) (aSubL_cons rfl (aSubL_cons rfl (aSubL_cons rfl (aSubL_cons rfl aSubL_nil))))) ?_
            exact ih a0 ha0 b1 i2 (i3 + (1 : Int32)) I _ h
          · rw [if_neg (of_decide_eq_false hb)] at h
            refine go_ops aMi111 1 _ (f1 := (45, ([(0, .ref a0), (1, .ref b1), (2, .int i2), (3, .int i3)], [.int (0 : Int32)]))) rfl ?_
            cases h
            exact go_ret aMi111 rfl (aRetZ (Or.inl rfl)) ⟨rfl, rfl⟩
def f111 (kad : Nat → Nat) (N : Nat) (Z : AZ) (a0 : Nat) (b1 : Nat) (i2 : Int32) (I : AI) : Option (Int32 × AI) :=
  if (I (a0 + 1) 12) = i2 then
    f111_b15 kad N Z N a0 b1 i2 (0 : Int32) I
  else
    some ((0 : Int32), I)
set_option maxRecDepth 20000 in
theorem Tf111 {kad : Nat → Nat} {N : Nat} {Z : AZ} {d : Nat} {t : Option Nat × (Nat × Nat)} (hd : 0 ≤ d) : ∀ (a0 : Nat) (ha0 : sh8 kad Z a0) (b1 : Nat) (i2 : Int32) (I : AI) (r : Int32 × AI), f111 kad N Z a0 b1 i2 I = some r → aGo kad d 111 (0, ([(0, .ref a0), (1, .ref b1), (2, .int i2)], [])) (aMem Z I, t) (qI Z t r) := by
  intro a0 ha0 b1 i2 I r h
  unfold f111 at h
  refine go_ops aMi111 1 _ (f1 := (1, ([(0, .ref a0), (1, .ref b1), (2, .int i2)], [.ref a0]))) rfl ?_
  refine gg_gR (b := (a0 + 1)) aMi111 rfl rfl rfl (gR_of (sh8_z ha0) (sh8_r0 ha0)) ?_
  refine gg_gI aMi111 rfl rfl rfl (gI_of (sh2_z (sh8_s0 ha0))) ?_
  refine go_ops aMi111 1 _ (f1 := (8, ([(0, .ref a0), (1, .ref b1), (2, .int i2)], [.int i2, .int (I (a0 + 1) 12)]))) rfl ?_
  refine gg_br (b := decide ((I (a0 + 1) 12) = i2)) (tg := 13) (off := 5) aMi111 rfl rfl rfl rfl (fun hb => ?_) (fun hb => ?_)
  · rw [if_pos (of_decide_eq_true hb)] at h
    refine go_ops aMi111 2 _ (f1 := (15, ([(3, .int (0 : Int32)), (0, .ref a0), (1, .ref b1), (2, .int i2)], []))) rfl ?_
    refine go_le (lv1 := [(0, .ref a0), (1, .ref b1), (2, .int i2), (3, .int (0 : Int32))]) (aLe_of (show (List.map (fun q => q.1) ([(0, .ref a0), (1, .ref b1), (2, .int i2), (3, .int (0 : Int32))] : ALv)).Nodup from (by show ([0, 1, 2, 3] : List Nat).Nodup; decide)) (aSubL_cons rfl (aSubL_cons rfl (aSubL_cons rfl (aSubL_cons rfl aSubL_nil))))) ?_
    exact Tf111_b15 hd N a0 ha0 b1 i2 (0 : Int32) I _ h
  · rw [if_neg (of_decide_eq_false hb)] at h
    refine go_ops aMi111 1 _ (f1 := (12, ([(0, .ref a0), (1, .ref b1), (2, .int i2)], [.int (0 : Int32)]))) rfl ?_
    cases h
    exact go_ret aMi111 rfl (aRetZ (Or.inl rfl)) ⟨rfl, rfl⟩
