-- KernelGymLaw.act (LKernelGym;I)I
def f185_b327 (kad : Nat → Nat) (N : Nat) (Z : AZ) (a0 : Nat) (s0 : Int32) (I : AI) : Option (Int32 × AI) :=
  some (s0, I)
set_option maxRecDepth 20000 in
theorem Tf185_b327 {kad : Nat → Nat} {N : Nat} {Z : AZ} {d : Nat} {t : Option Nat × (Nat × Nat)} (hd : 22 ≤ d) : ∀ (a0 : Nat) (ha0 : sh10 kad Z a0) (s0 : Int32) (I : AI) (r : Int32 × AI), f185_b327 kad N Z a0 s0 I = some r → aGo kad d 185 (327, ([], [.int s0])) (aMem Z I, t) (qLn (0) tvI Z t r) := by
  intro a0 ha0 s0 I r h
  unfold f185_b327 at h
  cases h
  exact go_ret aMi185 rfl aRetI (qLn_ret tB.refl)
def f185_b148 (kad : Nat → Nat) (N : Nat) (Z : AZ) (a0 : Nat) (s0 : Int32) (s1 : Int32) (s2 : Int32) (s3 : Int32) (s4 : Int32) (s5 : Int32) (I : AI) : Option (Int32 × AI) :=
  (f184 kad N Z s1 s0 I).bind fun r148_1 =>
  (fH0 kad N Z a0 s5 s4 s3 s2 r148_1.1 r148_1.2).bind fun r151_2 =>
  f185_b327 kad N Z a0 r151_2.1 r151_2.2
set_option maxRecDepth 20000 in
theorem Tf185_b148 {kad : Nat → Nat} {N : Nat} {Z : AZ} {d : Nat} {t : Option Nat × (Nat × Nat)} (hd : 22 ≤ d) : ∀ (a0 : Nat) (ha0 : sh10 kad Z a0) (s0 : Int32) (s1 : Int32) (s2 : Int32) (s3 : Int32) (s4 : Int32) (s5 : Int32) (I : AI) (r : Int32 × AI), f185_b148 kad N Z a0 s0 s1 s2 s3 s4 s5 I = some r → aGo kad d 185 (148, ([], [.int s0, .int s1, .int s2, .int s3, .int s4, .int s5, .ref a0])) (aMem Z I, t) (qLn (1) tvI Z t r) := by
  intro a0 ha0 s0 s1 s2 s3 s4 s5 I r h
  unfold f185_b148 at h
  obtain ⟨r148_1, hxr148_1, h⟩ := Option.bind_eq_some_iff.mp h
  refine gg_cs (as := [.int s1, .int s0]) (r := [.int s2, .int s3, .int s4, .int s5, .ref a0]) aMi185 rfl rfl rfl aMi184 rfl (Nat.le_of_ble_eq_true rfl) (Nat.le_of_ble_eq_true rfl) (by omega) (Tf184 (by omega) s1 s0 I _ hxr148_1) ?_
  show aGo kad d 185 (151, ([], [.int r148_1.1, .int s2, .int s3, .int s4, .int s5, .ref a0])) (aMem Z r148_1.2, t) _
  obtain ⟨r151_2, hxr151_2, h⟩ := Option.bind_eq_some_iff.mp h
  refine gg_hl (as := [.ref a0, .int s5, .int s4, .int s3, .int s2, .int r148_1.1]) (r := []) aMi185 rfl rfl rfl rfl rfl (Nat.le_of_ble_eq_true rfl) (Nat.le_of_ble_eq_true rfl) (by omega) (TH0 (by omega) a0 ha0 s5 s4 s3 s2 r148_1.1 r148_1.2 _ hxr151_2) (fun t151_2 ht151_2 => ?_)
  show aGo kad d 185 (154, ([], [.int r151_2.1])) (aMem Z r151_2.2, t151_2) _
  refine go_ops aMi185 1 _ (f1 := (327, ([], [.int r151_2.1]))) rfl ?_
  exact (Tf185_b327 hd a0 ha0 r151_2.1 r151_2.2 _ h).mono (fun _ _ hq => qLn_tr (tB.refl.tr ht151_2) (by omega) hq)
def f185_b211 (kad : Nat → Nat) (N : Nat) (Z : AZ) (a0 : Nat) (i4 : Int32) (s0 : Int32) (s1 : Int32) (s2 : Int32) (s3 : Int32) (I : AI) : Option (Int32 × AI) :=
  (fH0 kad N Z a0 s3 s2 s1 s0 i4 I).bind fun r213_1 =>
  f185_b327 kad N Z a0 r213_1.1 r213_1.2
set_option maxRecDepth 20000 in
theorem Tf185_b211 {kad : Nat → Nat} {N : Nat} {Z : AZ} {d : Nat} {t : Option Nat × (Nat × Nat)} (hd : 22 ≤ d) : ∀ (a0 : Nat) (ha0 : sh10 kad Z a0) (i4 : Int32) (s0 : Int32) (s1 : Int32) (s2 : Int32) (s3 : Int32) (I : AI) (r : Int32 × AI), f185_b211 kad N Z a0 i4 s0 s1 s2 s3 I = some r → aGo kad d 185 (211, ([(4, .int i4)], [.int s0, .int s1, .int s2, .int s3, .ref a0])) (aMem Z I, t) (qLn (1) tvI Z t r) := by
  intro a0 ha0 i4 s0 s1 s2 s3 I r h
  unfold f185_b211 at h
  refine go_ops aMi185 1 _ (f1 := (213, ([(4, .int i4)], [.int i4, .int s0, .int s1, .int s2, .int s3, .ref a0]))) rfl ?_
  obtain ⟨r213_1, hxr213_1, h⟩ := Option.bind_eq_some_iff.mp h
  refine gg_hl (as := [.ref a0, .int s3, .int s2, .int s1, .int s0, .int i4]) (r := []) aMi185 rfl rfl rfl rfl rfl (Nat.le_of_ble_eq_true rfl) (Nat.le_of_ble_eq_true rfl) (by omega) (TH0 (by omega) a0 ha0 s3 s2 s1 s0 i4 I _ hxr213_1) (fun t213_1 ht213_1 => ?_)
  show aGo kad d 185 (216, ([(4, .int i4)], [.int r213_1.1])) (aMem Z r213_1.2, t213_1) _
  refine go_ops aMi185 1 _ (f1 := (327, ([(4, .int i4)], [.int r213_1.1]))) rfl ?_
  refine go_le (lv1 := []) (aLe_of (show (List.map (fun q => q.1) ([] : ALv)).Nodup from (by show ([] : List Nat).Nodup; decide)) aSubL_nil) ?_
  exact (Tf185_b327 hd a0 ha0 r213_1.1 r213_1.2 _ h).mono (fun _ _ hq => qLn_tr (tB.refl.tr ht213_1) (by omega) hq)
def f185_b182 (kad : Nat → Nat) (N : Nat) (Z : AZ) (a0 : Nat) (i1 : Int32) (i2 : Int32) (i4 : Int32) (s0 : Int32) (s1 : Int32) (s2 : Int32) (I : AI) : Option (Int32 × AI) :=
  (f184 kad N Z s1 s0 I).bind fun r182_1 =>
  if i2 = 0 then
    f185_b211 kad N Z a0 i4 (0 : Int32) ((i1 >>> ((9 : Int32) &&& 31)) &&& (15 : Int32)) r182_1.1 s2 r182_1.2
  else
    (f184 kad N Z (i1 >>> ((6 : Int32) &&& 31)) (6 : Int32) r182_1.2).bind fun r202_2 =>
    f185_b211 kad N Z a0 i4 (r202_2.1 - (1 : Int32)) ((i1 >>> ((9 : Int32) &&& 31)) &&& (15 : Int32)) r182_1.1 s2 r202_2.2
set_option maxRecDepth 20000 in
theorem Tf185_b182 {kad : Nat → Nat} {N : Nat} {Z : AZ} {d : Nat} {t : Option Nat × (Nat × Nat)} (hd : 22 ≤ d) : ∀ (a0 : Nat) (ha0 : sh10 kad Z a0) (i1 : Int32) (i2 : Int32) (i4 : Int32) (s0 : Int32) (s1 : Int32) (s2 : Int32) (I : AI) (r : Int32 × AI), f185_b182 kad N Z a0 i1 i2 i4 s0 s1 s2 I = some r → aGo kad d 185 (182, ([(1, .int i1), (2, .int i2), (4, .int i4)], [.int s0, .int s1, .int s2, .ref a0])) (aMem Z I, t) (qLn (1) tvI Z t r) := by
  intro a0 ha0 i1 i2 i4 s0 s1 s2 I r h
  unfold f185_b182 at h
  obtain ⟨r182_1, hxr182_1, h⟩ := Option.bind_eq_some_iff.mp h
  refine gg_cs (as := [.int s1, .int s0]) (r := [.int s2, .ref a0]) aMi185 rfl rfl rfl aMi184 rfl (Nat.le_of_ble_eq_true rfl) (Nat.le_of_ble_eq_true rfl) (by omega) (Tf184 (by omega) s1 s0 I _ hxr182_1) ?_
  show aGo kad d 185 (185, ([(1, .int i1), (2, .int i2), (4, .int i4)], [.int r182_1.1, .int s2, .ref a0])) (aMem Z r182_1.2, t) _
  refine go_ops aMi185 6 _ (f1 := (193, ([(1, .int i1), (2, .int i2), (4, .int i4)], [.int i2, .int ((i1 >>> ((9 : Int32) &&& 31)) &&& (15 : Int32)), .int r182_1.1, .int s2, .ref a0]))) rfl ?_
  refine gg_br (b := decide (i2 = 0)) (tg := 210) (off := 17) aMi185 rfl rfl rfl rfl (fun hb => ?_) (fun hb => ?_)
  · rw [if_pos (of_decide_eq_true hb)] at h
    refine go_ops aMi185 1 _ (f1 := (211, ([(1, .int i1), (2, .int i2), (4, .int i4)], [.int (0 : Int32), .int ((i1 >>> ((9 : Int32) &&& 31)) &&& (15 : Int32)), .int r182_1.1, .int s2, .ref a0]))) rfl ?_
    refine go_le (lv1 := [(4, .int i4)]) (aLe_of (show (List.map (fun q => q.1) ([(4, .int i4)] : ALv)).Nodup from (by show ([4] : List Nat).Nodup; decide)) (aSubL_cons rfl aSubL_nil)) ?_
    exact (Tf185_b211 hd a0 ha0 i4 (0 : Int32) ((i1 >>> ((9 : Int32) &&& 31)) &&& (15 : Int32)) r182_1.1 s2 r182_1.2 _ h).mono (fun _ _ hq => qLn_tr tB.refl (by omega) hq)
  · rw [if_neg (of_decide_eq_false hb)] at h
    refine go_ops aMi185 4 _ (f1 := (202, ([(1, .int i1), (2, .int i2), (4, .int i4)], [.int (6 : Int32), .int (i1 >>> ((6 : Int32) &&& 31)), .int ((i1 >>> ((9 : Int32) &&& 31)) &&& (15 : Int32)), .int r182_1.1, .int s2, .ref a0]))) rfl ?_
    obtain ⟨r202_2, hxr202_2, h⟩ := Option.bind_eq_some_iff.mp h
    refine gg_cs (as := [.int (i1 >>> ((6 : Int32) &&& 31)), .int (6 : Int32)]) (r := [.int ((i1 >>> ((9 : Int32) &&& 31)) &&& (15 : Int32)), .int r182_1.1, .int s2, .ref a0]) aMi185 rfl rfl rfl aMi184 rfl (Nat.le_of_ble_eq_true rfl) (Nat.le_of_ble_eq_true rfl) (by omega) (Tf184 (by omega) (i1 >>> ((6 : Int32) &&& 31)) (6 : Int32) r182_1.2 _ hxr202_2) ?_
    show aGo kad d 185 (205, ([(1, .int i1), (2, .int i2), (4, .int i4)], [.int r202_2.1, .int ((i1 >>> ((9 : Int32) &&& 31)) &&& (15 : Int32)), .int r182_1.1, .int s2, .ref a0])) (aMem Z r202_2.2, t) _
    refine go_ops aMi185 3 _ (f1 := (211, ([(1, .int i1), (2, .int i2), (4, .int i4)], [.int (r202_2.1 - (1 : Int32)), .int ((i1 >>> ((9 : Int32) &&& 31)) &&& (15 : Int32)), .int r182_1.1, .int s2, .ref a0]))) rfl ?_
    refine go_le (lv1 := [(4, .int i4)]) (aLe_of (show (List.map (fun q => q.1) ([(4, .int i4)] : ALv)).Nodup from (by show ([4] : List Nat).Nodup; decide)) (aSubL_cons rfl aSubL_nil)) ?_
    exact (Tf185_b211 hd a0 ha0 i4 (r202_2.1 - (1 : Int32)) ((i1 >>> ((9 : Int32) &&& 31)) &&& (15 : Int32)) r182_1.1 s2 r202_2.2 _ h).mono (fun _ _ hq => qLn_tr tB.refl (by omega) hq)
def f185_b297 (kad : Nat → Nat) (N : Nat) (Z : AZ) (a0 : Nat) (i1 : Int32) (s0 : Int32) (s1 : Int32) (s2 : Int32) (I : AI) : Option (Int32 × AI) :=
  (f184 kad N Z (i1 >>> ((7 : Int32) &&& 31)) (9 : Int32) I).bind fun r304_1 =>
  (f184 kad N Z (i1 >>> ((10 : Int32) &&& 31)) (4 : Int32) r304_1.2).bind fun r312_2 =>
  (f184 kad N Z (i1 >>> ((8 : Int32) &&& 31)) (20 : Int32) r312_2.2).bind fun r321_3 =>
  (fH0 kad N Z a0 s2 (s1 + s0) r304_1.1 r312_2.1 r321_3.1 r321_3.2).bind fun r324_4 =>
  f185_b327 kad N Z a0 r324_4.1 r324_4.2
set_option maxRecDepth 20000 in
theorem Tf185_b297 {kad : Nat → Nat} {N : Nat} {Z : AZ} {d : Nat} {t : Option Nat × (Nat × Nat)} (hd : 22 ≤ d) : ∀ (a0 : Nat) (ha0 : sh10 kad Z a0) (i1 : Int32) (s0 : Int32) (s1 : Int32) (s2 : Int32) (I : AI) (r : Int32 × AI), f185_b297 kad N Z a0 i1 s0 s1 s2 I = some r → aGo kad d 185 (297, ([(1, .int i1)], [.int s0, .int s1, .int s2, .ref a0])) (aMem Z I, t) (qLn (1) tvI Z t r) := by
  intro a0 ha0 i1 s0 s1 s2 I r h
  unfold f185_b297 at h
  refine go_ops aMi185 5 _ (f1 := (304, ([(1, .int i1)], [.int (9 : Int32), .int (i1 >>> ((7 : Int32) &&& 31)), .int (s1 + s0), .int s2, .ref a0]))) rfl ?_
  obtain ⟨r304_1, hxr304_1, h⟩ := Option.bind_eq_some_iff.mp h
  refine gg_cs (as := [.int (i1 >>> ((7 : Int32) &&& 31)), .int (9 : Int32)]) (r := [.int (s1 + s0), .int s2, .ref a0]) aMi185 rfl rfl rfl aMi184 rfl (Nat.le_of_ble_eq_true rfl) (Nat.le_of_ble_eq_true rfl) (by omega) (Tf184 (by omega) (i1 >>> ((7 : Int32) &&& 31)) (9 : Int32) I _ hxr304_1) ?_
  show aGo kad d 185 (307, ([(1, .int i1)], [.int r304_1.1, .int (s1 + s0), .int s2, .ref a0])) (aMem Z r304_1.2, t) _
  refine go_ops aMi185 4 _ (f1 := (312, ([(1, .int i1)], [.int (4 : Int32), .int (i1 >>> ((10 : Int32) &&& 31)), .int r304_1.1, .int (s1 + s0), .int s2, .ref a0]))) rfl ?_
  obtain ⟨r312_2, hxr312_2, h⟩ := Option.bind_eq_some_iff.mp h
  refine gg_cs (as := [.int (i1 >>> ((10 : Int32) &&& 31)), .int (4 : Int32)]) (r := [.int r304_1.1, .int (s1 + s0), .int s2, .ref a0]) aMi185 rfl rfl rfl aMi184 rfl (Nat.le_of_ble_eq_true rfl) (Nat.le_of_ble_eq_true rfl) (by omega) (Tf184 (by omega) (i1 >>> ((10 : Int32) &&& 31)) (4 : Int32) r304_1.2 _ hxr312_2) ?_
  show aGo kad d 185 (315, ([(1, .int i1)], [.int r312_2.1, .int r304_1.1, .int (s1 + s0), .int s2, .ref a0])) (aMem Z r312_2.2, t) _
  refine go_ops aMi185 4 _ (f1 := (321, ([(1, .int i1)], [.int (20 : Int32), .int (i1 >>> ((8 : Int32) &&& 31)), .int r312_2.1, .int r304_1.1, .int (s1 + s0), .int s2, .ref a0]))) rfl ?_
  obtain ⟨r321_3, hxr321_3, h⟩ := Option.bind_eq_some_iff.mp h
  refine gg_cs (as := [.int (i1 >>> ((8 : Int32) &&& 31)), .int (20 : Int32)]) (r := [.int r312_2.1, .int r304_1.1, .int (s1 + s0), .int s2, .ref a0]) aMi185 rfl rfl rfl aMi184 rfl (Nat.le_of_ble_eq_true rfl) (Nat.le_of_ble_eq_true rfl) (by omega) (Tf184 (by omega) (i1 >>> ((8 : Int32) &&& 31)) (20 : Int32) r312_2.2 _ hxr321_3) ?_
  show aGo kad d 185 (324, ([(1, .int i1)], [.int r321_3.1, .int r312_2.1, .int r304_1.1, .int (s1 + s0), .int s2, .ref a0])) (aMem Z r321_3.2, t) _
  obtain ⟨r324_4, hxr324_4, h⟩ := Option.bind_eq_some_iff.mp h
  refine gg_hl (as := [.ref a0, .int s2, .int (s1 + s0), .int r304_1.1, .int r312_2.1, .int r321_3.1]) (r := []) aMi185 rfl rfl rfl rfl rfl (Nat.le_of_ble_eq_true rfl) (Nat.le_of_ble_eq_true rfl) (by omega) (TH0 (by omega) a0 ha0 s2 (s1 + s0) r304_1.1 r312_2.1 r321_3.1 r321_3.2 _ hxr324_4) (fun t324_4 ht324_4 => ?_)
  show aGo kad d 185 (327, ([(1, .int i1)], [.int r324_4.1])) (aMem Z r324_4.2, t324_4) _
  refine go_le (lv1 := []) (aLe_of (show (List.map (fun q => q.1) ([] : ALv)).Nodup from (by show ([] : List Nat).Nodup; decide)) aSubL_nil) ?_
  exact (Tf185_b327 hd a0 ha0 r324_4.1 r324_4.2 _ h).mono (fun _ _ hq => qLn_tr (tB.refl.tr ht324_4) (by omega) hq)
def f185_b282 (kad : Nat → Nat) (N : Nat) (Z : AZ) (a0 : Nat) (i1 : Int32) (i5 : Int32) (s0 : Int32) (s1 : Int32) (s2 : Int32) (I : AI) : Option (Int32 × AI) :=
  (f184 kad N Z s1 s0 I).bind fun r282_1 =>
  if ¬ i5 = (13 : Int32) then
    f185_b297 kad N Z a0 i1 (0 : Int32) r282_1.1 s2 r282_1.2
  else
    f185_b297 kad N Z a0 i1 (1 : Int32) r282_1.1 s2 r282_1.2
set_option maxRecDepth 20000 in
theorem Tf185_b282 {kad : Nat → Nat} {N : Nat} {Z : AZ} {d : Nat} {t : Option Nat × (Nat × Nat)} (hd : 22 ≤ d) : ∀ (a0 : Nat) (ha0 : sh10 kad Z a0) (i1 : Int32) (i5 : Int32) (s0 : Int32) (s1 : Int32) (s2 : Int32) (I : AI) (r : Int32 × AI), f185_b282 kad N Z a0 i1 i5 s0 s1 s2 I = some r → aGo kad d 185 (282, ([(1, .int i1), (5, .int i5)], [.int s0, .int s1, .int s2, .ref a0])) (aMem Z I, t) (qLn (1) tvI Z t r) := by
  intro a0 ha0 i1 i5 s0 s1 s2 I r h
  unfold f185_b282 at h
  obtain ⟨r282_1, hxr282_1, h⟩ := Option.bind_eq_some_iff.mp h
  refine gg_cs (as := [.int s1, .int s0]) (r := [.int s2, .ref a0]) aMi185 rfl rfl rfl aMi184 rfl (Nat.le_of_ble_eq_true rfl) (Nat.le_of_ble_eq_true rfl) (by omega) (Tf184 (by omega) s1 s0 I _ hxr282_1) ?_
  show aGo kad d 185 (285, ([(1, .int i1), (5, .int i5)], [.int r282_1.1, .int s2, .ref a0])) (aMem Z r282_1.2, t) _
  refine go_ops aMi185 2 _ (f1 := (289, ([(1, .int i1), (5, .int i5)], [.int (13 : Int32), .int i5, .int r282_1.1, .int s2, .ref a0]))) rfl ?_
  refine gg_br (b := decide (¬ i5 = (13 : Int32))) (tg := 296) (off := 7) aMi185 rfl rfl rfl rfl (fun hb => ?_) (fun hb => ?_)
  · rw [if_pos (of_decide_eq_true hb)] at h
    refine go_ops aMi185 1 _ (f1 := (297, ([(1, .int i1), (5, .int i5)], [.int (0 : Int32), .int r282_1.1, .int s2, .ref a0]))) rfl ?_
    refine go_le (lv1 := [(1, .int i1)]) (aLe_of (show (List.map (fun q => q.1) ([(1, .int i1)] : ALv)).Nodup from (by show ([1] : List Nat).Nodup; decide)) (aSubL_cons rfl aSubL_nil)) ?_
    exact (Tf185_b297 hd a0 ha0 i1 (0 : Int32) r282_1.1 s2 r282_1.2 _ h).mono (fun _ _ hq => qLn_tr tB.refl (by omega) hq)
  · rw [if_neg (of_decide_eq_false hb)] at h
    refine go_ops aMi185 2 _ (f1 := (297, ([(1, .int i1), (5, .int i5)], [.int (1 : Int32), .int r282_1.1, .int s2, .ref a0]))) rfl ?_
    refine go_le (lv1 := [(1, .int i1)]) (aLe_of (show (List.map (fun q => q.1) ([(1, .int i1)] : ALv)).Nodup from (by show ([1] : List Nat).Nodup; decide)) (aSubL_cons rfl aSubL_nil)) ?_
    exact (Tf185_b297 hd a0 ha0 i1 (1 : Int32) r282_1.1 s2 r282_1.2 _ h).mono (fun _ _ hq => qLn_tr tB.refl (by omega) hq)
def f185_b268 (kad : Nat → Nat) (N : Nat) (Z : AZ) (a0 : Nat) (i1 : Int32) (i2 : Int32) (i5 : Int32) (s0 : Int32) (I : AI) : Option (Int32 × AI) :=
  if i2 = 0 then
    f185_b282 kad N Z a0 i1 i5 (2 : Int32) (i1 >>> ((6 : Int32) &&& 31)) s0 I
  else
    f185_b282 kad N Z a0 i1 i5 (9 : Int32) (i1 >>> ((6 : Int32) &&& 31)) s0 I
set_option maxRecDepth 20000 in
theorem Tf185_b268 {kad : Nat → Nat} {N : Nat} {Z : AZ} {d : Nat} {t : Option Nat × (Nat × Nat)} (hd : 22 ≤ d) : ∀ (a0 : Nat) (ha0 : sh10 kad Z a0) (i1 : Int32) (i2 : Int32) (i5 : Int32) (s0 : Int32) (I : AI) (r : Int32 × AI), f185_b268 kad N Z a0 i1 i2 i5 s0 I = some r → aGo kad d 185 (268, ([(1, .int i1), (2, .int i2), (5, .int i5)], [.int s0, .ref a0])) (aMem Z I, t) (qLn (1) tvI Z t r) := by
  intro a0 ha0 i1 i2 i5 s0 I r h
  unfold f185_b268 at h
  refine go_ops aMi185 4 _ (f1 := (273, ([(1, .int i1), (2, .int i2), (5, .int i5)], [.int i2, .int (i1 >>> ((6 : Int32) &&& 31)), .int s0, .ref a0]))) rfl ?_
  refine gg_br (b := decide (i2 = 0)) (tg := 281) (off := 8) aMi185 rfl rfl rfl rfl (fun hb => ?_) (fun hb => ?_)
  · rw [if_pos (of_decide_eq_true hb)] at h
    refine go_ops aMi185 1 _ (f1 := (282, ([(1, .int i1), (2, .int i2), (5, .int i5)], [.int (2 : Int32), .int (i1 >>> ((6 : Int32) &&& 31)), .int s0, .ref a0]))) rfl ?_
    refine go_le (lv1 := [(1, .int i1), (5, .int i5)]) (aLe_of (show (List.map (fun q => q.1) ([(1, .int i1), (5, .int i5)] : ALv)).Nodup from (by show ([1, 5] : List Nat).Nodup; decide)) (aSubL_cons rfl (aSubL_cons rfl aSubL_nil))) ?_
    exact (Tf185_b282 hd a0 ha0 i1 i5 (2 : Int32) (i1 >>> ((6 : Int32) &&& 31)) s0 I _ h).mono (fun _ _ hq => qLn_tr tB.refl (by omega) hq)
  · rw [if_neg (of_decide_eq_false hb)] at h
    refine go_ops aMi185 2 _ (f1 := (282, ([(1, .int i1), (2, .int i2), (5, .int i5)], [.int (9 : Int32), .int (i1 >>> ((6 : Int32) &&& 31)), .int s0, .ref a0]))) rfl ?_
    refine go_le (lv1 := [(1, .int i1), (5, .int i5)]) (aLe_of (show (List.map (fun q => q.1) ([(1, .int i1), (5, .int i5)] : ALv)).Nodup from (by show ([1, 5] : List Nat).Nodup; decide)) (aSubL_cons rfl (aSubL_cons rfl aSubL_nil))) ?_
    exact (Tf185_b282 hd a0 ha0 i1 i5 (9 : Int32) (i1 >>> ((6 : Int32) &&& 31)) s0 I _ h).mono (fun _ _ hq => qLn_tr tB.refl (by omega) hq)
def f185_b74 (kad : Nat → Nat) (N : Nat) (Z : AZ) (a0 : Nat) (i1 : Int32) (i2 : Int32) (s0 : Int32) (I : AI) : Option (Int32 × AI) :=
  (f184 kad N Z (i1 >>> ((5 : Int32) &&& 31)) (16 : Int32) I).bind fun r81_1 =>
  if (6 : Int32) ≤ r81_1.1 then
    if (10 : Int32) ≤ r81_1.1 then
      if (12 : Int32) ≤ r81_1.1 then
        if (13 : Int32) ≤ r81_1.1 then
          if (14 : Int32) ≤ r81_1.1 then
            (f184 kad N Z (i1 >>> ((9 : Int32) &&& 31)) (3 : Int32) r81_1.2).bind fun r264_2 =>
            f185_b268 kad N Z a0 i1 i2 r81_1.1 ((5 : Int32) + r264_2.1) r264_2.2
          else
            (f184 kad N Z (i1 >>> ((9 : Int32) &&& 31)) (3 : Int32) r81_1.2).bind fun r251_3 =>
            f185_b268 kad N Z a0 i1 i2 r81_1.1 ((2 : Int32) + r251_3.1) r251_3.2
        else
          (f184 kad N Z (i1 >>> ((9 : Int32) &&& 31)) (2 : Int32) r81_1.2).bind fun r232_4 =>
          f185_b268 kad N Z a0 i1 i2 r81_1.1 r232_4.1 r232_4.2
      else
        if i2 = 0 then
          f185_b182 kad N Z a0 i1 i2 s0 (27 : Int32) (i1 >>> ((12 : Int32) &&& 31)) (8 : Int32) r81_1.2
        else
          f185_b182 kad N Z a0 i1 i2 s0 (29 : Int32) (i1 >>> ((12 : Int32) &&& 31)) (8 : Int32) r81_1.2
    else
      if i2 = 0 then
        f185_b148 kad N Z a0 (7 : Int32) (i1 >>> ((7 : Int32) &&& 31)) (0 : Int32) ((5 : Int32) * ((i1 >>> ((11 : Int32) &&& 31)) &&& (3 : Int32))) (26 : Int32) (8 : Int32) r81_1.2
      else
        f185_b148 kad N Z a0 (12 : Int32) (i1 >>> ((7 : Int32) &&& 31)) (0 : Int32) ((5 : Int32) * ((i1 >>> ((11 : Int32) &&& 31)) &&& (3 : Int32))) (26 : Int32) (8 : Int32) r81_1.2
  else
    (fH0 kad N Z a0 (8 : Int32) (1 : Int32) ((5 : Int32) * ((i1 >>> ((11 : Int32) &&& 31)) &&& (3 : Int32))) (0 : Int32) s0 r81_1.2).bind fun r112_5 =>
    f185_b327 kad N Z a0 r112_5.1 r112_5.2
set_option maxRecDepth 20000 in
theorem Tf185_b74 {kad : Nat → Nat} {N : Nat} {Z : AZ} {d : Nat} {t : Option Nat × (Nat × Nat)} (hd : 22 ≤ d) : ∀ (a0 : Nat) (ha0 : sh10 kad Z a0) (i1 : Int32) (i2 : Int32) (s0 : Int32) (I : AI) (r : Int32 × AI), f185_b74 kad N Z a0 i1 i2 s0 I = some r → aGo kad d 185 (74, ([(0, .ref a0), (1, .int i1), (2, .int i2)], [.int s0])) (aMem Z I, t) (qLn (1) tvI Z t r) := by
  intro a0 ha0 i1 i2 s0 I r h
  unfold f185_b74 at h
  refine go_ops aMi185 5 _ (f1 := (81, ([(4, .int s0), (0, .ref a0), (1, .int i1), (2, .int i2)], [.int (16 : Int32), .int (i1 >>> ((5 : Int32) &&& 31))]))) rfl ?_
  obtain ⟨r81_1, hxr81_1, h⟩ := Option.bind_eq_some_iff.mp h
  refine gg_cs (as := [.int (i1 >>> ((5 : Int32) &&& 31)), .int (16 : Int32)]) (r := []) aMi185 rfl rfl rfl aMi184 rfl (Nat.le_of_ble_eq_true rfl) (Nat.le_of_ble_eq_true rfl) (by omega) (Tf184 (by omega) (i1 >>> ((5 : Int32) &&& 31)) (16 : Int32) I _ hxr81_1) ?_
  show aGo kad d 185 (84, ([(4, .int s0), (0, .ref a0), (1, .int i1), (2, .int i2)], [.int r81_1.1])) (aMem Z r81_1.2, t) _
  refine go_ops aMi185 11 _ (f1 := (100, ([(6, .int ((5 : Int32) * ((i1 >>> ((11 : Int32) &&& 31)) &&& (3 : Int32)))), (5, .int r81_1.1), (4, .int s0), (0, .ref a0), (1, .int i1), (2, .int i2)], [.int (6 : Int32), .int r81_1.1]))) rfl ?_
  refine gg_br (b := decide ((6 : Int32) ≤ r81_1.1)) (tg := 118) (off := 18) aMi185 rfl rfl rfl rfl (fun hb => ?_) (fun hb => ?_)
  · rw [if_pos (of_decide_eq_true hb)] at h
    refine go_ops aMi185 2 _ (f1 := (122, ([(6, .int ((5 : Int32) * ((i1 >>> ((11 : Int32) &&& 31)) &&& (3 : Int32)))), (5, .int r81_1.1), (4, .int s0), (0, .ref a0), (1, .int i1), (2, .int i2)], [.int (10 : Int32), .int r81_1.1]))) rfl ?_
    refine gg_br (b := decide ((10 : Int32) ≤ r81_1.1)) (tg := 157) (off := 35) aMi185 rfl rfl rfl rfl (fun hb => ?_) (fun hb => ?_)
    · rw [if_pos (of_decide_eq_true hb)] at h
      refine go_ops aMi185 2 _ (f1 := (161, ([(6, .int ((5 : Int32) * ((i1 >>> ((11 : Int32) &&& 31)) &&& (3 : Int32)))), (5, .int r81_1.1), (4, .int s0), (0, .ref a0), (1, .int i1), (2, .int i2)], [.int (12 : Int32), .int r81_1.1]))) rfl ?_
      refine gg_br (b := decide ((12 : Int32) ≤ r81_1.1)) (tg := 219) (off := 58) aMi185 rfl rfl rfl rfl (fun hb => ?_) (fun hb => ?_)
      · rw [if_pos (of_decide_eq_true hb)] at h
        refine go_ops aMi185 3 _ (f1 := (224, ([(6, .int ((5 : Int32) * ((i1 >>> ((11 : Int32) &&& 31)) &&& (3 : Int32)))), (5, .int r81_1.1), (4, .int s0), (0, .ref a0), (1, .int i1), (2, .int i2)], [.int (13 : Int32), .int r81_1.1, .ref a0]))) rfl ?_
        refine gg_br (b := decide ((13 : Int32) ≤ r81_1.1)) (tg := 238) (off := 14) aMi185 rfl rfl rfl rfl (fun hb => ?_) (fun hb => ?_)
        · rw [if_pos (of_decide_eq_true hb)] at h
          refine go_ops aMi185 2 _ (f1 := (242, ([(6, .int ((5 : Int32) * ((i1 >>> ((11 : Int32) &&& 31)) &&& (3 : Int32)))), (5, .int r81_1.1), (4, .int s0), (0, .ref a0), (1, .int i1), (2, .int i2)], [.int (14 : Int32), .int r81_1.1, .ref a0]))) rfl ?_
          refine gg_br (b := decide ((14 : Int32) ≤ r81_1.1)) (tg := 258) (off := 16) aMi185 rfl rfl rfl rfl (fun hb => ?_) (fun hb => ?_)
          · rw [if_pos (of_decide_eq_true hb)] at h
            refine go_ops aMi185 5 _ (f1 := (264, ([(6, .int ((5 : Int32) * ((i1 >>> ((11 : Int32) &&& 31)) &&& (3 : Int32)))), (5, .int r81_1.1), (4, .int s0), (0, .ref a0), (1, .int i1), (2, .int i2)], [.int (3 : Int32), .int (i1 >>> ((9 : Int32) &&& 31)), .int (5 : Int32), .ref a0]))) rfl ?_
            obtain ⟨r264_2, hxr264_2, h⟩ := Option.bind_eq_some_iff.mp h
            refine gg_cs (as := [.int (i1 >>> ((9 : Int32) &&& 31)), .int (3 : Int32)]) (r := [.int (5 : Int32), .ref a0]) aMi185 rfl rfl rfl aMi184 rfl (Nat.le_of_ble_eq_true rfl) (Nat.le_of_ble_eq_true rfl) (by omega) (Tf184 (by omega) (i1 >>> ((9 : Int32) &&& 31)) (3 : Int32) r81_1.2 _ hxr264_2) ?_
            show aGo kad d 185 (267, ([(6, .int ((5 : Int32) * ((i1 >>> ((11 : Int32) &&& 31)) &&& (3 : Int32)))), (5, .int r81_1.1), (4, .int s0), (0, .ref a0), (1, .int i1), (2, .int i2)], [.int r264_2.1, .int (5 : Int32), .ref a0])) (aMem Z r264_2.2, t) _
            refine go_ops aMi185 1 _ (f1 := (268, ([(6, .int ((5 : Int32) * ((i1 >>> ((11 : Int32) &&& 31)) &&& (3 : Int32)))), (5, .int r81_1.1), (4, .int s0), (0, .ref a0), (1, .int i1), (2, .int i2)], [.int ((5 : Int32) + r264_2.1), .ref a0]))) rfl ?_
            refine go_le (lv1 := [(1, .int i1), (2, .int i2), (5, .int r81_1.1)]) (aLe_of (show (List.map (fun q => q.1) ([(1, .int i1), (2, .int i2), (5, .int r81_1.1)] : ALv)).Nodup from (by show ([1, 2, 5] : List Nat).Nodup; decide)) (aSubL_cons rfl (aSubL_cons rfl (aSubL_cons rfl aSubL_nil)))) ?_
            exact (Tf185_b268 hd a0 ha0 i1 i2 r81_1.1 ((5 : Int32) + r264_2.1) r264_2.2 _ h).mono (fun _ _ hq => qLn_tr tB.refl (by omega) hq)
          · rw [if_neg (of_decide_eq_false hb)] at h
            refine go_ops aMi185 5 _ (f1 := (251, ([(6, .int ((5 : Int32) * ((i1 >>> ((11 : Int32) &&& 31)) &&& (3 : Int32)))), (5, .int r81_1.1), (4, .int s0), (0, .ref a0), (1, .int i1), (2, .int i2)], [.int (3 : Int32), .int (i1 >>> ((9 : Int32) &&& 31)), .int (2 : Int32), .ref a0]))) rfl ?_
            obtain ⟨r251_3, hxr251_3, h⟩ := Option.bind_eq_some_iff.mp h
            refine gg_cs (as := [.int (i1 >>> ((9 : Int32) &&& 31)), .int (3 : Int32)]) (r := [.int (2 : Int32), .ref a0]) aMi185 rfl rfl rfl aMi184 rfl (Nat.le_of_ble_eq_true rfl) (Nat.le_of_ble_eq_true rfl) (by omega) (Tf184 (by omega) (i1 >>> ((9 : Int32) &&& 31)) (3 : Int32) r81_1.2 _ hxr251_3) ?_
            show aGo kad d 185 (254, ([(6, .int ((5 : Int32) * ((i1 >>> ((11 : Int32) &&& 31)) &&& (3 : Int32)))), (5, .int r81_1.1), (4, .int s0), (0, .ref a0), (1, .int i1), (2, .int i2)], [.int r251_3.1, .int (2 : Int32), .ref a0])) (aMem Z r251_3.2, t) _
            refine go_ops aMi185 2 _ (f1 := (268, ([(6, .int ((5 : Int32) * ((i1 >>> ((11 : Int32) &&& 31)) &&& (3 : Int32)))), (5, .int r81_1.1), (4, .int s0), (0, .ref a0), (1, .int i1), (2, .int i2)], [.int ((2 : Int32) + r251_3.1), .ref a0]))) rfl ?_
            refine go_le (lv1 := [(1, .int i1), (2, .int i2), (5, .int r81_1.1)]) (aLe_of (show (List.map (fun q => q.1) ([(1, .int i1), (2, .int i2), (5, .int r81_1.1)] : ALv)).Nodup from (by show ([1, 2, 5] : List Nat).Nodup; decide)) (aSubL_cons rfl (aSubL_cons rfl (aSubL_cons rfl aSubL_nil)))) ?_
            exact (Tf185_b268 hd a0 ha0 i1 i2 r81_1.1 ((2 : Int32) + r251_3.1) r251_3.2 _ h).mono (fun _ _ hq => qLn_tr tB.refl (by omega) hq)
        · rw [if_neg (of_decide_eq_false hb)] at h
          refine go_ops aMi185 4 _ (f1 := (232, ([(6, .int ((5 : Int32) * ((i1 >>> ((11 : Int32) &&& 31)) &&& (3 : Int32)))), (5, .int r81_1.1), (4, .int s0), (0, .ref a0), (1, .int i1), (2, .int i2)], [.int (2 : Int32), .int (i1 >>> ((9 : Int32) &&& 31)), .ref a0]))) rfl ?_
          obtain ⟨r232_4, hxr232_4, h⟩ := Option.bind_eq_some_iff.mp h
          refine gg_cs (as := [.int (i1 >>> ((9 : Int32) &&& 31)), .int (2 : Int32)]) (r := [.ref a0]) aMi185 rfl rfl rfl aMi184 rfl (Nat.le_of_ble_eq_true rfl) (Nat.le_of_ble_eq_true rfl) (by omega) (Tf184 (by omega) (i1 >>> ((9 : Int32) &&& 31)) (2 : Int32) r81_1.2 _ hxr232_4) ?_
          show aGo kad d 185 (235, ([(6, .int ((5 : Int32) * ((i1 >>> ((11 : Int32) &&& 31)) &&& (3 : Int32)))), (5, .int r81_1.1), (4, .int s0), (0, .ref a0), (1, .int i1), (2, .int i2)], [.int r232_4.1, .ref a0])) (aMem Z r232_4.2, t) _
          refine go_ops aMi185 1 _ (f1 := (268, ([(6, .int ((5 : Int32) * ((i1 >>> ((11 : Int32) &&& 31)) &&& (3 : Int32)))), (5, .int r81_1.1), (4, .int s0), (0, .ref a0), (1, .int i1), (2, .int i2)], [.int r232_4.1, .ref a0]))) rfl ?_
          refine go_le (lv1 := [(1, .int i1), (2, .int i2), (5, .int r81_1.1)]) (aLe_of (show (List.map (fun q => q.1) ([(1, .int i1), (2, .int i2), (5, .int r81_1.1)] : ALv)).Nodup from (by show ([1, 2, 5] : List Nat).Nodup; decide)) (aSubL_cons rfl (aSubL_cons rfl (aSubL_cons rfl aSubL_nil)))) ?_
          exact (Tf185_b268 hd a0 ha0 i1 i2 r81_1.1 r232_4.1 r232_4.2 _ h).mono (fun _ _ hq => qLn_tr tB.refl (by omega) hq)
      · rw [if_neg (of_decide_eq_false hb)] at h
        refine go_ops aMi185 6 _ (f1 := (172, ([(6, .int ((5 : Int32) * ((i1 >>> ((11 : Int32) &&& 31)) &&& (3 : Int32)))), (5, .int r81_1.1), (4, .int s0), (0, .ref a0), (1, .int i1), (2, .int i2)], [.int i2, .int (i1 >>> ((12 : Int32) &&& 31)), .int (8 : Int32), .ref a0]))) rfl ?_
        refine gg_br (b := decide (i2 = 0)) (tg := 180) (off := 8) aMi185 rfl rfl rfl rfl (fun hb => ?_) (fun hb => ?_)
        · rw [if_pos (of_decide_eq_true hb)] at h
          refine go_ops aMi185 1 _ (f1 := (182, ([(6, .int ((5 : Int32) * ((i1 >>> ((11 : Int32) &&& 31)) &&& (3 : Int32)))), (5, .int r81_1.1), (4, .int s0), (0, .ref a0), (1, .int i1), (2, .int i2)], [.int (27 : Int32), .int (i1 >>> ((12 : Int32) &&& 31)), .int (8 : Int32), .ref a0]))) rfl ?_
          refine go_le (lv1 := [(1, .int i1), (2, .int i2), (4, .int s0)]) (aLe_of (show (List.map (fun q => q.1) ([(1, .int i1), (2, .int i2), (4, .int s0)] : ALv)).Nodup from (by show ([1, 2, 4] : List Nat).Nodup; decide)) (aSubL_cons rfl (aSubL_cons rfl (aSubL_cons rfl aSubL_nil)))) ?_
          exact (Tf185_b182 hd a0 ha0 i1 i2 s0 (27 : Int32) (i1 >>> ((12 : Int32) &&& 31)) (8 : Int32) r81_1.2 _ h).mono (fun _ _ hq => qLn_tr tB.refl (by omega) hq)
        · rw [if_neg (of_decide_eq_false hb)] at h
          refine go_ops aMi185 2 _ (f1 := (182, ([(6, .int ((5 : Int32) * ((i1 >>> ((11 : Int32) &&& 31)) &&& (3 : Int32)))), (5, .int r81_1.1), (4, .int s0), (0, .ref a0), (1, .int i1), (2, .int i2)], [.int (29 : Int32), .int (i1 >>> ((12 : Int32) &&& 31)), .int (8 : Int32), .ref a0]))) rfl ?_
          refine go_le (lv1 := [(1, .int i1), (2, .int i2), (4, .int s0)]) (aLe_of (show (List.map (fun q => q.1) ([(1, .int i1), (2, .int i2), (4, .int s0)] : ALv)).Nodup from (by show ([1, 2, 4] : List Nat).Nodup; decide)) (aSubL_cons rfl (aSubL_cons rfl (aSubL_cons rfl aSubL_nil)))) ?_
          exact (Tf185_b182 hd a0 ha0 i1 i2 s0 (29 : Int32) (i1 >>> ((12 : Int32) &&& 31)) (8 : Int32) r81_1.2 _ h).mono (fun _ _ hq => qLn_tr tB.refl (by omega) hq)
    · rw [if_neg (of_decide_eq_false hb)] at h
      refine go_ops aMi185 9 _ (f1 := (138, ([(6, .int ((5 : Int32) * ((i1 >>> ((11 : Int32) &&& 31)) &&& (3 : Int32)))), (5, .int r81_1.1), (4, .int s0), (0, .ref a0), (1, .int i1), (2, .int i2)], [.int i2, .int (i1 >>> ((7 : Int32) &&& 31)), .int (0 : Int32), .int ((5 : Int32) * ((i1 >>> ((11 : Int32) &&& 31)) &&& (3 : Int32))), .int (26 : Int32), .int (8 : Int32), .ref a0]))) rfl ?_
      refine gg_br (b := decide (i2 = 0)) (tg := 146) (off := 8) aMi185 rfl rfl rfl rfl (fun hb => ?_) (fun hb => ?_)
      · rw [if_pos (of_decide_eq_true hb)] at h
        refine go_ops aMi185 1 _ (f1 := (148, ([(6, .int ((5 : Int32) * ((i1 >>> ((11 : Int32) &&& 31)) &&& (3 : Int32)))), (5, .int r81_1.1), (4, .int s0), (0, .ref a0), (1, .int i1), (2, .int i2)], [.int (7 : Int32), .int (i1 >>> ((7 : Int32) &&& 31)), .int (0 : Int32), .int ((5 : Int32) * ((i1 >>> ((11 : Int32) &&& 31)) &&& (3 : Int32))), .int (26 : Int32), .int (8 : Int32), .ref a0]))) rfl ?_
        refine go_le (lv1 := []) (aLe_of (show (List.map (fun q => q.1) ([] : ALv)).Nodup from (by show ([] : List Nat).Nodup; decide)) aSubL_nil) ?_
        exact (Tf185_b148 hd a0 ha0 (7 : Int32) (i1 >>> ((7 : Int32) &&& 31)) (0 : Int32) ((5 : Int32) * ((i1 >>> ((11 : Int32) &&& 31)) &&& (3 : Int32))) (26 : Int32) (8 : Int32) r81_1.2 _ h).mono (fun _ _ hq => qLn_tr tB.refl (by omega) hq)
      · rw [if_neg (of_decide_eq_false hb)] at h
        refine go_ops aMi185 2 _ (f1 := (148, ([(6, .int ((5 : Int32) * ((i1 >>> ((11 : Int32) &&& 31)) &&& (3 : Int32)))), (5, .int r81_1.1), (4, .int s0), (0, .ref a0), (1, .int i1), (2, .int i2)], [.int (12 : Int32), .int (i1 >>> ((7 : Int32) &&& 31)), .int (0 : Int32), .int ((5 : Int32) * ((i1 >>> ((11 : Int32) &&& 31)) &&& (3 : Int32))), .int (26 : Int32), .int (8 : Int32), .ref a0]))) rfl ?_
        refine go_le (lv1 := []) (aLe_of (show (List.map (fun q => q.1) ([] : ALv)).Nodup from (by show ([] : List Nat).Nodup; decide)) aSubL_nil) ?_
        exact (Tf185_b148 hd a0 ha0 (12 : Int32) (i1 >>> ((7 : Int32) &&& 31)) (0 : Int32) ((5 : Int32) * ((i1 >>> ((11 : Int32) &&& 31)) &&& (3 : Int32))) (26 : Int32) (8 : Int32) r81_1.2 _ h).mono (fun _ _ hq => qLn_tr tB.refl (by omega) hq)
  · rw [if_neg (of_decide_eq_false hb)] at h
    refine go_ops aMi185 6 _ (f1 := (112, ([(6, .int ((5 : Int32) * ((i1 >>> ((11 : Int32) &&& 31)) &&& (3 : Int32)))), (5, .int r81_1.1), (4, .int s0), (0, .ref a0), (1, .int i1), (2, .int i2)], [.int s0, .int (0 : Int32), .int ((5 : Int32) * ((i1 >>> ((11 : Int32) &&& 31)) &&& (3 : Int32))), .int (1 : Int32), .int (8 : Int32), .ref a0]))) rfl ?_
    obtain ⟨r112_5, hxr112_5, h⟩ := Option.bind_eq_some_iff.mp h
    refine gg_hl (as := [.ref a0, .int (8 : Int32), .int (1 : Int32), .int ((5 : Int32) * ((i1 >>> ((11 : Int32) &&& 31)) &&& (3 : Int32))), .int (0 : Int32), .int s0]) (r := []) aMi185 rfl rfl rfl rfl rfl (Nat.le_of_ble_eq_true rfl) (Nat.le_of_ble_eq_true rfl) (by omega) (TH0 (by omega) a0 ha0 (8 : Int32) (1 : Int32) ((5 : Int32) * ((i1 >>> ((11 : Int32) &&& 31)) &&& (3 : Int32))) (0 : Int32) s0 r81_1.2 _ hxr112_5) (fun t112_5 ht112_5 => ?_)
    show aGo kad d 185 (115, ([(6, .int ((5 : Int32) * ((i1 >>> ((11 : Int32) &&& 31)) &&& (3 : Int32)))), (5, .int r81_1.1), (4, .int s0), (0, .ref a0), (1, .int i1), (2, .int i2)], [.int r112_5.1])) (aMem Z r112_5.2, t112_5) _
    refine go_ops aMi185 1 _ (f1 := (327, ([(6, .int ((5 : Int32) * ((i1 >>> ((11 : Int32) &&& 31)) &&& (3 : Int32)))), (5, .int r81_1.1), (4, .int s0), (0, .ref a0), (1, .int i1), (2, .int i2)], [.int r112_5.1]))) rfl ?_
    refine go_le (lv1 := []) (aLe_of (show (List.map (fun q => q.1) ([] : ALv)).Nodup from (by show ([] : List Nat).Nodup; decide)) aSubL_nil) ?_
    exact (Tf185_b327 hd a0 ha0 r112_5.1 r112_5.2 _ h).mono (fun _ _ hq => qLn_tr (tB.refl.tr ht112_5) (by omega) hq)
def f185_b71 (kad : Nat → Nat) (N : Nat) (Z : AZ) (a0 : Nat) (i1 : Int32) (i2 : Int32) (s0 : Int32) (s1 : Int32) (I : AI) : Option (Int32 × AI) :=
  (f184 kad N Z s1 s0 I).bind fun r71_1 =>
  f185_b74 kad N Z a0 i1 i2 r71_1.1 r71_1.2
set_option maxRecDepth 20000 in
theorem Tf185_b71 {kad : Nat → Nat} {N : Nat} {Z : AZ} {d : Nat} {t : Option Nat × (Nat × Nat)} (hd : 22 ≤ d) : ∀ (a0 : Nat) (ha0 : sh10 kad Z a0) (i1 : Int32) (i2 : Int32) (s0 : Int32) (s1 : Int32) (I : AI) (r : Int32 × AI), f185_b71 kad N Z a0 i1 i2 s0 s1 I = some r → aGo kad d 185 (71, ([(0, .ref a0), (1, .int i1), (2, .int i2)], [.int s0, .int s1])) (aMem Z I, t) (qLn (1) tvI Z t r) := by
  intro a0 ha0 i1 i2 s0 s1 I r h
  unfold f185_b71 at h
  obtain ⟨r71_1, hxr71_1, h⟩ := Option.bind_eq_some_iff.mp h
  refine gg_cs (as := [.int s1, .int s0]) (r := []) aMi185 rfl rfl rfl aMi184 rfl (Nat.le_of_ble_eq_true rfl) (Nat.le_of_ble_eq_true rfl) (by omega) (Tf184 (by omega) s1 s0 I _ hxr71_1) ?_
  show aGo kad d 185 (74, ([(0, .ref a0), (1, .int i1), (2, .int i2)], [.int r71_1.1])) (aMem Z r71_1.2, t) _
  exact (Tf185_b74 hd a0 ha0 i1 i2 r71_1.1 r71_1.2 _ h).mono (fun _ _ hq => qLn_tr tB.refl (by omega) hq)
def f185_b443 (kad : Nat → Nat) (N : Nat) (Z : AZ) (a0 : Nat) (s0 : Int32) (I : AI) : Option (Int32 × AI) :=
  some (s0, I)
set_option maxRecDepth 20000 in
theorem Tf185_b443 {kad : Nat → Nat} {N : Nat} {Z : AZ} {d : Nat} {t : Option Nat × (Nat × Nat)} (hd : 22 ≤ d) : ∀ (a0 : Nat) (ha0 : sh10 kad Z a0) (s0 : Int32) (I : AI) (r : Int32 × AI), f185_b443 kad N Z a0 s0 I = some r → aGo kad d 185 (443, ([], [.int s0])) (aMem Z I, t) (qLn (0) tvI Z t r) := by
  intro a0 ha0 s0 I r h
  unfold f185_b443 at h
  cases h
  exact go_ret aMi185 rfl aRetI (qLn_ret tB.refl)
def f185_b373 (kad : Nat → Nat) (N : Nat) (Z : AZ) (a0 : Nat) (s0 : Int32) (s1 : Int32) (I : AI) : Option (Int32 × AI) :=
  (fH1 kad N Z a0 s1 s0 (0 : Int32) (0 : Int32) (0 : Int32) I).bind fun r376_1 =>
  f185_b443 kad N Z a0 r376_1.1 r376_1.2
set_option maxRecDepth 20000 in
theorem Tf185_b373 {kad : Nat → Nat} {N : Nat} {Z : AZ} {d : Nat} {t : Option Nat × (Nat × Nat)} (hd : 22 ≤ d) : ∀ (a0 : Nat) (ha0 : sh10 kad Z a0) (s0 : Int32) (s1 : Int32) (I : AI) (r : Int32 × AI), f185_b373 kad N Z a0 s0 s1 I = some r → aGo kad d 185 (373, ([], [.int s0, .int s1, .ref a0])) (aMem Z I, t) (qLn (1) tvI Z t r) := by
  intro a0 ha0 s0 s1 I r h
  unfold f185_b373 at h
  refine go_ops aMi185 3 _ (f1 := (376, ([], [.int (0 : Int32), .int (0 : Int32), .int (0 : Int32), .int s0, .int s1, .ref a0]))) rfl ?_
  obtain ⟨r376_1, hxr376_1, h⟩ := Option.bind_eq_some_iff.mp h
  refine gg_hl (as := [.ref a0, .int s1, .int s0, .int (0 : Int32), .int (0 : Int32), .int (0 : Int32)]) (r := []) aMi185 rfl rfl rfl rfl rfl (Nat.le_of_ble_eq_true rfl) (Nat.le_of_ble_eq_true rfl) (by omega) (TH1 (by omega) a0 ha0 s1 s0 (0 : Int32) (0 : Int32) (0 : Int32) I _ hxr376_1) (fun t376_1 ht376_1 => ?_)
  show aGo kad d 185 (379, ([], [.int r376_1.1])) (aMem Z r376_1.2, t376_1) _
  refine go_ops aMi185 1 _ (f1 := (443, ([], [.int r376_1.1]))) rfl ?_
  exact (Tf185_b443 hd a0 ha0 r376_1.1 r376_1.2 _ h).mono (fun _ _ hq => qLn_tr (tB.refl.tr ht376_1) (by omega) hq)
def f185_b434 (kad : Nat → Nat) (N : Nat) (Z : AZ) (a0 : Nat) (s0 : Int32) (s1 : Int32) (s2 : Int32) (s3 : Int32) (s4 : Int32) (I : AI) : Option (Int32 × AI) :=
  (f184 kad N Z s1 s0 I).bind fun r434_1 =>
  (fH1 kad N Z a0 s4 s3 (s2 + r434_1.1) (0 : Int32) (0 : Int32) r434_1.2).bind fun r440_2 =>
  f185_b443 kad N Z a0 r440_2.1 r440_2.2
set_option maxRecDepth 20000 in
theorem Tf185_b434 {kad : Nat → Nat} {N : Nat} {Z : AZ} {d : Nat} {t : Option Nat × (Nat × Nat)} (hd : 22 ≤ d) : ∀ (a0 : Nat) (ha0 : sh10 kad Z a0) (s0 : Int32) (s1 : Int32) (s2 : Int32) (s3 : Int32) (s4 : Int32) (I : AI) (r : Int32 × AI), f185_b434 kad N Z a0 s0 s1 s2 s3 s4 I = some r → aGo kad d 185 (434, ([], [.int s0, .int s1, .int s2, .int s3, .int s4, .ref a0])) (aMem Z I, t) (qLn (1) tvI Z t r) := by
  intro a0 ha0 s0 s1 s2 s3 s4 I r h
  unfold f185_b434 at h
  obtain ⟨r434_1, hxr434_1, h⟩ := Option.bind_eq_some_iff.mp h
  refine gg_cs (as := [.int s1, .int s0]) (r := [.int s2, .int s3, .int s4, .ref a0]) aMi185 rfl rfl rfl aMi184 rfl (Nat.le_of_ble_eq_true rfl) (Nat.le_of_ble_eq_true rfl) (by omega) (Tf184 (by omega) s1 s0 I _ hxr434_1) ?_
  show aGo kad d 185 (437, ([], [.int r434_1.1, .int s2, .int s3, .int s4, .ref a0])) (aMem Z r434_1.2, t) _
  refine go_ops aMi185 3 _ (f1 := (440, ([], [.int (0 : Int32), .int (0 : Int32), .int (s2 + r434_1.1), .int s3, .int s4, .ref a0]))) rfl ?_
  obtain ⟨r440_2, hxr440_2, h⟩ := Option.bind_eq_some_iff.mp h
  refine gg_hl (as := [.ref a0, .int s4, .int s3, .int (s2 + r434_1.1), .int (0 : Int32), .int (0 : Int32)]) (r := []) aMi185 rfl rfl rfl rfl rfl (Nat.le_of_ble_eq_true rfl) (Nat.le_of_ble_eq_true rfl) (by omega) (TH1 (by omega) a0 ha0 s4 s3 (s2 + r434_1.1) (0 : Int32) (0 : Int32) r434_1.2 _ hxr440_2) (fun t440_2 ht440_2 => ?_)
  show aGo kad d 185 (443, ([], [.int r440_2.1])) (aMem Z r440_2.2, t440_2) _
  exact (Tf185_b443 hd a0 ha0 r440_2.1 r440_2.2 _ h).mono (fun _ _ hq => qLn_tr (tB.refl.tr ht440_2) (by omega) hq)
def f185_b418 (kad : Nat → Nat) (N : Nat) (Z : AZ) (a0 : Nat) (i1 : Int32) (i2 : Int32) (s0 : Int32) (s1 : Int32) (I : AI) : Option (Int32 × AI) :=
  if i2 = 0 then
    f185_b434 kad N Z a0 (40 : Int32) (i1 >>> ((9 : Int32) &&& 31)) (1 : Int32) s0 s1 I
  else
    f185_b434 kad N Z a0 (120 : Int32) (i1 >>> ((9 : Int32) &&& 31)) (1 : Int32) s0 s1 I
set_option maxRecDepth 20000 in
theorem Tf185_b418 {kad : Nat → Nat} {N : Nat} {Z : AZ} {d : Nat} {t : Option Nat × (Nat × Nat)} (hd : 22 ≤ d) : ∀ (a0 : Nat) (ha0 : sh10 kad Z a0) (i1 : Int32) (i2 : Int32) (s0 : Int32) (s1 : Int32) (I : AI) (r : Int32 × AI), f185_b418 kad N Z a0 i1 i2 s0 s1 I = some r → aGo kad d 185 (418, ([(1, .int i1), (2, .int i2)], [.int s0, .int s1, .ref a0])) (aMem Z I, t) (qLn (1) tvI Z t r) := by
  intro a0 ha0 i1 i2 s0 s1 I r h
  unfold f185_b418 at h
  refine go_ops aMi185 5 _ (f1 := (424, ([(1, .int i1), (2, .int i2)], [.int i2, .int (i1 >>> ((9 : Int32) &&& 31)), .int (1 : Int32), .int s0, .int s1, .ref a0]))) rfl ?_
  refine gg_br (b := decide (i2 = 0)) (tg := 432) (off := 8) aMi185 rfl rfl rfl rfl (fun hb => ?_) (fun hb => ?_)
  · rw [if_pos (of_decide_eq_true hb)] at h
    refine go_ops aMi185 1 _ (f1 := (434, ([(1, .int i1), (2, .int i2)], [.int (40 : Int32), .int (i1 >>> ((9 : Int32) &&& 31)), .int (1 : Int32), .int s0, .int s1, .ref a0]))) rfl ?_
    refine go_le (lv1 := []) (aLe_of (show (List.map (fun q => q.1) ([] : ALv)).Nodup from (by show ([] : List Nat).Nodup; decide)) aSubL_nil) ?_
    exact (Tf185_b434 hd a0 ha0 (40 : Int32) (i1 >>> ((9 : Int32) &&& 31)) (1 : Int32) s0 s1 I _ h).mono (fun _ _ hq => qLn_tr tB.refl (by omega) hq)
  · rw [if_neg (of_decide_eq_false hb)] at h
    refine go_ops aMi185 2 _ (f1 := (434, ([(1, .int i1), (2, .int i2)], [.int (120 : Int32), .int (i1 >>> ((9 : Int32) &&& 31)), .int (1 : Int32), .int s0, .int s1, .ref a0]))) rfl ?_
    refine go_le (lv1 := []) (aLe_of (show (List.map (fun q => q.1) ([] : ALv)).Nodup from (by show ([] : List Nat).Nodup; decide)) aSubL_nil) ?_
    exact (Tf185_b434 hd a0 ha0 (120 : Int32) (i1 >>> ((9 : Int32) &&& 31)) (1 : Int32) s0 s1 I _ h).mono (fun _ _ hq => qLn_tr tB.refl (by omega) hq)
def f185_b536 (kad : Nat → Nat) (N : Nat) (Z : AZ) (a0 : Nat) (s0 : Int32) (I : AI) : Option (Int32 × AI) :=
  some (s0, I)
set_option maxRecDepth 20000 in
theorem Tf185_b536 {kad : Nat → Nat} {N : Nat} {Z : AZ} {d : Nat} {t : Option Nat × (Nat × Nat)} (hd : 22 ≤ d) : ∀ (a0 : Nat) (ha0 : sh10 kad Z a0) (s0 : Int32) (I : AI) (r : Int32 × AI), f185_b536 kad N Z a0 s0 I = some r → aGo kad d 185 (536, ([], [.int s0])) (aMem Z I, t) (qLn (0) tvI Z t r) := by
  intro a0 ha0 s0 I r h
  unfold f185_b536 at h
  cases h
  exact go_ret aMi185 rfl aRetI (qLn_ret tB.refl)
def f185_b490 (kad : Nat → Nat) (N : Nat) (Z : AZ) (a0 : Nat) (s0 : Int32) (s1 : Int32) (I : AI) : Option (Int32 × AI) :=
  (fH1 kad N Z a0 s1 s0 (0 : Int32) (0 : Int32) (0 : Int32) I).bind fun r493_1 =>
  f185_b536 kad N Z a0 r493_1.1 r493_1.2
set_option maxRecDepth 20000 in
theorem Tf185_b490 {kad : Nat → Nat} {N : Nat} {Z : AZ} {d : Nat} {t : Option Nat × (Nat × Nat)} (hd : 22 ≤ d) : ∀ (a0 : Nat) (ha0 : sh10 kad Z a0) (s0 : Int32) (s1 : Int32) (I : AI) (r : Int32 × AI), f185_b490 kad N Z a0 s0 s1 I = some r → aGo kad d 185 (490, ([], [.int s0, .int s1, .ref a0])) (aMem Z I, t) (qLn (1) tvI Z t r) := by
  intro a0 ha0 s0 s1 I r h
  unfold f185_b490 at h
  refine go_ops aMi185 3 _ (f1 := (493, ([], [.int (0 : Int32), .int (0 : Int32), .int (0 : Int32), .int s0, .int s1, .ref a0]))) rfl ?_
  obtain ⟨r493_1, hxr493_1, h⟩ := Option.bind_eq_some_iff.mp h
  refine gg_hl (as := [.ref a0, .int s1, .int s0, .int (0 : Int32), .int (0 : Int32), .int (0 : Int32)]) (r := []) aMi185 rfl rfl rfl rfl rfl (Nat.le_of_ble_eq_true rfl) (Nat.le_of_ble_eq_true rfl) (by omega) (TH1 (by omega) a0 ha0 s1 s0 (0 : Int32) (0 : Int32) (0 : Int32) I _ hxr493_1) (fun t493_1 ht493_1 => ?_)
  show aGo kad d 185 (496, ([], [.int r493_1.1])) (aMem Z r493_1.2, t493_1) _
  refine go_ops aMi185 1 _ (f1 := (536, ([], [.int r493_1.1]))) rfl ?_
  exact (Tf185_b536 hd a0 ha0 r493_1.1 r493_1.2 _ h).mono (fun _ _ hq => qLn_tr (tB.refl.tr ht493_1) (by omega) hq)
def f185_b530 (kad : Nat → Nat) (N : Nat) (Z : AZ) (a0 : Nat) (s0 : Int32) (s1 : Int32) (I : AI) : Option (Int32 × AI) :=
  (fH1 kad N Z a0 s1 s0 (0 : Int32) (0 : Int32) (0 : Int32) I).bind fun r533_1 =>
  f185_b536 kad N Z a0 r533_1.1 r533_1.2
set_option maxRecDepth 20000 in
theorem Tf185_b530 {kad : Nat → Nat} {N : Nat} {Z : AZ} {d : Nat} {t : Option Nat × (Nat × Nat)} (hd : 22 ≤ d) : ∀ (a0 : Nat) (ha0 : sh10 kad Z a0) (s0 : Int32) (s1 : Int32) (I : AI) (r : Int32 × AI), f185_b530 kad N Z a0 s0 s1 I = some r → aGo kad d 185 (530, ([], [.int s0, .int s1, .ref a0])) (aMem Z I, t) (qLn (1) tvI Z t r) := by
  intro a0 ha0 s0 s1 I r h
  unfold f185_b530 at h
  refine go_ops aMi185 3 _ (f1 := (533, ([], [.int (0 : Int32), .int (0 : Int32), .int (0 : Int32), .int s0, .int s1, .ref a0]))) rfl ?_
  obtain ⟨r533_1, hxr533_1, h⟩ := Option.bind_eq_some_iff.mp h
  refine gg_hl (as := [.ref a0, .int s1, .int s0, .int (0 : Int32), .int (0 : Int32), .int (0 : Int32)]) (r := []) aMi185 rfl rfl rfl rfl rfl (Nat.le_of_ble_eq_true rfl) (Nat.le_of_ble_eq_true rfl) (by omega) (TH1 (by omega) a0 ha0 s1 s0 (0 : Int32) (0 : Int32) (0 : Int32) I _ hxr533_1) (fun t533_1 ht533_1 => ?_)
  show aGo kad d 185 (536, ([], [.int r533_1.1])) (aMem Z r533_1.2, t533_1) _
  exact (Tf185_b536 hd a0 ha0 r533_1.1 r533_1.2 _ h).mono (fun _ _ hq => qLn_tr (tB.refl.tr ht533_1) (by omega) hq)
def f185_b598 (kad : Nat → Nat) (N : Nat) (Z : AZ) (a0 : Nat) (s0 : Int32) (I : AI) : Option (Int32 × AI) :=
  some (s0, I)
set_option maxRecDepth 20000 in
theorem Tf185_b598 {kad : Nat → Nat} {N : Nat} {Z : AZ} {d : Nat} {t : Option Nat × (Nat × Nat)} (hd : 22 ≤ d) : ∀ (a0 : Nat) (ha0 : sh10 kad Z a0) (s0 : Int32) (I : AI) (r : Int32 × AI), f185_b598 kad N Z a0 s0 I = some r → aGo kad d 185 (598, ([], [.int s0])) (aMem Z I, t) (qLn (0) tvI Z t r) := by
  intro a0 ha0 s0 I r h
  unfold f185_b598 at h
  cases h
  exact go_ret aMi185 rfl aRetI (qLn_ret tB.refl)
def f185_b588 (kad : Nat → Nat) (N : Nat) (Z : AZ) (a0 : Nat) (i4 : Int32) (I : AI) : Option (Int32 × AI) :=
  (fH1 kad N Z a0 i4 (0 : Int32) (0 : Int32) (0 : Int32) (0 : Int32) I).bind fun r595_1 =>
  f185_b598 kad N Z a0 r595_1.1 r595_1.2
set_option maxRecDepth 20000 in
theorem Tf185_b588 {kad : Nat → Nat} {N : Nat} {Z : AZ} {d : Nat} {t : Option Nat × (Nat × Nat)} (hd : 22 ≤ d) : ∀ (a0 : Nat) (ha0 : sh10 kad Z a0) (i4 : Int32) (I : AI) (r : Int32 × AI), f185_b588 kad N Z a0 i4 I = some r → aGo kad d 185 (588, ([(0, .ref a0), (4, .int i4)], [])) (aMem Z I, t) (qLn (1) tvI Z t r) := by
  intro a0 ha0 i4 I r h
  unfold f185_b588 at h
  refine go_ops aMi185 6 _ (f1 := (595, ([(0, .ref a0), (4, .int i4)], [.int (0 : Int32), .int (0 : Int32), .int (0 : Int32), .int (0 : Int32), .int i4, .ref a0]))) rfl ?_
  obtain ⟨r595_1, hxr595_1, h⟩ := Option.bind_eq_some_iff.mp h
  refine gg_hl (as := [.ref a0, .int i4, .int (0 : Int32), .int (0 : Int32), .int (0 : Int32), .int (0 : Int32)]) (r := []) aMi185 rfl rfl rfl rfl rfl (Nat.le_of_ble_eq_true rfl) (Nat.le_of_ble_eq_true rfl) (by omega) (TH1 (by omega) a0 ha0 i4 (0 : Int32) (0 : Int32) (0 : Int32) (0 : Int32) I _ hxr595_1) (fun t595_1 ht595_1 => ?_)
  show aGo kad d 185 (598, ([(0, .ref a0), (4, .int i4)], [.int r595_1.1])) (aMem Z r595_1.2, t595_1) _
  refine go_le (lv1 := []) (aLe_of (show (List.map (fun q => q.1) ([] : ALv)).Nodup from (by show ([] : List Nat).Nodup; decide)) aSubL_nil) ?_
  exact (Tf185_b598 hd a0 ha0 r595_1.1 r595_1.2 _ h).mono (fun _ _ hq => qLn_tr (tB.refl.tr ht595_1) (by omega) hq)
def f185_b564 (kad : Nat → Nat) (N : Nat) (Z : AZ) (a0 : Nat) (i1 : Int32) (i3 : Int32) (s0 : Int32) (I : AI) : Option (Int32 × AI) :=
  if ¬ i3 = (39 : Int32) then
    f185_b588 kad N Z a0 s0 I
  else
    if ((i1 >>> ((7 : Int32) &&& 31)) &&& (3 : Int32)) ≤ 0 then
      f185_b588 kad N Z a0 s0 I
    else
      (f125 kad N Z a0 I).bind fun r582_1 =>
      f185_b598 kad N Z a0 r582_1.1 r582_1.2
set_option maxRecDepth 20000 in
theorem Tf185_b564 {kad : Nat → Nat} {N : Nat} {Z : AZ} {d : Nat} {t : Option Nat × (Nat × Nat)} (hd : 22 ≤ d) : ∀ (a0 : Nat) (ha0 : sh10 kad Z a0) (i1 : Int32) (i3 : Int32) (s0 : Int32) (I : AI) (r : Int32 × AI), f185_b564 kad N Z a0 i1 i3 s0 I = some r → aGo kad d 185 (564, ([(0, .ref a0), (1, .int i1), (3, .int i3)], [.int s0])) (aMem Z I, t) (qLn (1) tvI Z t r) := by
  intro a0 ha0 i1 i3 s0 I r h
  unfold f185_b564 at h
  refine go_ops aMi185 3 _ (f1 := (569, ([(4, .int s0), (0, .ref a0), (1, .int i1), (3, .int i3)], [.int (39 : Int32), .int i3]))) rfl ?_
  refine gg_br (b := decide (¬ i3 = (39 : Int32))) (tg := 588) (off := 19) aMi185 rfl rfl rfl rfl (fun hb => ?_) (fun hb => ?_)
  · rw [if_pos (of_decide_eq_true hb)] at h
    refine go_le (lv1 := [(0, .ref a0), (4, .int s0)]) (aLe_of (show (List.map (fun q => q.1) ([(0, .ref a0), (4, .int s0)] : ALv)).Nodup from (by show ([0, 4] : List Nat).Nodup; decide)) (aSubL_cons rfl (aSubL_cons rfl aSubL_nil))) ?_
    exact (Tf185_b588 hd a0 ha0 s0 I _ h).mono (fun _ _ hq => qLn_tr tB.refl (by omega) hq)
  · rw [if_neg (of_decide_eq_false hb)] at h
    refine go_ops aMi185 5 _ (f1 := (578, ([(4, .int s0), (0, .ref a0), (1, .int i1), (3, .int i3)], [.int ((i1 >>> ((7 : Int32) &&& 31)) &&& (3 : Int32))]))) rfl ?_
    refine gg_br (b := decide (((i1 >>> ((7 : Int32) &&& 31)) &&& (3 : Int32)) ≤ 0)) (tg := 588) (off := 10) aMi185 rfl rfl rfl rfl (fun hb => ?_) (fun hb => ?_)
    · rw [if_pos (of_decide_eq_true hb)] at h
      refine go_le (lv1 := [(0, .ref a0), (4, .int s0)]) (aLe_of (show (List.map (fun q => q.1) ([(0, .ref a0), (4, .int s0)] : ALv)).Nodup from (by show ([0, 4] : List Nat).Nodup; decide)) (aSubL_cons rfl (aSubL_cons rfl aSubL_nil))) ?_
      exact (Tf185_b588 hd a0 ha0 s0 I _ h).mono (fun _ _ hq => qLn_tr tB.refl (by omega) hq)
    · rw [if_neg (of_decide_eq_false hb)] at h
      refine go_ops aMi185 1 _ (f1 := (582, ([(4, .int s0), (0, .ref a0), (1, .int i1), (3, .int i3)], [.ref a0]))) rfl ?_
      obtain ⟨r582_1, hxr582_1, h⟩ := Option.bind_eq_some_iff.mp h
      refine gg_cv (as := []) (r := []) aMi185 rfl rfl rfl aMi125 (Nat.le_of_ble_eq_true rfl) rfl (Nat.le_of_ble_eq_true rfl) (Nat.le_of_ble_eq_true rfl) (by omega) (isK_of (sh10_z ha0)) (Tf125 (by omega) a0 ha0 I _ hxr582_1) ?_
      show aGo kad d 185 (585, ([(4, .int s0), (0, .ref a0), (1, .int i1), (3, .int i3)], [.int r582_1.1])) (aMem Z r582_1.2, t) _
      refine go_ops aMi185 1 _ (f1 := (598, ([(4, .int s0), (0, .ref a0), (1, .int i1), (3, .int i3)], [.int r582_1.1]))) rfl ?_
      refine go_le (lv1 := []) (aLe_of (show (List.map (fun q => q.1) ([] : ALv)).Nodup from (by show ([] : List Nat).Nodup; decide)) aSubL_nil) ?_
      exact (Tf185_b598 hd a0 ha0 r582_1.1 r582_1.2 _ h).mono (fun _ _ hq => qLn_tr tB.refl (by omega) hq)
def f185_b664 (kad : Nat → Nat) (N : Nat) (Z : AZ) (a0 : Nat) (s0 : Int32) (I : AI) : Option (Int32 × AI) :=
  some (s0, I)
set_option maxRecDepth 20000 in
theorem Tf185_b664 {kad : Nat → Nat} {N : Nat} {Z : AZ} {d : Nat} {t : Option Nat × (Nat × Nat)} (hd : 22 ≤ d) : ∀ (a0 : Nat) (ha0 : sh10 kad Z a0) (s0 : Int32) (I : AI) (r : Int32 × AI), f185_b664 kad N Z a0 s0 I = some r → aGo kad d 185 (664, ([], [.int s0])) (aMem Z I, t) (qLn (0) tvI Z t r) := by
  intro a0 ha0 s0 I r h
  unfold f185_b664 at h
  cases h
  exact go_ret aMi185 rfl aRetI (qLn_ret tB.refl)
def f185_b713 (kad : Nat → Nat) (N : Nat) (Z : AZ) (a0 : Nat) (s0 : Int32) (s1 : Int32) (I : AI) : Option (Int32 × AI) :=
  (fH1 kad N Z a0 s1 s0 (0 : Int32) (0 : Int32) (0 : Int32) I).bind fun r716_1 =>
  some (r716_1.1, r716_1.2)
set_option maxRecDepth 20000 in
theorem Tf185_b713 {kad : Nat → Nat} {N : Nat} {Z : AZ} {d : Nat} {t : Option Nat × (Nat × Nat)} (hd : 22 ≤ d) : ∀ (a0 : Nat) (ha0 : sh10 kad Z a0) (s0 : Int32) (s1 : Int32) (I : AI) (r : Int32 × AI), f185_b713 kad N Z a0 s0 s1 I = some r → aGo kad d 185 (713, ([], [.int s0, .int s1, .ref a0])) (aMem Z I, t) (qLn (1) tvI Z t r) := by
  intro a0 ha0 s0 s1 I r h
  unfold f185_b713 at h
  refine go_ops aMi185 3 _ (f1 := (716, ([], [.int (0 : Int32), .int (0 : Int32), .int (0 : Int32), .int s0, .int s1, .ref a0]))) rfl ?_
  obtain ⟨r716_1, hxr716_1, h⟩ := Option.bind_eq_some_iff.mp h
  refine gg_hl (as := [.ref a0, .int s1, .int s0, .int (0 : Int32), .int (0 : Int32), .int (0 : Int32)]) (r := []) aMi185 rfl rfl rfl rfl rfl (Nat.le_of_ble_eq_true rfl) (Nat.le_of_ble_eq_true rfl) (by omega) (TH1 (by omega) a0 ha0 s1 s0 (0 : Int32) (0 : Int32) (0 : Int32) I _ hxr716_1) (fun t716_1 ht716_1 => ?_)
  show aGo kad d 185 (719, ([], [.int r716_1.1])) (aMem Z r716_1.2, t716_1) _
  cases h
  exact go_ret aMi185 rfl aRetI (qLn_ret (tB.refl.tr ht716_1))
def f185_b685 (kad : Nat → Nat) (N : Nat) (Z : AZ) (a0 : Nat) (i1 : Int32) (i2 : Int32) (s0 : Int32) (I : AI) : Option (Int32 × AI) :=
  if i2 = 0 then
    (f184 kad N Z (i1 >>> ((6 : Int32) &&& 31)) (50 : Int32) I).bind fun r710_1 =>
    f185_b713 kad N Z a0 r710_1.1 s0 r710_1.2
  else
    (f184 kad N Z (i1 >>> ((6 : Int32) &&& 31)) (70000 : Int32) I).bind fun r695_2 =>
    f185_b713 kad N Z a0 (r695_2.1 - (99 : Int32)) s0 r695_2.2
set_option maxRecDepth 20000 in
theorem Tf185_b685 {kad : Nat → Nat} {N : Nat} {Z : AZ} {d : Nat} {t : Option Nat × (Nat × Nat)} (hd : 22 ≤ d) : ∀ (a0 : Nat) (ha0 : sh10 kad Z a0) (i1 : Int32) (i2 : Int32) (s0 : Int32) (I : AI) (r : Int32 × AI), f185_b685 kad N Z a0 i1 i2 s0 I = some r → aGo kad d 185 (685, ([(1, .int i1), (2, .int i2)], [.int s0, .ref a0])) (aMem Z I, t) (qLn (1) tvI Z t r) := by
  intro a0 ha0 i1 i2 s0 I r h
  unfold f185_b685 at h
  refine go_ops aMi185 1 _ (f1 := (686, ([(1, .int i1), (2, .int i2)], [.int i2, .int s0, .ref a0]))) rfl ?_
  refine gg_br (b := decide (i2 = 0)) (tg := 704) (off := 18) aMi185 rfl rfl rfl rfl (fun hb => ?_) (fun hb => ?_)
  · rw [if_pos (of_decide_eq_true hb)] at h
    refine go_ops aMi185 4 _ (f1 := (710, ([(1, .int i1), (2, .int i2)], [.int (50 : Int32), .int (i1 >>> ((6 : Int32) &&& 31)), .int s0, .ref a0]))) rfl ?_
    obtain ⟨r710_1, hxr710_1, h⟩ := Option.bind_eq_some_iff.mp h
    refine gg_cs (as := [.int (i1 >>> ((6 : Int32) &&& 31)), .int (50 : Int32)]) (r := [.int s0, .ref a0]) aMi185 rfl rfl rfl aMi184 rfl (Nat.le_of_ble_eq_true rfl) (Nat.le_of_ble_eq_true rfl) (by omega) (Tf184 (by omega) (i1 >>> ((6 : Int32) &&& 31)) (50 : Int32) I _ hxr710_1) ?_
    show aGo kad d 185 (713, ([(1, .int i1), (2, .int i2)], [.int r710_1.1, .int s0, .ref a0])) (aMem Z r710_1.2, t) _
    refine go_le (lv1 := []) (aLe_of (show (List.map (fun q => q.1) ([] : ALv)).Nodup from (by show ([] : List Nat).Nodup; decide)) aSubL_nil) ?_
    exact (Tf185_b713 hd a0 ha0 r710_1.1 s0 r710_1.2 _ h).mono (fun _ _ hq => qLn_tr tB.refl (by omega) hq)
  · rw [if_neg (of_decide_eq_false hb)] at h
    refine go_ops aMi185 3 _ (f1 := (693, ([(1, .int i1), (2, .int i2)], [.int (i1 >>> ((6 : Int32) &&& 31)), .int s0, .ref a0]))) rfl ?_
    refine gg_kI (Or.inl ⟨rfl, rfl⟩) aMi185 rfl rfl ?_
    obtain ⟨r695_2, hxr695_2, h⟩ := Option.bind_eq_some_iff.mp h
    refine gg_cs (as := [.int (i1 >>> ((6 : Int32) &&& 31)), .int (70000 : Int32)]) (r := [.int s0, .ref a0]) aMi185 rfl rfl rfl aMi184 rfl (Nat.le_of_ble_eq_true rfl) (Nat.le_of_ble_eq_true rfl) (by omega) (Tf184 (by omega) (i1 >>> ((6 : Int32) &&& 31)) (70000 : Int32) I _ hxr695_2) ?_
    show aGo kad d 185 (698, ([(1, .int i1), (2, .int i2)], [.int r695_2.1, .int s0, .ref a0])) (aMem Z r695_2.2, t) _
    refine go_ops aMi185 3 _ (f1 := (713, ([(1, .int i1), (2, .int i2)], [.int (r695_2.1 - (99 : Int32)), .int s0, .ref a0]))) rfl ?_
    refine go_le (lv1 := []) (aLe_of (show (List.map (fun q => q.1) ([] : ALv)).Nodup from (by show ([] : List Nat).Nodup; decide)) aSubL_nil) ?_
    exact (Tf185_b713 hd a0 ha0 (r695_2.1 - (99 : Int32)) s0 r695_2.2 _ h).mono (fun _ _ hq => qLn_tr tB.refl (by omega) hq)
def f185_b851 (kad : Nat → Nat) (N : Nat) (Z : AZ) (a0 : Nat) (s0 : Int32) (I : AI) : Option (Int32 × AI) :=
  some (s0, I)
set_option maxRecDepth 20000 in
theorem Tf185_b851 {kad : Nat → Nat} {N : Nat} {Z : AZ} {d : Nat} {t : Option Nat × (Nat × Nat)} (hd : 22 ≤ d) : ∀ (a0 : Nat) (ha0 : sh10 kad Z a0) (s0 : Int32) (I : AI) (r : Int32 × AI), f185_b851 kad N Z a0 s0 I = some r → aGo kad d 185 (851, ([], [.int s0])) (aMem Z I, t) (qLn (0) tvI Z t r) := by
  intro a0 ha0 s0 I r h
  unfold f185_b851 at h
  cases h
  exact go_ret aMi185 rfl aRetI (qLn_ret tB.refl)
def f185_b835 (kad : Nat → Nat) (N : Nat) (Z : AZ) (a0 : Nat) (s0 : Int32) (s1 : Int32) (s2 : Int32) (s3 : Int32) (s4 : Int32) (I : AI) : Option (Int32 × AI) :=
  (fH1 kad N Z a0 s4 s3 s2 s1 s0 I).bind fun r835_1 =>
  f185_b851 kad N Z a0 r835_1.1 r835_1.2
set_option maxRecDepth 20000 in
theorem Tf185_b835 {kad : Nat → Nat} {N : Nat} {Z : AZ} {d : Nat} {t : Option Nat × (Nat × Nat)} (hd : 22 ≤ d) : ∀ (a0 : Nat) (ha0 : sh10 kad Z a0) (s0 : Int32) (s1 : Int32) (s2 : Int32) (s3 : Int32) (s4 : Int32) (I : AI) (r : Int32 × AI), f185_b835 kad N Z a0 s0 s1 s2 s3 s4 I = some r → aGo kad d 185 (835, ([], [.int s0, .int s1, .int s2, .int s3, .int s4, .ref a0])) (aMem Z I, t) (qLn (1) tvI Z t r) := by
  intro a0 ha0 s0 s1 s2 s3 s4 I r h
  unfold f185_b835 at h
  obtain ⟨r835_1, hxr835_1, h⟩ := Option.bind_eq_some_iff.mp h
  refine gg_hl (as := [.ref a0, .int s4, .int s3, .int s2, .int s1, .int s0]) (r := []) aMi185 rfl rfl rfl rfl rfl (Nat.le_of_ble_eq_true rfl) (Nat.le_of_ble_eq_true rfl) (by omega) (TH1 (by omega) a0 ha0 s4 s3 s2 s1 s0 I _ hxr835_1) (fun t835_1 ht835_1 => ?_)
  show aGo kad d 185 (838, ([], [.int r835_1.1])) (aMem Z r835_1.2, t835_1) _
  refine go_ops aMi185 1 _ (f1 := (851, ([], [.int r835_1.1]))) rfl ?_
  exact (Tf185_b851 hd a0 ha0 r835_1.1 r835_1.2 _ h).mono (fun _ _ hq => qLn_tr (tB.refl.tr ht835_1) (by omega) hq)
def f185_b809 (kad : Nat → Nat) (N : Nat) (Z : AZ) (a0 : Nat) (i1 : Int32) (i2 : Int32) (s0 : Int32) (s1 : Int32) (s2 : Int32) (s3 : Int32) (I : AI) : Option (Int32 × AI) :=
  if i2 = 0 then
    (f184 kad N Z (i1 >>> ((9 : Int32) &&& 31)) (30 : Int32) I).bind fun r832_1 =>
    f185_b835 kad N Z a0 r832_1.1 s0 s1 s2 s3 r832_1.2
  else
    (f184 kad N Z (i1 >>> ((9 : Int32) &&& 31)) (600 : Int32) I).bind fun r820_2 =>
    f185_b835 kad N Z a0 r820_2.1 s0 s1 s2 s3 r820_2.2
set_option maxRecDepth 20000 in
theorem Tf185_b809 {kad : Nat → Nat} {N : Nat} {Z : AZ} {d : Nat} {t : Option Nat × (Nat × Nat)} (hd : 22 ≤ d) : ∀ (a0 : Nat) (ha0 : sh10 kad Z a0) (i1 : Int32) (i2 : Int32) (s0 : Int32) (s1 : Int32) (s2 : Int32) (s3 : Int32) (I : AI) (r : Int32 × AI), f185_b809 kad N Z a0 i1 i2 s0 s1 s2 s3 I = some r → aGo kad d 185 (809, ([(1, .int i1), (2, .int i2)], [.int s0, .int s1, .int s2, .int s3, .ref a0])) (aMem Z I, t) (qLn (1) tvI Z t r) := by
  intro a0 ha0 i1 i2 s0 s1 s2 s3 I r h
  unfold f185_b809 at h
  refine go_ops aMi185 1 _ (f1 := (810, ([(1, .int i1), (2, .int i2)], [.int i2, .int s0, .int s1, .int s2, .int s3, .ref a0]))) rfl ?_
  refine gg_br (b := decide (i2 = 0)) (tg := 826) (off := 16) aMi185 rfl rfl rfl rfl (fun hb => ?_) (fun hb => ?_)
  · rw [if_pos (of_decide_eq_true hb)] at h
    refine go_ops aMi185 4 _ (f1 := (832, ([(1, .int i1), (2, .int i2)], [.int (30 : Int32), .int (i1 >>> ((9 : Int32) &&& 31)), .int s0, .int s1, .int s2, .int s3, .ref a0]))) rfl ?_
    obtain ⟨r832_1, hxr832_1, h⟩ := Option.bind_eq_some_iff.mp h
    refine gg_cs (as := [.int (i1 >>> ((9 : Int32) &&& 31)), .int (30 : Int32)]) (r := [.int s0, .int s1, .int s2, .int s3, .ref a0]) aMi185 rfl rfl rfl aMi184 rfl (Nat.le_of_ble_eq_true rfl) (Nat.le_of_ble_eq_true rfl) (by omega) (Tf184 (by omega) (i1 >>> ((9 : Int32) &&& 31)) (30 : Int32) I _ hxr832_1) ?_
    show aGo kad d 185 (835, ([(1, .int i1), (2, .int i2)], [.int r832_1.1, .int s0, .int s1, .int s2, .int s3, .ref a0])) (aMem Z r832_1.2, t) _
    refine go_le (lv1 := []) (aLe_of (show (List.map (fun q => q.1) ([] : ALv)).Nodup from (by show ([] : List Nat).Nodup; decide)) aSubL_nil) ?_
    exact (Tf185_b835 hd a0 ha0 r832_1.1 s0 s1 s2 s3 r832_1.2 _ h).mono (fun _ _ hq => qLn_tr tB.refl (by omega) hq)
  · rw [if_neg (of_decide_eq_false hb)] at h
    refine go_ops aMi185 4 _ (f1 := (820, ([(1, .int i1), (2, .int i2)], [.int (600 : Int32), .int (i1 >>> ((9 : Int32) &&& 31)), .int s0, .int s1, .int s2, .int s3, .ref a0]))) rfl ?_
    obtain ⟨r820_2, hxr820_2, h⟩ := Option.bind_eq_some_iff.mp h
    refine gg_cs (as := [.int (i1 >>> ((9 : Int32) &&& 31)), .int (600 : Int32)]) (r := [.int s0, .int s1, .int s2, .int s3, .ref a0]) aMi185 rfl rfl rfl aMi184 rfl (Nat.le_of_ble_eq_true rfl) (Nat.le_of_ble_eq_true rfl) (by omega) (Tf184 (by omega) (i1 >>> ((9 : Int32) &&& 31)) (600 : Int32) I _ hxr820_2) ?_
    show aGo kad d 185 (823, ([(1, .int i1), (2, .int i2)], [.int r820_2.1, .int s0, .int s1, .int s2, .int s3, .ref a0])) (aMem Z r820_2.2, t) _
    refine go_ops aMi185 1 _ (f1 := (835, ([(1, .int i1), (2, .int i2)], [.int r820_2.1, .int s0, .int s1, .int s2, .int s3, .ref a0]))) rfl ?_
    refine go_le (lv1 := []) (aLe_of (show (List.map (fun q => q.1) ([] : ALv)).Nodup from (by show ([] : List Nat).Nodup; decide)) aSubL_nil) ?_
    exact (Tf185_b835 hd a0 ha0 r820_2.1 s0 s1 s2 s3 r820_2.2 _ h).mono (fun _ _ hq => qLn_tr tB.refl (by omega) hq)
def f185_b782 (kad : Nat → Nat) (N : Nat) (Z : AZ) (a0 : Nat) (i1 : Int32) (i2 : Int32) (s0 : Int32) (s1 : Int32) (s2 : Int32) (I : AI) : Option (Int32 × AI) :=
  if i2 = 0 then
    (f184 kad N Z (i1 >>> ((8 : Int32) &&& 31)) (20 : Int32) I).bind fun r805_1 =>
    f185_b809 kad N Z a0 i1 i2 ((1 : Int32) + r805_1.1) s0 s1 s2 r805_1.2
  else
    (f184 kad N Z (i1 >>> ((8 : Int32) &&& 31)) (25 : Int32) I).bind fun r792_2 =>
    f185_b809 kad N Z a0 i1 i2 r792_2.1 s0 s1 s2 r792_2.2
set_option maxRecDepth 20000 in
theorem Tf185_b782 {kad : Nat → Nat} {N : Nat} {Z : AZ} {d : Nat} {t : Option Nat × (Nat × Nat)} (hd : 22 ≤ d) : ∀ (a0 : Nat) (ha0 : sh10 kad Z a0) (i1 : Int32) (i2 : Int32) (s0 : Int32) (s1 : Int32) (s2 : Int32) (I : AI) (r : Int32 × AI), f185_b782 kad N Z a0 i1 i2 s0 s1 s2 I = some r → aGo kad d 185 (782, ([(1, .int i1), (2, .int i2)], [.int s0, .int s1, .int s2, .ref a0])) (aMem Z I, t) (qLn (1) tvI Z t r) := by
  intro a0 ha0 i1 i2 s0 s1 s2 I r h
  unfold f185_b782 at h
  refine go_ops aMi185 1 _ (f1 := (783, ([(1, .int i1), (2, .int i2)], [.int i2, .int s0, .int s1, .int s2, .ref a0]))) rfl ?_
  refine gg_br (b := decide (i2 = 0)) (tg := 798) (off := 15) aMi185 rfl rfl rfl rfl (fun hb => ?_) (fun hb => ?_)
  · rw [if_pos (of_decide_eq_true hb)] at h
    refine go_ops aMi185 5 _ (f1 := (805, ([(1, .int i1), (2, .int i2)], [.int (20 : Int32), .int (i1 >>> ((8 : Int32) &&& 31)), .int (1 : Int32), .int s0, .int s1, .int s2, .ref a0]))) rfl ?_
    obtain ⟨r805_1, hxr805_1, h⟩ := Option.bind_eq_some_iff.mp h
    refine gg_cs (as := [.int (i1 >>> ((8 : Int32) &&& 31)), .int (20 : Int32)]) (r := [.int (1 : Int32), .int s0, .int s1, .int s2, .ref a0]) aMi185 rfl rfl rfl aMi184 rfl (Nat.le_of_ble_eq_true rfl) (Nat.le_of_ble_eq_true rfl) (by omega) (Tf184 (by omega) (i1 >>> ((8 : Int32) &&& 31)) (20 : Int32) I _ hxr805_1) ?_
    show aGo kad d 185 (808, ([(1, .int i1), (2, .int i2)], [.int r805_1.1, .int (1 : Int32), .int s0, .int s1, .int s2, .ref a0])) (aMem Z r805_1.2, t) _
    refine go_ops aMi185 1 _ (f1 := (809, ([(1, .int i1), (2, .int i2)], [.int ((1 : Int32) + r805_1.1), .int s0, .int s1, .int s2, .ref a0]))) rfl ?_
    exact (Tf185_b809 hd a0 ha0 i1 i2 ((1 : Int32) + r805_1.1) s0 s1 s2 r805_1.2 _ h).mono (fun _ _ hq => qLn_tr tB.refl (by omega) hq)
  · rw [if_neg (of_decide_eq_false hb)] at h
    refine go_ops aMi185 4 _ (f1 := (792, ([(1, .int i1), (2, .int i2)], [.int (25 : Int32), .int (i1 >>> ((8 : Int32) &&& 31)), .int s0, .int s1, .int s2, .ref a0]))) rfl ?_
    obtain ⟨r792_2, hxr792_2, h⟩ := Option.bind_eq_some_iff.mp h
    refine gg_cs (as := [.int (i1 >>> ((8 : Int32) &&& 31)), .int (25 : Int32)]) (r := [.int s0, .int s1, .int s2, .ref a0]) aMi185 rfl rfl rfl aMi184 rfl (Nat.le_of_ble_eq_true rfl) (Nat.le_of_ble_eq_true rfl) (by omega) (Tf184 (by omega) (i1 >>> ((8 : Int32) &&& 31)) (25 : Int32) I _ hxr792_2) ?_
    show aGo kad d 185 (795, ([(1, .int i1), (2, .int i2)], [.int r792_2.1, .int s0, .int s1, .int s2, .ref a0])) (aMem Z r792_2.2, t) _
    refine go_ops aMi185 1 _ (f1 := (809, ([(1, .int i1), (2, .int i2)], [.int r792_2.1, .int s0, .int s1, .int s2, .ref a0]))) rfl ?_
    exact (Tf185_b809 hd a0 ha0 i1 i2 r792_2.1 s0 s1 s2 r792_2.2 _ h).mono (fun _ _ hq => qLn_tr tB.refl (by omega) hq)
def f185_b757 (kad : Nat → Nat) (N : Nat) (Z : AZ) (a0 : Nat) (i1 : Int32) (i2 : Int32) (s0 : Int32) (s1 : Int32) (I : AI) : Option (Int32 × AI) :=
  if i2 = 0 then
    (f184 kad N Z (i1 >>> ((7 : Int32) &&& 31)) (30 : Int32) I).bind fun r779_1 =>
    f185_b782 kad N Z a0 i1 i2 r779_1.1 s0 s1 r779_1.2
  else
    (f184 kad N Z (i1 >>> ((7 : Int32) &&& 31)) (120 : Int32) I).bind fun r767_2 =>
    f185_b782 kad N Z a0 i1 i2 r767_2.1 s0 s1 r767_2.2
set_option maxRecDepth 20000 in
theorem Tf185_b757 {kad : Nat → Nat} {N : Nat} {Z : AZ} {d : Nat} {t : Option Nat × (Nat × Nat)} (hd : 22 ≤ d) : ∀ (a0 : Nat) (ha0 : sh10 kad Z a0) (i1 : Int32) (i2 : Int32) (s0 : Int32) (s1 : Int32) (I : AI) (r : Int32 × AI), f185_b757 kad N Z a0 i1 i2 s0 s1 I = some r → aGo kad d 185 (757, ([(1, .int i1), (2, .int i2)], [.int s0, .int s1, .ref a0])) (aMem Z I, t) (qLn (1) tvI Z t r) := by
  intro a0 ha0 i1 i2 s0 s1 I r h
  unfold f185_b757 at h
  refine go_ops aMi185 1 _ (f1 := (758, ([(1, .int i1), (2, .int i2)], [.int i2, .int s0, .int s1, .ref a0]))) rfl ?_
  refine gg_br (b := decide (i2 = 0)) (tg := 773) (off := 15) aMi185 rfl rfl rfl rfl (fun hb => ?_) (fun hb => ?_)
  · rw [if_pos (of_decide_eq_true hb)] at h
    refine go_ops aMi185 4 _ (f1 := (779, ([(1, .int i1), (2, .int i2)], [.int (30 : Int32), .int (i1 >>> ((7 : Int32) &&& 31)), .int s0, .int s1, .ref a0]))) rfl ?_
    obtain ⟨r779_1, hxr779_1, h⟩ := Option.bind_eq_some_iff.mp h
    refine gg_cs (as := [.int (i1 >>> ((7 : Int32) &&& 31)), .int (30 : Int32)]) (r := [.int s0, .int s1, .ref a0]) aMi185 rfl rfl rfl aMi184 rfl (Nat.le_of_ble_eq_true rfl) (Nat.le_of_ble_eq_true rfl) (by omega) (Tf184 (by omega) (i1 >>> ((7 : Int32) &&& 31)) (30 : Int32) I _ hxr779_1) ?_
    show aGo kad d 185 (782, ([(1, .int i1), (2, .int i2)], [.int r779_1.1, .int s0, .int s1, .ref a0])) (aMem Z r779_1.2, t) _
    exact (Tf185_b782 hd a0 ha0 i1 i2 r779_1.1 s0 s1 r779_1.2 _ h).mono (fun _ _ hq => qLn_tr tB.refl (by omega) hq)
  · rw [if_neg (of_decide_eq_false hb)] at h
    refine go_ops aMi185 4 _ (f1 := (767, ([(1, .int i1), (2, .int i2)], [.int (120 : Int32), .int (i1 >>> ((7 : Int32) &&& 31)), .int s0, .int s1, .ref a0]))) rfl ?_
    obtain ⟨r767_2, hxr767_2, h⟩ := Option.bind_eq_some_iff.mp h
    refine gg_cs (as := [.int (i1 >>> ((7 : Int32) &&& 31)), .int (120 : Int32)]) (r := [.int s0, .int s1, .ref a0]) aMi185 rfl rfl rfl aMi184 rfl (Nat.le_of_ble_eq_true rfl) (Nat.le_of_ble_eq_true rfl) (by omega) (Tf184 (by omega) (i1 >>> ((7 : Int32) &&& 31)) (120 : Int32) I _ hxr767_2) ?_
    show aGo kad d 185 (770, ([(1, .int i1), (2, .int i2)], [.int r767_2.1, .int s0, .int s1, .ref a0])) (aMem Z r767_2.2, t) _
    refine go_ops aMi185 1 _ (f1 := (782, ([(1, .int i1), (2, .int i2)], [.int r767_2.1, .int s0, .int s1, .ref a0]))) rfl ?_
    exact (Tf185_b782 hd a0 ha0 i1 i2 r767_2.1 s0 s1 r767_2.2 _ h).mono (fun _ _ hq => qLn_tr tB.refl (by omega) hq)
def f185_b17 (kad : Nat → Nat) (N : Nat) (Z : AZ) (a0 : Nat) (i1 : Int32) (s0 : Int32) (I : AI) : Option (Int32 × AI) :=
  (f184 kad N Z i1 (46 : Int32) I).bind fun r21_1 =>
  if (18 : Int32) ≤ r21_1.1 then
    if (28 : Int32) ≤ r21_1.1 then
      if (34 : Int32) ≤ r21_1.1 then
        if (40 : Int32) ≤ r21_1.1 then
          if (42 : Int32) ≤ r21_1.1 then
            if (44 : Int32) ≤ r21_1.1 then
              if ¬ r21_1.1 = (44 : Int32) then
                (fH1 kad N Z a0 (12 : Int32) (0 : Int32) (0 : Int32) (0 : Int32) (0 : Int32) r21_1.2).bind fun r848_2 =>
                f185_b851 kad N Z a0 r848_2.1 r848_2.2
              else
                if s0 = 0 then
                  (f184 kad N Z (i1 >>> ((6 : Int32) &&& 31)) (60 : Int32) r21_1.2).bind fun r753_3 =>
                  f185_b757 kad N Z a0 i1 s0 ((1 : Int32) + r753_3.1) (11 : Int32) r753_3.2
                else
                  (f184 kad N Z (i1 >>> ((6 : Int32) &&& 31)) (600 : Int32) r21_1.2).bind fun r740_4 =>
                  f185_b757 kad N Z a0 i1 s0 r740_4.1 (11 : Int32) r740_4.2
            else
              if ¬ r21_1.1 = (42 : Int32) then
                f185_b685 kad N Z a0 i1 s0 (10 : Int32) r21_1.2
              else
                f185_b685 kad N Z a0 i1 s0 (9 : Int32) r21_1.2
          else
            if ¬ ((i1 >>> ((7 : Int32) &&& 31)) &&& (1 : Int32)) = 0 then
              if ¬ r21_1.1 = (40 : Int32) then
                if ¬ ((i1 >>> ((8 : Int32) &&& 31)) &&& (3 : Int32)) = 0 then
                  (fH1 kad N Z a0 (2 : Int32) (0 : Int32) (0 : Int32) (0 : Int32) (0 : Int32) r21_1.2).bind fun r661_5 =>
                  f185_b664 kad N Z a0 r661_5.1 r661_5.2
                else
                  (f124 kad N Z a0 r21_1.2).bind fun r649_6 =>
                  f185_b664 kad N Z a0 r649_6.1 r649_6.2
              else
                (fH1 kad N Z a0 (2 : Int32) (0 : Int32) (0 : Int32) (0 : Int32) (0 : Int32) r21_1.2).bind fun r633_7 =>
                f185_b664 kad N Z a0 r633_7.1 r633_7.2
            else
              (f125 kad N Z a0 r21_1.2).bind fun r615_8 =>
              f185_b664 kad N Z a0 r615_8.1 r615_8.2
        else
          if (36 : Int32) ≤ r21_1.1 then
            if (39 : Int32) ≤ r21_1.1 then
              f185_b564 kad N Z a0 i1 r21_1.1 (3 : Int32) r21_1.2
            else
              f185_b564 kad N Z a0 i1 r21_1.1 (1 : Int32) r21_1.2
          else
            f185_b564 kad N Z a0 i1 r21_1.1 (0 : Int32) r21_1.2
      else
        if (31 : Int32) ≤ r21_1.1 then
          if s0 = 0 then
            (f184 kad N Z (i1 >>> ((6 : Int32) &&& 31)) (65536 : Int32) r21_1.2).bind fun r527_9 =>
            f185_b530 kad N Z a0 r527_9.1 (7 : Int32) r527_9.2
          else
            (f184 kad N Z (i1 >>> ((6 : Int32) &&& 31)) (70000 : Int32) r21_1.2).bind fun r512_10 =>
            f185_b530 kad N Z a0 (r512_10.1 - (99 : Int32)) (7 : Int32) r512_10.2
        else
          if s0 = 0 then
            (f184 kad N Z (i1 >>> ((6 : Int32) &&& 31)) (15 : Int32) r21_1.2).bind fun r486_11 =>
            f185_b490 kad N Z a0 ((1 : Int32) + r486_11.1) (6 : Int32) r486_11.2
          else
            (f184 kad N Z (i1 >>> ((6 : Int32) &&& 31)) (250 : Int32) r21_1.2).bind fun r470_12 =>
            f185_b490 kad N Z a0 (r470_12.1 - (20 : Int32)) (6 : Int32) r470_12.2
    else
      if (26 : Int32) ≤ r21_1.1 then
        if s0 = 0 then
          (f184 kad N Z (i1 >>> ((6 : Int32) &&& 31)) (10 : Int32) r21_1.2).bind fun r413_13 =>
          f185_b418 kad N Z a0 i1 s0 ((8 : Int32) + ((2 : Int32) * r413_13.1)) (5 : Int32) r413_13.2
        else
          (f184 kad N Z (i1 >>> ((6 : Int32) &&& 31)) (300 : Int32) r21_1.2).bind fun r395_14 =>
          f185_b418 kad N Z a0 i1 s0 (r395_14.1 - (20 : Int32)) (5 : Int32) r395_14.2
      else
        if s0 = 0 then
          (f184 kad N Z (i1 >>> ((6 : Int32) &&& 31)) (20 : Int32) r21_1.2).bind fun r369_15 =>
          f185_b373 kad N Z a0 ((1 : Int32) + r369_15.1) (4 : Int32) r369_15.2
        else
          (f184 kad N Z (i1 >>> ((6 : Int32) &&& 31)) (130 : Int32) r21_1.2).bind fun r353_16 =>
          f185_b373 kad N Z a0 (r353_16.1 - (10 : Int32)) (4 : Int32) r353_16.2
  else
    if s0 = 0 then
      if ¬ ((i1 >>> ((16 : Int32) &&& 31)) &&& (3 : Int32)) = 0 then
        f185_b71 kad N Z a0 i1 s0 (9 : Int32) (i1 >>> ((8 : Int32) &&& 31)) r21_1.2
      else
        f185_b71 kad N Z a0 i1 s0 (300 : Int32) (i1 >>> ((8 : Int32) &&& 31)) r21_1.2
    else
      (f184 kad N Z (i1 >>> ((8 : Int32) &&& 31)) (66000 : Int32) r21_1.2).bind fun r41_17 =>
      f185_b74 kad N Z a0 i1 s0 (r41_17.1 - (100 : Int32)) r41_17.2
set_option maxRecDepth 20000 in
theorem Tf185_b17 {kad : Nat → Nat} {N : Nat} {Z : AZ} {d : Nat} {t : Option Nat × (Nat × Nat)} (hd : 22 ≤ d) : ∀ (a0 : Nat) (ha0 : sh10 kad Z a0) (i1 : Int32) (s0 : Int32) (I : AI) (r : Int32 × AI), f185_b17 kad N Z a0 i1 s0 I = some r → aGo kad d 185 (17, ([(0, .ref a0), (1, .int i1)], [.int s0])) (aMem Z I, t) (qLn (1) tvI Z t r) := by
  intro a0 ha0 i1 s0 I r h
  unfold f185_b17 at h
  refine go_ops aMi185 3 _ (f1 := (21, ([(2, .int s0), (0, .ref a0), (1, .int i1)], [.int (46 : Int32), .int i1]))) rfl ?_
  obtain ⟨r21_1, hxr21_1, h⟩ := Option.bind_eq_some_iff.mp h
  refine gg_cs (as := [.int i1, .int (46 : Int32)]) (r := []) aMi185 rfl rfl rfl aMi184 rfl (Nat.le_of_ble_eq_true rfl) (Nat.le_of_ble_eq_true rfl) (by omega) (Tf184 (by omega) i1 (46 : Int32) I _ hxr21_1) ?_
  show aGo kad d 185 (24, ([(2, .int s0), (0, .ref a0), (1, .int i1)], [.int r21_1.1])) (aMem Z r21_1.2, t) _
  refine go_ops aMi185 3 _ (f1 := (28, ([(3, .int r21_1.1), (2, .int s0), (0, .ref a0), (1, .int i1)], [.int (18 : Int32), .int r21_1.1]))) rfl ?_
  refine gg_br (b := decide ((18 : Int32) ≤ r21_1.1)) (tg := 328) (off := 300) aMi185 rfl rfl rfl rfl (fun hb => ?_) (fun hb => ?_)
  · rw [if_pos (of_decide_eq_true hb)] at h
    refine go_ops aMi185 2 _ (f1 := (331, ([(3, .int r21_1.1), (2, .int s0), (0, .ref a0), (1, .int i1)], [.int (28 : Int32), .int r21_1.1]))) rfl ?_
    refine gg_br (b := decide ((28 : Int32) ≤ r21_1.1)) (tg := 444) (off := 113) aMi185 rfl rfl rfl rfl (fun hb => ?_) (fun hb => ?_)
    · rw [if_pos (of_decide_eq_true hb)] at h
      refine go_ops aMi185 2 _ (f1 := (447, ([(3, .int r21_1.1), (2, .int s0), (0, .ref a0), (1, .int i1)], [.int (34 : Int32), .int r21_1.1]))) rfl ?_
      refine gg_br (b := decide ((34 : Int32) ≤ r21_1.1)) (tg := 537) (off := 90) aMi185 rfl rfl rfl rfl (fun hb => ?_) (fun hb => ?_)
      · rw [if_pos (of_decide_eq_true hb)] at h
        refine go_ops aMi185 2 _ (f1 := (540, ([(3, .int r21_1.1), (2, .int s0), (0, .ref a0), (1, .int i1)], [.int (40 : Int32), .int r21_1.1]))) rfl ?_
        refine gg_br (b := decide ((40 : Int32) ≤ r21_1.1)) (tg := 599) (off := 59) aMi185 rfl rfl rfl rfl (fun hb => ?_) (fun hb => ?_)
        · rw [if_pos (of_decide_eq_true hb)] at h
          refine go_ops aMi185 2 _ (f1 := (602, ([(3, .int r21_1.1), (2, .int s0), (0, .ref a0), (1, .int i1)], [.int (42 : Int32), .int r21_1.1]))) rfl ?_
          refine gg_br (b := decide ((42 : Int32) ≤ r21_1.1)) (tg := 665) (off := 63) aMi185 rfl rfl rfl rfl (fun hb => ?_) (fun hb => ?_)
          · rw [if_pos (of_decide_eq_true hb)] at h
            refine go_ops aMi185 2 _ (f1 := (668, ([(3, .int r21_1.1), (2, .int s0), (0, .ref a0), (1, .int i1)], [.int (44 : Int32), .int r21_1.1]))) rfl ?_
            refine gg_br (b := decide ((44 : Int32) ≤ r21_1.1)) (tg := 720) (off := 52) aMi185 rfl rfl rfl rfl (fun hb => ?_) (fun hb => ?_)
            · rw [if_pos (of_decide_eq_true hb)] at h
              refine go_ops aMi185 2 _ (f1 := (723, ([(3, .int r21_1.1), (2, .int s0), (0, .ref a0), (1, .int i1)], [.int (44 : Int32), .int r21_1.1]))) rfl ?_
              refine gg_br (b := decide (¬ r21_1.1 = (44 : Int32))) (tg := 841) (off := 118) aMi185 rfl rfl rfl rfl (fun hb => ?_) (fun hb => ?_)
              · rw [if_pos (of_decide_eq_true hb)] at h
                refine go_ops aMi185 6 _ (f1 := (848, ([(3, .int r21_1.1), (2, .int s0), (0, .ref a0), (1, .int i1)], [.int (0 : Int32), .int (0 : Int32), .int (0 : Int32), .int (0 : Int32), .int (12 : Int32), .ref a0]))) rfl ?_
                obtain ⟨r848_2, hxr848_2, h⟩ := Option.bind_eq_some_iff.mp h
                refine gg_hl (as := [.ref a0, .int (12 : Int32), .int (0 : Int32), .int (0 : Int32), .int (0 : Int32), .int (0 : Int32)]) (r := []) aMi185 rfl rfl rfl rfl rfl (Nat.le_of_ble_eq_true rfl) (Nat.le_of_ble_eq_true rfl) (by omega) (TH1 (by omega) a0 ha0 (12 : Int32) (0 : Int32) (0 : Int32) (0 : Int32) (0 : Int32) r21_1.2 _ hxr848_2) (fun t848_2 ht848_2 => ?_)
                show aGo kad d 185 (851, ([(3, .int r21_1.1), (2, .int s0), (0, .ref a0), (1, .int i1)], [.int r848_2.1])) (aMem Z r848_2.2, t848_2) _
                refine go_le (lv1 := []) (aLe_of (show (List.map (fun q => q.1) ([] : ALv)).Nodup from (by show ([] : List Nat).Nodup; decide)) aSubL_nil) ?_
                exact (Tf185_b851 hd a0 ha0 r848_2.1 r848_2.2 _ h).mono (fun _ _ hq => qLn_tr (tB.refl.tr ht848_2) (by omega) hq)
              · rw [if_neg (of_decide_eq_false hb)] at h
                refine go_ops aMi185 3 _ (f1 := (730, ([(3, .int r21_1.1), (2, .int s0), (0, .ref a0), (1, .int i1)], [.int s0, .int (11 : Int32), .ref a0]))) rfl ?_
                refine gg_br (b := decide (s0 = 0)) (tg := 746) (off := 16) aMi185 rfl rfl rfl rfl (fun hb => ?_) (fun hb => ?_)
                · rw [if_pos (of_decide_eq_true hb)] at h
                  refine go_ops aMi185 5 _ (f1 := (753, ([(3, .int r21_1.1), (2, .int s0), (0, .ref a0), (1, .int i1)], [.int (60 : Int32), .int (i1 >>> ((6 : Int32) &&& 31)), .int (1 : Int32), .int (11 : Int32), .ref a0]))) rfl ?_
                  obtain ⟨r753_3, hxr753_3, h⟩ := Option.bind_eq_some_iff.mp h
                  refine gg_cs (as := [.int (i1 >>> ((6 : Int32) &&& 31)), .int (60 : Int32)]) (r := [.int (1 : Int32), .int (11 : Int32), .ref a0]) aMi185 rfl rfl rfl aMi184 rfl (Nat.le_of_ble_eq_true rfl) (Nat.le_of_ble_eq_true rfl) (by omega) (Tf184 (by omega) (i1 >>> ((6 : Int32) &&& 31)) (60 : Int32) r21_1.2 _ hxr753_3) ?_
                  show aGo kad d 185 (756, ([(3, .int r21_1.1), (2, .int s0), (0, .ref a0), (1, .int i1)], [.int r753_3.1, .int (1 : Int32), .int (11 : Int32), .ref a0])) (aMem Z r753_3.2, t) _
                  refine go_ops aMi185 1 _ (f1 := (757, ([(3, .int r21_1.1), (2, .int s0), (0, .ref a0), (1, .int i1)], [.int ((1 : Int32) + r753_3.1), .int (11 : Int32), .ref a0]))) rfl ?_
                  refine go_le (lv1 := [(1, .int i1), (2, .int s0)]) (aLe_of (show (List.map (fun q => q.1) ([(1, .int i1), (2, .int s0)] : ALv)).Nodup from (by show ([1, 2] : List Nat).Nodup; decide)) (aSubL_cons rfl (aSubL_cons rfl aSubL_nil))) ?_
                  exact (Tf185_b757 hd a0 ha0 i1 s0 ((1 : Int32) + r753_3.1) (11 : Int32) r753_3.2 _ h).mono (fun _ _ hq => qLn_tr tB.refl (by omega) hq)
                · rw [if_neg (of_decide_eq_false hb)] at h
                  refine go_ops aMi185 4 _ (f1 := (740, ([(3, .int r21_1.1), (2, .int s0), (0, .ref a0), (1, .int i1)], [.int (600 : Int32), .int (i1 >>> ((6 : Int32) &&& 31)), .int (11 : Int32), .ref a0]))) rfl ?_
                  obtain ⟨r740_4, hxr740_4, h⟩ := Option.bind_eq_some_iff.mp h
                  refine gg_cs (as := [.int (i1 >>> ((6 : Int32) &&& 31)), .int (600 : Int32)]) (r := [.int (11 : Int32), .ref a0]) aMi185 rfl rfl rfl aMi184 rfl (Nat.le_of_ble_eq_true rfl) (Nat.le_of_ble_eq_true rfl) (by omega) (Tf184 (by omega) (i1 >>> ((6 : Int32) &&& 31)) (600 : Int32) r21_1.2 _ hxr740_4) ?_
                  show aGo kad d 185 (743, ([(3, .int r21_1.1), (2, .int s0), (0, .ref a0), (1, .int i1)], [.int r740_4.1, .int (11 : Int32), .ref a0])) (aMem Z r740_4.2, t) _
                  refine go_ops aMi185 1 _ (f1 := (757, ([(3, .int r21_1.1), (2, .int s0), (0, .ref a0), (1, .int i1)], [.int r740_4.1, .int (11 : Int32), .ref a0]))) rfl ?_
                  refine go_le (lv1 := [(1, .int i1), (2, .int s0)]) (aLe_of (show (List.map (fun q => q.1) ([(1, .int i1), (2, .int s0)] : ALv)).Nodup from (by show ([1, 2] : List Nat).Nodup; decide)) (aSubL_cons rfl (aSubL_cons rfl aSubL_nil))) ?_
                  exact (Tf185_b757 hd a0 ha0 i1 s0 r740_4.1 (11 : Int32) r740_4.2 _ h).mono (fun _ _ hq => qLn_tr tB.refl (by omega) hq)
            · rw [if_neg (of_decide_eq_false hb)] at h
              refine go_ops aMi185 3 _ (f1 := (675, ([(3, .int r21_1.1), (2, .int s0), (0, .ref a0), (1, .int i1)], [.int (42 : Int32), .int r21_1.1, .ref a0]))) rfl ?_
              refine gg_br (b := decide (¬ r21_1.1 = (42 : Int32))) (tg := 683) (off := 8) aMi185 rfl rfl rfl rfl (fun hb => ?_) (fun hb => ?_)
              · rw [if_pos (of_decide_eq_true hb)] at h
                refine go_ops aMi185 1 _ (f1 := (685, ([(3, .int r21_1.1), (2, .int s0), (0, .ref a0), (1, .int i1)], [.int (10 : Int32), .ref a0]))) rfl ?_
                refine go_le (lv1 := [(1, .int i1), (2, .int s0)]) (aLe_of (show (List.map (fun q => q.1) ([(1, .int i1), (2, .int s0)] : ALv)).Nodup from (by show ([1, 2] : List Nat).Nodup; decide)) (aSubL_cons rfl (aSubL_cons rfl aSubL_nil))) ?_
                exact (Tf185_b685 hd a0 ha0 i1 s0 (10 : Int32) r21_1.2 _ h).mono (fun _ _ hq => qLn_tr tB.refl (by omega) hq)
              · rw [if_neg (of_decide_eq_false hb)] at h
                refine go_ops aMi185 2 _ (f1 := (685, ([(3, .int r21_1.1), (2, .int s0), (0, .ref a0), (1, .int i1)], [.int (9 : Int32), .ref a0]))) rfl ?_
                refine go_le (lv1 := [(1, .int i1), (2, .int s0)]) (aLe_of (show (List.map (fun q => q.1) ([(1, .int i1), (2, .int s0)] : ALv)).Nodup from (by show ([1, 2] : List Nat).Nodup; decide)) (aSubL_cons rfl (aSubL_cons rfl aSubL_nil))) ?_
                exact (Tf185_b685 hd a0 ha0 i1 s0 (9 : Int32) r21_1.2 _ h).mono (fun _ _ hq => qLn_tr tB.refl (by omega) hq)
          · rw [if_neg (of_decide_eq_false hb)] at h
            refine go_ops aMi185 5 _ (f1 := (611, ([(3, .int r21_1.1), (2, .int s0), (0, .ref a0), (1, .int i1)], [.int ((i1 >>> ((7 : Int32) &&& 31)) &&& (1 : Int32))]))) rfl ?_
            refine gg_br (b := decide (¬ ((i1 >>> ((7 : Int32) &&& 31)) &&& (1 : Int32)) = 0)) (tg := 621) (off := 10) aMi185 rfl rfl rfl rfl (fun hb => ?_) (fun hb => ?_)
            · rw [if_pos (of_decide_eq_true hb)] at h
              refine go_ops aMi185 2 _ (f1 := (624, ([(3, .int r21_1.1), (2, .int s0), (0, .ref a0), (1, .int i1)], [.int (40 : Int32), .int r21_1.1]))) rfl ?_
              refine gg_br (b := decide (¬ r21_1.1 = (40 : Int32))) (tg := 639) (off := 15) aMi185 rfl rfl rfl rfl (fun hb => ?_) (fun hb => ?_)
              · rw [if_pos (of_decide_eq_true hb)] at h
                refine go_ops aMi185 5 _ (f1 := (645, ([(3, .int r21_1.1), (2, .int s0), (0, .ref a0), (1, .int i1)], [.int ((i1 >>> ((8 : Int32) &&& 31)) &&& (3 : Int32))]))) rfl ?_
                refine gg_br (b := decide (¬ ((i1 >>> ((8 : Int32) &&& 31)) &&& (3 : Int32)) = 0)) (tg := 655) (off := 10) aMi185 rfl rfl rfl rfl (fun hb => ?_) (fun hb => ?_)
                · rw [if_pos (of_decide_eq_true hb)] at h
                  refine go_ops aMi185 6 _ (f1 := (661, ([(3, .int r21_1.1), (2, .int s0), (0, .ref a0), (1, .int i1)], [.int (0 : Int32), .int (0 : Int32), .int (0 : Int32), .int (0 : Int32), .int (2 : Int32), .ref a0]))) rfl ?_
                  obtain ⟨r661_5, hxr661_5, h⟩ := Option.bind_eq_some_iff.mp h
                  refine gg_hl (as := [.ref a0, .int (2 : Int32), .int (0 : Int32), .int (0 : Int32), .int (0 : Int32), .int (0 : Int32)]) (r := []) aMi185 rfl rfl rfl rfl rfl (Nat.le_of_ble_eq_true rfl) (Nat.le_of_ble_eq_true rfl) (by omega) (TH1 (by omega) a0 ha0 (2 : Int32) (0 : Int32) (0 : Int32) (0 : Int32) (0 : Int32) r21_1.2 _ hxr661_5) (fun t661_5 ht661_5 => ?_)
                  show aGo kad d 185 (664, ([(3, .int r21_1.1), (2, .int s0), (0, .ref a0), (1, .int i1)], [.int r661_5.1])) (aMem Z r661_5.2, t661_5) _
                  refine go_le (lv1 := []) (aLe_of (show (List.map (fun q => q.1) ([] : ALv)).Nodup from (by show ([] : List Nat).Nodup; decide)) aSubL_nil) ?_
                  exact (Tf185_b664 hd a0 ha0 r661_5.1 r661_5.2 _ h).mono (fun _ _ hq => qLn_tr (tB.refl.tr ht661_5) (by omega) hq)
                · rw [if_neg (of_decide_eq_false hb)] at h
                  refine go_ops aMi185 1 _ (f1 := (649, ([(3, .int r21_1.1), (2, .int s0), (0, .ref a0), (1, .int i1)], [.ref a0]))) rfl ?_
                  obtain ⟨r649_6, hxr649_6, h⟩ := Option.bind_eq_some_iff.mp h
                  refine gg_cv (as := []) (r := []) aMi185 rfl rfl rfl aMi124 (Nat.le_of_ble_eq_true rfl) rfl (Nat.le_of_ble_eq_true rfl) (Nat.le_of_ble_eq_true rfl) (by omega) (isK_of (sh10_z ha0)) (Tf124 (by omega) a0 ha0 r21_1.2 _ hxr649_6) ?_
                  show aGo kad d 185 (652, ([(3, .int r21_1.1), (2, .int s0), (0, .ref a0), (1, .int i1)], [.int r649_6.1])) (aMem Z r649_6.2, t) _
                  refine go_ops aMi185 1 _ (f1 := (664, ([(3, .int r21_1.1), (2, .int s0), (0, .ref a0), (1, .int i1)], [.int r649_6.1]))) rfl ?_
                  refine go_le (lv1 := []) (aLe_of (show (List.map (fun q => q.1) ([] : ALv)).Nodup from (by show ([] : List Nat).Nodup; decide)) aSubL_nil) ?_
                  exact (Tf185_b664 hd a0 ha0 r649_6.1 r649_6.2 _ h).mono (fun _ _ hq => qLn_tr tB.refl (by omega) hq)
              · rw [if_neg (of_decide_eq_false hb)] at h
                refine go_ops aMi185 6 _ (f1 := (633, ([(3, .int r21_1.1), (2, .int s0), (0, .ref a0), (1, .int i1)], [.int (0 : Int32), .int (0 : Int32), .int (0 : Int32), .int (0 : Int32), .int (2 : Int32), .ref a0]))) rfl ?_
                obtain ⟨r633_7, hxr633_7, h⟩ := Option.bind_eq_some_iff.mp h
                refine gg_hl (as := [.ref a0, .int (2 : Int32), .int (0 : Int32), .int (0 : Int32), .int (0 : Int32), .int (0 : Int32)]) (r := []) aMi185 rfl rfl rfl rfl rfl (Nat.le_of_ble_eq_true rfl) (Nat.le_of_ble_eq_true rfl) (by omega) (TH1 (by omega) a0 ha0 (2 : Int32) (0 : Int32) (0 : Int32) (0 : Int32) (0 : Int32) r21_1.2 _ hxr633_7) (fun t633_7 ht633_7 => ?_)
                show aGo kad d 185 (636, ([(3, .int r21_1.1), (2, .int s0), (0, .ref a0), (1, .int i1)], [.int r633_7.1])) (aMem Z r633_7.2, t633_7) _
                refine go_ops aMi185 1 _ (f1 := (664, ([(3, .int r21_1.1), (2, .int s0), (0, .ref a0), (1, .int i1)], [.int r633_7.1]))) rfl ?_
                refine go_le (lv1 := []) (aLe_of (show (List.map (fun q => q.1) ([] : ALv)).Nodup from (by show ([] : List Nat).Nodup; decide)) aSubL_nil) ?_
                exact (Tf185_b664 hd a0 ha0 r633_7.1 r633_7.2 _ h).mono (fun _ _ hq => qLn_tr (tB.refl.tr ht633_7) (by omega) hq)
            · rw [if_neg (of_decide_eq_false hb)] at h
              refine go_ops aMi185 1 _ (f1 := (615, ([(3, .int r21_1.1), (2, .int s0), (0, .ref a0), (1, .int i1)], [.ref a0]))) rfl ?_
              obtain ⟨r615_8, hxr615_8, h⟩ := Option.bind_eq_some_iff.mp h
              refine gg_cv (as := []) (r := []) aMi185 rfl rfl rfl aMi125 (Nat.le_of_ble_eq_true rfl) rfl (Nat.le_of_ble_eq_true rfl) (Nat.le_of_ble_eq_true rfl) (by omega) (isK_of (sh10_z ha0)) (Tf125 (by omega) a0 ha0 r21_1.2 _ hxr615_8) ?_
              show aGo kad d 185 (618, ([(3, .int r21_1.1), (2, .int s0), (0, .ref a0), (1, .int i1)], [.int r615_8.1])) (aMem Z r615_8.2, t) _
              refine go_ops aMi185 1 _ (f1 := (664, ([(3, .int r21_1.1), (2, .int s0), (0, .ref a0), (1, .int i1)], [.int r615_8.1]))) rfl ?_
              refine go_le (lv1 := []) (aLe_of (show (List.map (fun q => q.1) ([] : ALv)).Nodup from (by show ([] : List Nat).Nodup; decide)) aSubL_nil) ?_
              exact (Tf185_b664 hd a0 ha0 r615_8.1 r615_8.2 _ h).mono (fun _ _ hq => qLn_tr tB.refl (by omega) hq)
        · rw [if_neg (of_decide_eq_false hb)] at h
          refine go_ops aMi185 2 _ (f1 := (546, ([(3, .int r21_1.1), (2, .int s0), (0, .ref a0), (1, .int i1)], [.int (36 : Int32), .int r21_1.1]))) rfl ?_
          refine gg_br (b := decide ((36 : Int32) ≤ r21_1.1)) (tg := 553) (off := 7) aMi185 rfl rfl rfl rfl (fun hb => ?_) (fun hb => ?_)
          · rw [if_pos (of_decide_eq_true hb)] at h
            refine go_ops aMi185 2 _ (f1 := (556, ([(3, .int r21_1.1), (2, .int s0), (0, .ref a0), (1, .int i1)], [.int (39 : Int32), .int r21_1.1]))) rfl ?_
            refine gg_br (b := decide ((39 : Int32) ≤ r21_1.1)) (tg := 563) (off := 7) aMi185 rfl rfl rfl rfl (fun hb => ?_) (fun hb => ?_)
            · rw [if_pos (of_decide_eq_true hb)] at h
              refine go_ops aMi185 1 _ (f1 := (564, ([(3, .int r21_1.1), (2, .int s0), (0, .ref a0), (1, .int i1)], [.int (3 : Int32)]))) rfl ?_
              refine go_le (lv1 := [(0, .ref a0), (1, .int i1), (3, .int r21_1.1)]) (aLe_of (show (List.map (fun q => q.1) ([(0, .ref a0), (1, .int i1), (3, .int r21_1.1)] : ALv)).Nodup from (by show ([0, 1, 3] : List Nat).Nodup; decide)) (aSubL_cons rfl (aSubL_cons rfl (aSubL_cons rfl aSubL_nil)))) ?_
              exact (Tf185_b564 hd a0 ha0 i1 r21_1.1 (3 : Int32) r21_1.2 _ h).mono (fun _ _ hq => qLn_tr tB.refl (by omega) hq)
            · rw [if_neg (of_decide_eq_false hb)] at h
              refine go_ops aMi185 2 _ (f1 := (564, ([(3, .int r21_1.1), (2, .int s0), (0, .ref a0), (1, .int i1)], [.int (1 : Int32)]))) rfl ?_
              refine go_le (lv1 := [(0, .ref a0), (1, .int i1), (3, .int r21_1.1)]) (aLe_of (show (List.map (fun q => q.1) ([(0, .ref a0), (1, .int i1), (3, .int r21_1.1)] : ALv)).Nodup from (by show ([0, 1, 3] : List Nat).Nodup; decide)) (aSubL_cons rfl (aSubL_cons rfl (aSubL_cons rfl aSubL_nil)))) ?_
              exact (Tf185_b564 hd a0 ha0 i1 r21_1.1 (1 : Int32) r21_1.2 _ h).mono (fun _ _ hq => qLn_tr tB.refl (by omega) hq)
          · rw [if_neg (of_decide_eq_false hb)] at h
            refine go_ops aMi185 2 _ (f1 := (564, ([(3, .int r21_1.1), (2, .int s0), (0, .ref a0), (1, .int i1)], [.int (0 : Int32)]))) rfl ?_
            refine go_le (lv1 := [(0, .ref a0), (1, .int i1), (3, .int r21_1.1)]) (aLe_of (show (List.map (fun q => q.1) ([(0, .ref a0), (1, .int i1), (3, .int r21_1.1)] : ALv)).Nodup from (by show ([0, 1, 3] : List Nat).Nodup; decide)) (aSubL_cons rfl (aSubL_cons rfl (aSubL_cons rfl aSubL_nil)))) ?_
            exact (Tf185_b564 hd a0 ha0 i1 r21_1.1 (0 : Int32) r21_1.2 _ h).mono (fun _ _ hq => qLn_tr tB.refl (by omega) hq)
      · rw [if_neg (of_decide_eq_false hb)] at h
        refine go_ops aMi185 2 _ (f1 := (453, ([(3, .int r21_1.1), (2, .int s0), (0, .ref a0), (1, .int i1)], [.int (31 : Int32), .int r21_1.1]))) rfl ?_
        refine gg_br (b := decide ((31 : Int32) ≤ r21_1.1)) (tg := 499) (off := 46) aMi185 rfl rfl rfl rfl (fun hb => ?_) (fun hb => ?_)
        · rw [if_pos (of_decide_eq_true hb)] at h
          refine go_ops aMi185 3 _ (f1 := (503, ([(3, .int r21_1.1), (2, .int s0), (0, .ref a0), (1, .int i1)], [.int s0, .int (7 : Int32), .ref a0]))) rfl ?_
          refine gg_br (b := decide (s0 = 0)) (tg := 521) (off := 18) aMi185 rfl rfl rfl rfl (fun hb => ?_) (fun hb => ?_)
          · rw [if_pos (of_decide_eq_true hb)] at h
            refine go_ops aMi185 3 _ (f1 := (525, ([(3, .int r21_1.1), (2, .int s0), (0, .ref a0), (1, .int i1)], [.int (i1 >>> ((6 : Int32) &&& 31)), .int (7 : Int32), .ref a0]))) rfl ?_
            refine gg_kI (Or.inl ⟨rfl, rfl⟩) aMi185 rfl rfl ?_
            obtain ⟨r527_9, hxr527_9, h⟩ := Option.bind_eq_some_iff.mp h
            refine gg_cs (as := [.int (i1 >>> ((6 : Int32) &&& 31)), .int (65536 : Int32)]) (r := [.int (7 : Int32), .ref a0]) aMi185 rfl rfl rfl aMi184 rfl (Nat.le_of_ble_eq_true rfl) (Nat.le_of_ble_eq_true rfl) (by omega) (Tf184 (by omega) (i1 >>> ((6 : Int32) &&& 31)) (65536 : Int32) r21_1.2 _ hxr527_9) ?_
            show aGo kad d 185 (530, ([(3, .int r21_1.1), (2, .int s0), (0, .ref a0), (1, .int i1)], [.int r527_9.1, .int (7 : Int32), .ref a0])) (aMem Z r527_9.2, t) _
            refine go_le (lv1 := []) (aLe_of (show (List.map (fun q => q.1) ([] : ALv)).Nodup from (by show ([] : List Nat).Nodup; decide)) aSubL_nil) ?_
            exact (Tf185_b530 hd a0 ha0 r527_9.1 (7 : Int32) r527_9.2 _ h).mono (fun _ _ hq => qLn_tr tB.refl (by omega) hq)
          · rw [if_neg (of_decide_eq_false hb)] at h
            refine go_ops aMi185 3 _ (f1 := (510, ([(3, .int r21_1.1), (2, .int s0), (0, .ref a0), (1, .int i1)], [.int (i1 >>> ((6 : Int32) &&& 31)), .int (7 : Int32), .ref a0]))) rfl ?_
            refine gg_kI (Or.inl ⟨rfl, rfl⟩) aMi185 rfl rfl ?_
            obtain ⟨r512_10, hxr512_10, h⟩ := Option.bind_eq_some_iff.mp h
            refine gg_cs (as := [.int (i1 >>> ((6 : Int32) &&& 31)), .int (70000 : Int32)]) (r := [.int (7 : Int32), .ref a0]) aMi185 rfl rfl rfl aMi184 rfl (Nat.le_of_ble_eq_true rfl) (Nat.le_of_ble_eq_true rfl) (by omega) (Tf184 (by omega) (i1 >>> ((6 : Int32) &&& 31)) (70000 : Int32) r21_1.2 _ hxr512_10) ?_
            show aGo kad d 185 (515, ([(3, .int r21_1.1), (2, .int s0), (0, .ref a0), (1, .int i1)], [.int r512_10.1, .int (7 : Int32), .ref a0])) (aMem Z r512_10.2, t) _
            refine go_ops aMi185 3 _ (f1 := (530, ([(3, .int r21_1.1), (2, .int s0), (0, .ref a0), (1, .int i1)], [.int (r512_10.1 - (99 : Int32)), .int (7 : Int32), .ref a0]))) rfl ?_
            refine go_le (lv1 := []) (aLe_of (show (List.map (fun q => q.1) ([] : ALv)).Nodup from (by show ([] : List Nat).Nodup; decide)) aSubL_nil) ?_
            exact (Tf185_b530 hd a0 ha0 (r512_10.1 - (99 : Int32)) (7 : Int32) r512_10.2 _ h).mono (fun _ _ hq => qLn_tr tB.refl (by omega) hq)
        · rw [if_neg (of_decide_eq_false hb)] at h
          refine go_ops aMi185 3 _ (f1 := (460, ([(3, .int r21_1.1), (2, .int s0), (0, .ref a0), (1, .int i1)], [.int s0, .int (6 : Int32), .ref a0]))) rfl ?_
          refine gg_br (b := decide (s0 = 0)) (tg := 479) (off := 19) aMi185 rfl rfl rfl rfl (fun hb => ?_) (fun hb => ?_)
          · rw [if_pos (of_decide_eq_true hb)] at h
            refine go_ops aMi185 5 _ (f1 := (486, ([(3, .int r21_1.1), (2, .int s0), (0, .ref a0), (1, .int i1)], [.int (15 : Int32), .int (i1 >>> ((6 : Int32) &&& 31)), .int (1 : Int32), .int (6 : Int32), .ref a0]))) rfl ?_
            obtain ⟨r486_11, hxr486_11, h⟩ := Option.bind_eq_some_iff.mp h
            refine gg_cs (as := [.int (i1 >>> ((6 : Int32) &&& 31)), .int (15 : Int32)]) (r := [.int (1 : Int32), .int (6 : Int32), .ref a0]) aMi185 rfl rfl rfl aMi184 rfl (Nat.le_of_ble_eq_true rfl) (Nat.le_of_ble_eq_true rfl) (by omega) (Tf184 (by omega) (i1 >>> ((6 : Int32) &&& 31)) (15 : Int32) r21_1.2 _ hxr486_11) ?_
            show aGo kad d 185 (489, ([(3, .int r21_1.1), (2, .int s0), (0, .ref a0), (1, .int i1)], [.int r486_11.1, .int (1 : Int32), .int (6 : Int32), .ref a0])) (aMem Z r486_11.2, t) _
            refine go_ops aMi185 1 _ (f1 := (490, ([(3, .int r21_1.1), (2, .int s0), (0, .ref a0), (1, .int i1)], [.int ((1 : Int32) + r486_11.1), .int (6 : Int32), .ref a0]))) rfl ?_
            refine go_le (lv1 := []) (aLe_of (show (List.map (fun q => q.1) ([] : ALv)).Nodup from (by show ([] : List Nat).Nodup; decide)) aSubL_nil) ?_
            exact (Tf185_b490 hd a0 ha0 ((1 : Int32) + r486_11.1) (6 : Int32) r486_11.2 _ h).mono (fun _ _ hq => qLn_tr tB.refl (by omega) hq)
          · rw [if_neg (of_decide_eq_false hb)] at h
            refine go_ops aMi185 4 _ (f1 := (470, ([(3, .int r21_1.1), (2, .int s0), (0, .ref a0), (1, .int i1)], [.int (250 : Int32), .int (i1 >>> ((6 : Int32) &&& 31)), .int (6 : Int32), .ref a0]))) rfl ?_
            obtain ⟨r470_12, hxr470_12, h⟩ := Option.bind_eq_some_iff.mp h
            refine gg_cs (as := [.int (i1 >>> ((6 : Int32) &&& 31)), .int (250 : Int32)]) (r := [.int (6 : Int32), .ref a0]) aMi185 rfl rfl rfl aMi184 rfl (Nat.le_of_ble_eq_true rfl) (Nat.le_of_ble_eq_true rfl) (by omega) (Tf184 (by omega) (i1 >>> ((6 : Int32) &&& 31)) (250 : Int32) r21_1.2 _ hxr470_12) ?_
            show aGo kad d 185 (473, ([(3, .int r21_1.1), (2, .int s0), (0, .ref a0), (1, .int i1)], [.int r470_12.1, .int (6 : Int32), .ref a0])) (aMem Z r470_12.2, t) _
            refine go_ops aMi185 3 _ (f1 := (490, ([(3, .int r21_1.1), (2, .int s0), (0, .ref a0), (1, .int i1)], [.int (r470_12.1 - (20 : Int32)), .int (6 : Int32), .ref a0]))) rfl ?_
            refine go_le (lv1 := []) (aLe_of (show (List.map (fun q => q.1) ([] : ALv)).Nodup from (by show ([] : List Nat).Nodup; decide)) aSubL_nil) ?_
            exact (Tf185_b490 hd a0 ha0 (r470_12.1 - (20 : Int32)) (6 : Int32) r470_12.2 _ h).mono (fun _ _ hq => qLn_tr tB.refl (by omega) hq)
    · rw [if_neg (of_decide_eq_false hb)] at h
      refine go_ops aMi185 2 _ (f1 := (337, ([(3, .int r21_1.1), (2, .int s0), (0, .ref a0), (1, .int i1)], [.int (26 : Int32), .int r21_1.1]))) rfl ?_
      refine gg_br (b := decide ((26 : Int32) ≤ r21_1.1)) (tg := 382) (off := 45) aMi185 rfl rfl rfl rfl (fun hb => ?_) (fun hb => ?_)
      · rw [if_pos (of_decide_eq_true hb)] at h
        refine go_ops aMi185 3 _ (f1 := (385, ([(3, .int r21_1.1), (2, .int s0), (0, .ref a0), (1, .int i1)], [.int s0, .int (5 : Int32), .ref a0]))) rfl ?_
        refine gg_br (b := decide (s0 = 0)) (tg := 404) (off := 19) aMi185 rfl rfl rfl rfl (fun hb => ?_) (fun hb => ?_)
        · rw [if_pos (of_decide_eq_true hb)] at h
          refine go_ops aMi185 6 _ (f1 := (413, ([(3, .int r21_1.1), (2, .int s0), (0, .ref a0), (1, .int i1)], [.int (10 : Int32), .int (i1 >>> ((6 : Int32) &&& 31)), .int (2 : Int32), .int (8 : Int32), .int (5 : Int32), .ref a0]))) rfl ?_
          obtain ⟨r413_13, hxr413_13, h⟩ := Option.bind_eq_some_iff.mp h
          refine gg_cs (as := [.int (i1 >>> ((6 : Int32) &&& 31)), .int (10 : Int32)]) (r := [.int (2 : Int32), .int (8 : Int32), .int (5 : Int32), .ref a0]) aMi185 rfl rfl rfl aMi184 rfl (Nat.le_of_ble_eq_true rfl) (Nat.le_of_ble_eq_true rfl) (by omega) (Tf184 (by omega) (i1 >>> ((6 : Int32) &&& 31)) (10 : Int32) r21_1.2 _ hxr413_13) ?_
          show aGo kad d 185 (416, ([(3, .int r21_1.1), (2, .int s0), (0, .ref a0), (1, .int i1)], [.int r413_13.1, .int (2 : Int32), .int (8 : Int32), .int (5 : Int32), .ref a0])) (aMem Z r413_13.2, t) _
          refine go_ops aMi185 2 _ (f1 := (418, ([(3, .int r21_1.1), (2, .int s0), (0, .ref a0), (1, .int i1)], [.int ((8 : Int32) + ((2 : Int32) * r413_13.1)), .int (5 : Int32), .ref a0]))) rfl ?_
          refine go_le (lv1 := [(1, .int i1), (2, .int s0)]) (aLe_of (show (List.map (fun q => q.1) ([(1, .int i1), (2, .int s0)] : ALv)).Nodup from (by show ([1, 2] : List Nat).Nodup; decide)) (aSubL_cons rfl (aSubL_cons rfl aSubL_nil))) ?_
          exact (Tf185_b418 hd a0 ha0 i1 s0 ((8 : Int32) + ((2 : Int32) * r413_13.1)) (5 : Int32) r413_13.2 _ h).mono (fun _ _ hq => qLn_tr tB.refl (by omega) hq)
        · rw [if_neg (of_decide_eq_false hb)] at h
          refine go_ops aMi185 4 _ (f1 := (395, ([(3, .int r21_1.1), (2, .int s0), (0, .ref a0), (1, .int i1)], [.int (300 : Int32), .int (i1 >>> ((6 : Int32) &&& 31)), .int (5 : Int32), .ref a0]))) rfl ?_
          obtain ⟨r395_14, hxr395_14, h⟩ := Option.bind_eq_some_iff.mp h
          refine gg_cs (as := [.int (i1 >>> ((6 : Int32) &&& 31)), .int (300 : Int32)]) (r := [.int (5 : Int32), .ref a0]) aMi185 rfl rfl rfl aMi184 rfl (Nat.le_of_ble_eq_true rfl) (Nat.le_of_ble_eq_true rfl) (by omega) (Tf184 (by omega) (i1 >>> ((6 : Int32) &&& 31)) (300 : Int32) r21_1.2 _ hxr395_14) ?_
          show aGo kad d 185 (398, ([(3, .int r21_1.1), (2, .int s0), (0, .ref a0), (1, .int i1)], [.int r395_14.1, .int (5 : Int32), .ref a0])) (aMem Z r395_14.2, t) _
          refine go_ops aMi185 3 _ (f1 := (418, ([(3, .int r21_1.1), (2, .int s0), (0, .ref a0), (1, .int i1)], [.int (r395_14.1 - (20 : Int32)), .int (5 : Int32), .ref a0]))) rfl ?_
          refine go_le (lv1 := [(1, .int i1), (2, .int s0)]) (aLe_of (show (List.map (fun q => q.1) ([(1, .int i1), (2, .int s0)] : ALv)).Nodup from (by show ([1, 2] : List Nat).Nodup; decide)) (aSubL_cons rfl (aSubL_cons rfl aSubL_nil))) ?_
          exact (Tf185_b418 hd a0 ha0 i1 s0 (r395_14.1 - (20 : Int32)) (5 : Int32) r395_14.2 _ h).mono (fun _ _ hq => qLn_tr tB.refl (by omega) hq)
      · rw [if_neg (of_decide_eq_false hb)] at h
        refine go_ops aMi185 3 _ (f1 := (343, ([(3, .int r21_1.1), (2, .int s0), (0, .ref a0), (1, .int i1)], [.int s0, .int (4 : Int32), .ref a0]))) rfl ?_
        refine gg_br (b := decide (s0 = 0)) (tg := 362) (off := 19) aMi185 rfl rfl rfl rfl (fun hb => ?_) (fun hb => ?_)
        · rw [if_pos (of_decide_eq_true hb)] at h
          refine go_ops aMi185 5 _ (f1 := (369, ([(3, .int r21_1.1), (2, .int s0), (0, .ref a0), (1, .int i1)], [.int (20 : Int32), .int (i1 >>> ((6 : Int32) &&& 31)), .int (1 : Int32), .int (4 : Int32), .ref a0]))) rfl ?_
          obtain ⟨r369_15, hxr369_15, h⟩ := Option.bind_eq_some_iff.mp h
          refine gg_cs (as := [.int (i1 >>> ((6 : Int32) &&& 31)), .int (20 : Int32)]) (r := [.int (1 : Int32), .int (4 : Int32), .ref a0]) aMi185 rfl rfl rfl aMi184 rfl (Nat.le_of_ble_eq_true rfl) (Nat.le_of_ble_eq_true rfl) (by omega) (Tf184 (by omega) (i1 >>> ((6 : Int32) &&& 31)) (20 : Int32) r21_1.2 _ hxr369_15) ?_
          show aGo kad d 185 (372, ([(3, .int r21_1.1), (2, .int s0), (0, .ref a0), (1, .int i1)], [.int r369_15.1, .int (1 : Int32), .int (4 : Int32), .ref a0])) (aMem Z r369_15.2, t) _
          refine go_ops aMi185 1 _ (f1 := (373, ([(3, .int r21_1.1), (2, .int s0), (0, .ref a0), (1, .int i1)], [.int ((1 : Int32) + r369_15.1), .int (4 : Int32), .ref a0]))) rfl ?_
          refine go_le (lv1 := []) (aLe_of (show (List.map (fun q => q.1) ([] : ALv)).Nodup from (by show ([] : List Nat).Nodup; decide)) aSubL_nil) ?_
          exact (Tf185_b373 hd a0 ha0 ((1 : Int32) + r369_15.1) (4 : Int32) r369_15.2 _ h).mono (fun _ _ hq => qLn_tr tB.refl (by omega) hq)
        · rw [if_neg (of_decide_eq_false hb)] at h
          refine go_ops aMi185 4 _ (f1 := (353, ([(3, .int r21_1.1), (2, .int s0), (0, .ref a0), (1, .int i1)], [.int (130 : Int32), .int (i1 >>> ((6 : Int32) &&& 31)), .int (4 : Int32), .ref a0]))) rfl ?_
          obtain ⟨r353_16, hxr353_16, h⟩ := Option.bind_eq_some_iff.mp h
          refine gg_cs (as := [.int (i1 >>> ((6 : Int32) &&& 31)), .int (130 : Int32)]) (r := [.int (4 : Int32), .ref a0]) aMi185 rfl rfl rfl aMi184 rfl (Nat.le_of_ble_eq_true rfl) (Nat.le_of_ble_eq_true rfl) (by omega) (Tf184 (by omega) (i1 >>> ((6 : Int32) &&& 31)) (130 : Int32) r21_1.2 _ hxr353_16) ?_
          show aGo kad d 185 (356, ([(3, .int r21_1.1), (2, .int s0), (0, .ref a0), (1, .int i1)], [.int r353_16.1, .int (4 : Int32), .ref a0])) (aMem Z r353_16.2, t) _
          refine go_ops aMi185 3 _ (f1 := (373, ([(3, .int r21_1.1), (2, .int s0), (0, .ref a0), (1, .int i1)], [.int (r353_16.1 - (10 : Int32)), .int (4 : Int32), .ref a0]))) rfl ?_
          refine go_le (lv1 := []) (aLe_of (show (List.map (fun q => q.1) ([] : ALv)).Nodup from (by show ([] : List Nat).Nodup; decide)) aSubL_nil) ?_
          exact (Tf185_b373 hd a0 ha0 (r353_16.1 - (10 : Int32)) (4 : Int32) r353_16.2 _ h).mono (fun _ _ hq => qLn_tr tB.refl (by omega) hq)
  · rw [if_neg (of_decide_eq_false hb)] at h
    refine go_ops aMi185 1 _ (f1 := (32, ([(3, .int r21_1.1), (2, .int s0), (0, .ref a0), (1, .int i1)], [.int s0]))) rfl ?_
    refine gg_br (b := decide (s0 = 0)) (tg := 50) (off := 18) aMi185 rfl rfl rfl rfl (fun hb => ?_) (fun hb => ?_)
    · rw [if_pos (of_decide_eq_true hb)] at h
      refine go_ops aMi185 8 _ (f1 := (60, ([(3, .int r21_1.1), (2, .int s0), (0, .ref a0), (1, .int i1)], [.int ((i1 >>> ((16 : Int32) &&& 31)) &&& (3 : Int32)), .int (i1 >>> ((8 : Int32) &&& 31))]))) rfl ?_
      refine gg_br (b := decide (¬ ((i1 >>> ((16 : Int32) &&& 31)) &&& (3 : Int32)) = 0)) (tg := 69) (off := 9) aMi185 rfl rfl rfl rfl (fun hb => ?_) (fun hb => ?_)
      · rw [if_pos (of_decide_eq_true hb)] at h
        refine go_ops aMi185 1 _ (f1 := (71, ([(3, .int r21_1.1), (2, .int s0), (0, .ref a0), (1, .int i1)], [.int (9 : Int32), .int (i1 >>> ((8 : Int32) &&& 31))]))) rfl ?_
        refine go_le (lv1 := [(0, .ref a0), (1, .int i1), (2, .int s0)]) (aLe_of (show (List.map (fun q => q.1) ([(0, .ref a0), (1, .int i1), (2, .int s0)] : ALv)).Nodup from (by show ([0, 1, 2] : List Nat).Nodup; decide)) (aSubL_cons rfl (aSubL_cons rfl (aSubL_cons rfl aSubL_nil)))) ?_
        exact (Tf185_b71 hd a0 ha0 i1 s0 (9 : Int32) (i1 >>> ((8 : Int32) &&& 31)) r21_1.2 _ h).mono (fun _ _ hq => qLn_tr tB.refl (by omega) hq)
      · rw [if_neg (of_decide_eq_false hb)] at h
        refine go_ops aMi185 2 _ (f1 := (71, ([(3, .int r21_1.1), (2, .int s0), (0, .ref a0), (1, .int i1)], [.int (300 : Int32), .int (i1 >>> ((8 : Int32) &&& 31))]))) rfl ?_
        refine go_le (lv1 := [(0, .ref a0), (1, .int i1), (2, .int s0)]) (aLe_of (show (List.map (fun q => q.1) ([(0, .ref a0), (1, .int i1), (2, .int s0)] : ALv)).Nodup from (by show ([0, 1, 2] : List Nat).Nodup; decide)) (aSubL_cons rfl (aSubL_cons rfl (aSubL_cons rfl aSubL_nil)))) ?_
        exact (Tf185_b71 hd a0 ha0 i1 s0 (300 : Int32) (i1 >>> ((8 : Int32) &&& 31)) r21_1.2 _ h).mono (fun _ _ hq => qLn_tr tB.refl (by omega) hq)
    · rw [if_neg (of_decide_eq_false hb)] at h
      refine go_ops aMi185 3 _ (f1 := (39, ([(3, .int r21_1.1), (2, .int s0), (0, .ref a0), (1, .int i1)], [.int (i1 >>> ((8 : Int32) &&& 31))]))) rfl ?_
      refine gg_kI (Or.inl ⟨rfl, rfl⟩) aMi185 rfl rfl ?_
      obtain ⟨r41_17, hxr41_17, h⟩ := Option.bind_eq_some_iff.mp h
      refine gg_cs (as := [.int (i1 >>> ((8 : Int32) &&& 31)), .int (66000 : Int32)]) (r := []) aMi185 rfl rfl rfl aMi184 rfl (Nat.le_of_ble_eq_true rfl) (Nat.le_of_ble_eq_true rfl) (by omega) (Tf184 (by omega) (i1 >>> ((8 : Int32) &&& 31)) (66000 : Int32) r21_1.2 _ hxr41_17) ?_
      show aGo kad d 185 (44, ([(3, .int r21_1.1), (2, .int s0), (0, .ref a0), (1, .int i1)], [.int r41_17.1])) (aMem Z r41_17.2, t) _
      refine go_ops aMi185 3 _ (f1 := (74, ([(3, .int r21_1.1), (2, .int s0), (0, .ref a0), (1, .int i1)], [.int (r41_17.1 - (100 : Int32))]))) rfl ?_
      refine go_le (lv1 := [(0, .ref a0), (1, .int i1), (2, .int s0)]) (aLe_of (show (List.map (fun q => q.1) ([(0, .ref a0), (1, .int i1), (2, .int s0)] : ALv)).Nodup from (by show ([0, 1, 2] : List Nat).Nodup; decide)) (aSubL_cons rfl (aSubL_cons rfl (aSubL_cons rfl aSubL_nil)))) ?_
      exact (Tf185_b74 hd a0 ha0 i1 s0 (r41_17.1 - (100 : Int32)) r41_17.2 _ h).mono (fun _ _ hq => qLn_tr tB.refl (by omega) hq)
def f185 (kad : Nat → Nat) (N : Nat) (Z : AZ) (a0 : Nat) (i1 : Int32) (I : AI) : Option (Int32 × AI) :=
  if ¬ ((i1 >>> ((18 : Int32) &&& 31)) &&& (7 : Int32)) = (7 : Int32) then
    f185_b17 kad N Z a0 i1 (0 : Int32) I
  else
    f185_b17 kad N Z a0 i1 (1 : Int32) I
set_option maxRecDepth 20000 in
theorem Tf185 {kad : Nat → Nat} {N : Nat} {Z : AZ} {d : Nat} {t : Option Nat × (Nat × Nat)} (hd : 22 ≤ d) : ∀ (a0 : Nat) (ha0 : sh10 kad Z a0) (i1 : Int32) (I : AI) (r : Int32 × AI), f185 kad N Z a0 i1 I = some r → aGo kad d 185 (0, ([(0, .ref a0), (1, .int i1)], [])) (aMem Z I, t) (qLn (1) tvI Z t r) := by
  intro a0 ha0 i1 I r h
  unfold f185 at h
  refine go_ops aMi185 6 _ (f1 := (9, ([(0, .ref a0), (1, .int i1)], [.int (7 : Int32), .int ((i1 >>> ((18 : Int32) &&& 31)) &&& (7 : Int32))]))) rfl ?_
  refine gg_br (b := decide (¬ ((i1 >>> ((18 : Int32) &&& 31)) &&& (7 : Int32)) = (7 : Int32))) (tg := 16) (off := 7) aMi185 rfl rfl rfl rfl (fun hb => ?_) (fun hb => ?_)
  · rw [if_pos (of_decide_eq_true hb)] at h
    refine go_ops aMi185 1 _ (f1 := (17, ([(0, .ref a0), (1, .int i1)], [.int (0 : Int32)]))) rfl ?_
    exact (Tf185_b17 hd a0 ha0 i1 (0 : Int32) I _ h).mono (fun _ _ hq => qLn_tr tB.refl (by omega) hq)
  · rw [if_neg (of_decide_eq_false hb)] at h
    refine go_ops aMi185 2 _ (f1 := (17, ([(0, .ref a0), (1, .int i1)], [.int (1 : Int32)]))) rfl ?_
    exact (Tf185_b17 hd a0 ha0 i1 (1 : Int32) I _ h).mono (fun _ _ hq => qLn_tr tB.refl (by omega) hq)
-- KernelGymLaw.areAlike (LKernelGym;LKernelGym;)Z
def f186_b183 (kad : Nat → Nat) (N : Nat) (Z : AZ) (k118 : Nat → Nat → Int32 → Int32 → AI → Option ((Int32 ⊕ String) × AI)) (a0 : Nat) (a1 : Nat) (i3 : Int32) (s0 : Int32) (I : AI) : Option ((Int32 ⊕ String) × AI) :=
  k118 a0 a1 s0 (i3 + (1 : Int32)) I
set_option maxRecDepth 20000 in
theorem Tf186_b183 {kad : Nat → Nat} {N : Nat} {Z : AZ} {d : Nat} {t : Option Nat × (Nat × Nat)} {bh118 : Nat} (hd : 21 ≤ d) (k118 : Nat → Nat → Int32 → Int32 → AI → Option ((Int32 ⊕ String) × AI))  (hk118 : ∀ (t : Option Nat × (Nat × Nat)) (a0 : Nat) (ha0 : sh10 kad Z a0) (a1 : Nat) (ha1 : sh10 kad Z a1) (i2 : Int32) (i3 : Int32) (I : AI) (r : (Int32 ⊕ String) × AI), k118 a0 a1 i2 i3 I = some r → aGo kad d 186 (118, ([(0, .ref a0), (1, .ref a1), (2, .int i2), (3, .int i3)], [])) (aMem Z I, t) (qLx bh118 tvI Z t r)) : ∀ (a0 : Nat) (ha0 : sh10 kad Z a0) (a1 : Nat) (ha1 : sh10 kad Z a1) (i3 : Int32) (s0 : Int32) (I : AI) (r : (Int32 ⊕ String) × AI), f186_b183 kad N Z k118 a0 a1 i3 s0 I = some r → aGo kad d 186 (183, ([(0, .ref a0), (1, .ref a1), (3, .int i3)], [.int s0])) (aMem Z I, t) (qLx (0 + bh118) tvI Z t r) := by
  intro a0 ha0 a1 ha1 i3 s0 I r h
  unfold f186_b183 at h
  refine go_ops aMi186 3 _ (f1 := (118, ([(3, .int (i3 + (1 : Int32))), (2, .int s0), (0, .ref a0), (1, .ref a1)], []))) rfl ?_
  refine go_le (lv1 := [(0, .ref a0), (1, .ref a1), (2, .int s0), (3, .int (i3 + (1 : Int32)))]) (aLe_of (show (List.map (fun q => q.1) ([(0, .ref a0), (1, .ref a1), (2, .int s0), (3, .int (i3 + (1 : Int32)))] : ALv)).Nodup from (by show ([0, 1, 2, 3] : List Nat).Nodup; decide)) (aSubL_cons rfl (aSubL_cons rfl (aSubL_cons rfl (aSubL_cons rfl aSubL_nil))))) ?_
  exact (hk118 t a0 ha0 a1 ha1 s0 (i3 + (1 : Int32)) I _ h).mono (fun _ _ hq => qLx_tr tB.refl (by omega) hq)
def f186_b182 (kad : Nat → Nat) (N : Nat) (Z : AZ) (k118 : Nat → Nat → Int32 → Int32 → AI → Option ((Int32 ⊕ String) × AI)) (a0 : Nat) (a1 : Nat) (i3 : Int32) (I : AI) : Option ((Int32 ⊕ String) × AI) :=
  f186_b183 kad N Z k118 a0 a1 i3 (0 : Int32) I
set_option maxRecDepth 20000 in
theorem Tf186_b182 {kad : Nat → Nat} {N : Nat} {Z : AZ} {d : Nat} {t : Option Nat × (Nat × Nat)} {bh118 : Nat} (hd : 21 ≤ d) (k118 : Nat → Nat → Int32 → Int32 → AI → Option ((Int32 ⊕ String) × AI))  (hk118 : ∀ (t : Option Nat × (Nat × Nat)) (a0 : Nat) (ha0 : sh10 kad Z a0) (a1 : Nat) (ha1 : sh10 kad Z a1) (i2 : Int32) (i3 : Int32) (I : AI) (r : (Int32 ⊕ String) × AI), k118 a0 a1 i2 i3 I = some r → aGo kad d 186 (118, ([(0, .ref a0), (1, .ref a1), (2, .int i2), (3, .int i3)], [])) (aMem Z I, t) (qLx bh118 tvI Z t r)) : ∀ (a0 : Nat) (ha0 : sh10 kad Z a0) (a1 : Nat) (ha1 : sh10 kad Z a1) (i3 : Int32) (I : AI) (r : (Int32 ⊕ String) × AI), f186_b182 kad N Z k118 a0 a1 i3 I = some r → aGo kad d 186 (182, ([(0, .ref a0), (1, .ref a1), (3, .int i3)], [])) (aMem Z I, t) (qLx (0 + bh118) tvI Z t r) := by
  intro a0 ha0 a1 ha1 i3 I r h
  unfold f186_b182 at h
  refine go_ops aMi186 1 _ (f1 := (183, ([(0, .ref a0), (1, .ref a1), (3, .int i3)], [.int (0 : Int32)]))) rfl ?_
  exact (Tf186_b183 hd k118 hk118 a0 ha0 a1 ha1 i3 (0 : Int32) I _ h).mono (fun _ _ hq => qLx_tr tB.refl (by omega) hq)
def f186_b190 (kad : Nat → Nat) (N : Nat) (Z : AZ) (a0 : Nat) (a1 : Nat) (i2 : Int32) (I : AI) : Option ((Int32 ⊕ String) × AI) :=
  if i2 = 0 ∨ i2 = 1 then some (.inl i2, I) else none
set_option maxRecDepth 20000 in
theorem Tf186_b190 {kad : Nat → Nat} {N : Nat} {Z : AZ} {d : Nat} {t : Option Nat × (Nat × Nat)} (hd : 21 ≤ d) : ∀ (a0 : Nat) (ha0 : sh10 kad Z a0) (a1 : Nat) (ha1 : sh10 kad Z a1) (i2 : Int32) (I : AI) (r : (Int32 ⊕ String) × AI), f186_b190 kad N Z a0 a1 i2 I = some r → aGo kad d 186 (190, ([(2, .int i2)], [])) (aMem Z I, t) (qLx (0) tvI Z t r) := by
  intro a0 ha0 a1 ha1 i2 I r h
  unfold f186_b190 at h
  refine go_ops aMi186 1 _ (f1 := (191, ([(2, .int i2)], [.int i2]))) rfl ?_
  split at h
  · rename_i hz
    cases h
    exact go_ret aMi186 rfl (aRetZ hz) (qLx_ret tB.refl)
  · cases h
def f186_b118 (kad : Nat → Nat) (N : Nat) (Z : AZ) : Nat → Nat → Nat → Int32 → Int32 → AI → Option ((Int32 ⊕ String) × AI)
  | 0, _, _, _, _, _ => none
  | F + 1, a0, a1, i2, i3, I =>
    if (5 : Int32) ≤ i3 then
      f186_b190 kad N Z a0 a1 i2 I
    else
      if i2 = 0 then
        f186_b190 kad N Z a0 a1 i2 I
      else
        (fH2 kad N Z a0 i3 I).bind fun r129_1 =>
        (fH2 kad N Z a1 i3 r129_1.2).bind fun r134_2 =>
        if ¬ r129_1.1 = r134_2.1 then
          f186_b182 kad N Z (fun p0 p1 p2 p3 I => f186_b118 kad N Z F p0 p1 p2 p3 I) a0 a1 i3 r134_2.2
        else
          (f160 kad N Z a0 ((255 : Int32) - i3) r134_2.2).bind fun r146_3 =>
          xB r146_3 fun vr146_3 Ir146_3 =>
          (f160 kad N Z a1 ((255 : Int32) - i3) Ir146_3).bind fun r155_4 =>
          xB r155_4 fun vr155_4 Ir155_4 =>
          if ¬ vr146_3 = vr155_4 then
            f186_b182 kad N Z (fun p0 p1 p2 p3 I => f186_b118 kad N Z F p0 p1 p2 p3 I) a0 a1 i3 Ir155_4
          else
            (fH3 kad N Z a0 ((1 : Int32) + i3) Ir155_4).bind fun r165_5 =>
            (fH3 kad N Z a1 ((1 : Int32) + i3) r165_5.2).bind fun r172_6 =>
            if ¬ r165_5.1 = r172_6.1 then
              f186_b182 kad N Z (fun p0 p1 p2 p3 I => f186_b118 kad N Z F p0 p1 p2 p3 I) a0 a1 i3 r172_6.2
            else
              f186_b183 kad N Z (fun p0 p1 p2 p3 I => f186_b118 kad N Z F p0 p1 p2 p3 I) a0 a1 i3 (1 : Int32) r172_6.2
set_option maxRecDepth 20000 in
theorem Tf186_b118 {kad : Nat → Nat} {N : Nat} {Z : AZ} {d : Nat} (hd : 21 ≤ d) : ∀ (F : Nat) (t : Option Nat × (Nat × Nat)) (a0 : Nat) (ha0 : sh10 kad Z a0) (a1 : Nat) (ha1 : sh10 kad Z a1) (i2 : Int32) (i3 : Int32) (I : AI) (r : (Int32 ⊕ String) × AI), f186_b118 kad N Z F a0 a1 i2 i3 I = some r → aGo kad d 186 (118, ([(0, .ref a0), (1, .ref a1), (2, .int i2), (3, .int i3)], [])) (aMem Z I, t) (qLx (4 * F) tvI Z t r) := by
  intro F
  induction F with
  | zero => intro t a0 ha0 a1 ha1 i2 i3 I r h; cases h
  | succ F ih =>
    intro t a0 ha0 a1 ha1 i2 i3 I r h
    unfold f186_b118 at h
    refine go_ops aMi186 2 _ (f1 := (120, ([(0, .ref a0), (1, .ref a1), (2, .int i2), (3, .int i3)], [.int (5 : Int32), .int i3]))) rfl ?_
    refine gg_br (b := decide ((5 : Int32) ≤ i3)) (tg := 190) (off := 70) aMi186 rfl rfl rfl rfl (fun hb => ?_) (fun hb => ?_)
    · rw [if_pos (of_decide_eq_true hb)] at h
      refine go_le (lv1 := [(2, .int i2)]) (aLe_of (show (List.map (fun q => q.1) ([(2, .int i2)] : ALv)).Nodup from (by show ([2] : List Nat).Nodup; decide)) (aSubL_cons rfl aSubL_nil)) ?_
      exact (Tf186_b190 hd a0 ha0 a1 ha1 i2 I _ h).mono (fun _ _ hq => qLx_tr tB.refl (by omega) hq)
    · rw [if_neg (of_decide_eq_false hb)] at h
      refine go_ops aMi186 1 _ (f1 := (124, ([(0, .ref a0), (1, .ref a1), (2, .int i2), (3, .int i3)], [.int i2]))) rfl ?_
      refine gg_br (b := decide (i2 = 0)) (tg := 190) (off := 66) aMi186 rfl rfl rfl rfl (fun hb => ?_) (fun hb => ?_)
      · rw [if_pos (of_decide_eq_true hb)] at h
        refine go_le (lv1 := [(2, .int i2)]) (aLe_of (show (List.map (fun q => q.1) ([(2, .int i2)] : ALv)).Nodup from (by show ([2] : List Nat).Nodup; decide)) (aSubL_cons rfl aSubL_nil)) ?_
        exact (Tf186_b190 hd a0 ha0 a1 ha1 i2 I _ h).mono (fun _ _ hq => qLx_tr tB.refl (by omega) hq)
      · rw [if_neg (of_decide_eq_false hb)] at h
        refine go_ops aMi186 2 _ (f1 := (129, ([(0, .ref a0), (1, .ref a1), (2, .int i2), (3, .int i3)], [.int i3, .ref a0]))) rfl ?_
        obtain ⟨r129_1, hxr129_1, h⟩ := Option.bind_eq_some_iff.mp h
        refine gg_hl (as := [.ref a0, .int i3]) (r := []) aMi186 rfl rfl rfl rfl rfl (Nat.le_of_ble_eq_true rfl) (Nat.le_of_ble_eq_true rfl) (by omega) (TH2 (by omega) a0 ha0 i3 I _ hxr129_1) (fun t129_1 ht129_1 => ?_)
        show aGo kad d 186 (132, ([(0, .ref a0), (1, .ref a1), (2, .int i2), (3, .int i3)], [.int r129_1.1])) (aMem Z r129_1.2, t129_1) _
        refine go_ops aMi186 2 _ (f1 := (134, ([(0, .ref a0), (1, .ref a1), (2, .int i2), (3, .int i3)], [.int i3, .ref a1, .int r129_1.1]))) rfl ?_
        obtain ⟨r134_2, hxr134_2, h⟩ := Option.bind_eq_some_iff.mp h
        refine gg_hl (as := [.ref a1, .int i3]) (r := [.int r129_1.1]) aMi186 rfl rfl rfl rfl rfl (Nat.le_of_ble_eq_true rfl) (Nat.le_of_ble_eq_true rfl) (by omega) (TH2 (by omega) a1 ha1 i3 r129_1.2 _ hxr134_2) (fun t134_2 ht134_2 => ?_)
        show aGo kad d 186 (137, ([(0, .ref a0), (1, .ref a1), (2, .int i2), (3, .int i3)], [.int r134_2.1, .int r129_1.1])) (aMem Z r134_2.2, t134_2) _
        refine gg_br (b := decide (¬ r129_1.1 = r134_2.1)) (tg := 182) (off := 45) aMi186 rfl rfl rfl rfl (fun hb => ?_) (fun hb => ?_)
        · rw [if_pos (of_decide_eq_true hb)] at h
          refine go_le (lv1 := [(0, .ref a0), (1, .ref a1), (3, .int i3)]) (aLe_of (show (List.map (fun q => q.1) ([(0, .ref a0), (1, .ref a1), (3, .int i3)] : ALv)).Nodup from (by show ([0, 1, 3] : List Nat).Nodup; decide)) (aSubL_cons rfl (aSubL_cons rfl (aSubL_cons rfl aSubL_nil)))) ?_
          exact (Tf186_b182 hd (fun p0 p1 p2 p3 I => f186_b118 kad N Z F p0 p1 p2 p3 I) (fun t p0 q0 p1 q1 p2 p3 I r hh => ih t p0 q0 p1 q1 p2 p3 I r hh) a0 ha0 a1 ha1 i3 r134_2.2 _ h).mono (fun _ _ hq => qLx_tr ((tB.refl.tr ht129_1).tr ht134_2) (by omega) hq)
        · rw [if_neg (of_decide_eq_false hb)] at h
          refine go_ops aMi186 4 _ (f1 := (146, ([(0, .ref a0), (1, .ref a1), (2, .int i2), (3, .int i3)], [.int ((255 : Int32) - i3), .ref a0]))) rfl ?_
          obtain ⟨r146_3, hxr146_3, h⟩ := Option.bind_eq_some_iff.mp h
          rcases xB_eq h with ⟨vr146_3, Ir146_3, her146_3, h2⟩ | ⟨Er146_3, Ir146_3, her146_3, h2⟩
          rotate_left
          · clear h
            subst her146_3
            subst h2
            exact gg_cvt (as := [.int ((255 : Int32) - i3)]) (r := []) aMi186 rfl rfl rfl aMi160 (Nat.le_of_ble_eq_true rfl) rfl (Nat.le_of_ble_eq_true rfl) (Nat.le_of_ble_eq_true rfl) (by omega) (isK_of (sh10_z ha0)) (Tf160 (by omega) a0 ha0 ((255 : Int32) - i3) r134_2.2 _ hxr146_3) (qLx_thr ((tB.refl.tr ht129_1).tr ht134_2))
          clear h
          subst her146_3
          have h := h2
          clear h2
          refine gg_cv (as := [.int ((255 : Int32) - i3)]) (r := []) aMi186 rfl rfl rfl aMi160 (Nat.le_of_ble_eq_true rfl) rfl (Nat.le_of_ble_eq_true rfl) (Nat.le_of_ble_eq_true rfl) (by omega) (isK_of (sh10_z ha0)) (Tf160 (by omega) a0 ha0 ((255 : Int32) - i3) r134_2.2 _ hxr146_3) ?_
          show aGo kad d 186 (149, ([(0, .ref a0), (1, .ref a1), (2, .int i2), (3, .int i3)], [.int vr146_3])) (aMem Z Ir146_3, t134_2) _
          refine go_ops aMi186 4 _ (f1 := (155, ([(0, .ref a0), (1, .ref a1), (2, .int i2), (3, .int i3)], [.int ((255 : Int32) - i3), .ref a1, .int vr146_3]))) rfl ?_
          obtain ⟨r155_4, hxr155_4, h⟩ := Option.bind_eq_some_iff.mp h
          rcases xB_eq h with ⟨vr155_4, Ir155_4, her155_4, h2⟩ | ⟨Er155_4, Ir155_4, her155_4, h2⟩
          rotate_left
          · clear h
            subst her155_4
            subst h2
            exact gg_cvt (as := [.int ((255 : Int32) - i3)]) (r := [.int vr146_3]) aMi186 rfl rfl rfl aMi160 (Nat.le_of_ble_eq_true rfl) rfl (Nat.le_of_ble_eq_true rfl) (Nat.le_of_ble_eq_true rfl) (by omega) (isK_of (sh10_z ha1)) (Tf160 (by omega) a1 ha1 ((255 : Int32) - i3) Ir146_3 _ hxr155_4) (qLx_thr ((tB.refl.tr ht129_1).tr ht134_2))
          clear h
          subst her155_4
          have h := h2
          clear h2
          refine gg_cv (as := [.int ((255 : Int32) - i3)]) (r := [.int vr146_3]) aMi186 rfl rfl rfl aMi160 (Nat.le_of_ble_eq_true rfl) rfl (Nat.le_of_ble_eq_true rfl) (Nat.le_of_ble_eq_true rfl) (by omega) (isK_of (sh10_z ha1)) (Tf160 (by omega) a1 ha1 ((255 : Int32) - i3) Ir146_3 _ hxr155_4) ?_
          show aGo kad d 186 (158, ([(0, .ref a0), (1, .ref a1), (2, .int i2), (3, .int i3)], [.int vr155_4, .int vr146_3])) (aMem Z Ir155_4, t134_2) _
          refine gg_br (b := decide (¬ vr146_3 = vr155_4)) (tg := 182) (off := 24) aMi186 rfl rfl rfl rfl (fun hb => ?_) (fun hb => ?_)
          · rw [if_pos (of_decide_eq_true hb)] at h
            refine go_le (lv1 := [(0, .ref a0), (1, .ref a1), (3, .int i3)]) (aLe_of (show (List.map (fun q => q.1) ([(0, .ref a0), (1, .ref a1), (3, .int i3)] : ALv)).Nodup from (by show ([0, 1, 3] : List Nat).Nodup; decide)) (aSubL_cons rfl (aSubL_cons rfl (aSubL_cons rfl aSubL_nil)))) ?_
            exact (Tf186_b182 hd (fun p0 p1 p2 p3 I => f186_b118 kad N Z F p0 p1 p2 p3 I) (fun t p0 q0 p1 q1 p2 p3 I r hh => ih t p0 q0 p1 q1 p2 p3 I r hh) a0 ha0 a1 ha1 i3 Ir155_4 _ h).mono (fun _ _ hq => qLx_tr ((tB.refl.tr ht129_1).tr ht134_2) (by omega) hq)
          · rw [if_neg (of_decide_eq_false hb)] at h
            refine go_ops aMi186 4 _ (f1 := (165, ([(0, .ref a0), (1, .ref a1), (2, .int i2), (3, .int i3)], [.int ((1 : Int32) + i3), .ref a0]))) rfl ?_
            obtain ⟨r165_5, hxr165_5, h⟩ := Option.bind_eq_some_iff.mp h
            refine gg_hl (as := [.ref a0, .int ((1 : Int32) + i3)]) (r := []) aMi186 rfl rfl rfl rfl rfl (Nat.le_of_ble_eq_true rfl) (Nat.le_of_ble_eq_true rfl) (by omega) (TH3 (by omega) a0 ha0 ((1 : Int32) + i3) Ir155_4 _ hxr165_5) (fun t165_5 ht165_5 => ?_)
            show aGo kad d 186 (168, ([(0, .ref a0), (1, .ref a1), (2, .int i2), (3, .int i3)], [.int r165_5.1])) (aMem Z r165_5.2, t165_5) _
            refine go_ops aMi186 4 _ (f1 := (172, ([(0, .ref a0), (1, .ref a1), (2, .int i2), (3, .int i3)], [.int ((1 : Int32) + i3), .ref a1, .int r165_5.1]))) rfl ?_
            obtain ⟨r172_6, hxr172_6, h⟩ := Option.bind_eq_some_iff.mp h
            refine gg_hl (as := [.ref a1, .int ((1 : Int32) + i3)]) (r := [.int r165_5.1]) aMi186 rfl rfl rfl rfl rfl (Nat.le_of_ble_eq_true rfl) (Nat.le_of_ble_eq_true rfl) (by omega) (TH3 (by omega) a1 ha1 ((1 : Int32) + i3) r165_5.2 _ hxr172_6) (fun t172_6 ht172_6 => ?_)
            show aGo kad d 186 (175, ([(0, .ref a0), (1, .ref a1), (2, .int i2), (3, .int i3)], [.int r172_6.1, .int r165_5.1])) (aMem Z r172_6.2, t172_6) _
            refine gg_br (b := decide (¬ r165_5.1 = r172_6.1)) (tg := 182) (off := 7) aMi186 rfl rfl rfl rfl (fun hb => ?_) (fun hb => ?_)
            · rw [if_pos (of_decide_eq_true hb)] at h
              refine go_le (lv1 := [(0, .ref a0), (1, .ref a1), (3, .int i3)]) (aLe_of (show (List.map (fun q => q.1) ([(0, .ref a0), (1, .ref a1), (3, .int i3)] : ALv)).Nodup from (by show ([0, 1, 3] : List Nat).Nodup; decide)) (aSubL_cons rfl (aSubL_cons rfl (aSubL_cons rfl aSubL_nil)))) ?_
              exact (Tf186_b182 hd (fun p0 p1 p2 p3 I => f186_b118 kad N Z F p0 p1 p2 p3 I) (fun t p0 q0 p1 q1 p2 p3 I r hh => ih t p0 q0 p1 q1 p2 p3 I r hh) a0 ha0 a1 ha1 i3 r172_6.2 _ h).mono (fun _ _ hq => qLx_tr ((((tB.refl.tr ht129_1).tr ht134_2).tr ht165_5).tr ht172_6) (by omega) hq)
            · rw [if_neg (of_decide_eq_false hb)] at h
              refine go_ops aMi186 2 _ (f1 := (183, ([(0, .ref a0), (1, .ref a1), (2, .int i2), (3, .int i3)], [.int (1 : Int32)]))) rfl ?_
              refine go_le (lv1 := [(0, .ref a0), (1, .ref a1), (3, .int i3)]) (aLe_of (show (List.map (fun q => q.1) ([(0, .ref a0), (1, .ref a1), (3, .int i3)] : ALv)).Nodup from (by show ([0, 1, 3] : List Nat).Nodup; decide)) (aSubL_cons rfl (aSubL_cons rfl (aSubL_cons rfl aSubL_nil)))) ?_
              exact (Tf186_b183 hd (fun p0 p1 p2 p3 I => f186_b118 kad N Z F p0 p1 p2 p3 I) (fun t p0 q0 p1 q1 p2 p3 I r hh => ih t p0 q0 p1 q1 p2 p3 I r hh) a0 ha0 a1 ha1 i3 (1 : Int32) r172_6.2 _ h).mono (fun _ _ hq => qLx_tr ((((tB.refl.tr ht129_1).tr ht134_2).tr ht165_5).tr ht172_6) (by omega) hq)
def f186_b115 (kad : Nat → Nat) (N : Nat) (Z : AZ) (a0 : Nat) (a1 : Nat) (s0 : Int32) (I : AI) : Option ((Int32 ⊕ String) × AI) :=
  f186_b118 kad N Z N a0 a1 s0 (0 : Int32) I
set_option maxRecDepth 20000 in
theorem Tf186_b115 {kad : Nat → Nat} {N : Nat} {Z : AZ} {d : Nat} {t : Option Nat × (Nat × Nat)} (hd : 21 ≤ d) : ∀ (a0 : Nat) (ha0 : sh10 kad Z a0) (a1 : Nat) (ha1 : sh10 kad Z a1) (s0 : Int32) (I : AI) (r : (Int32 ⊕ String) × AI), f186_b115 kad N Z a0 a1 s0 I = some r → aGo kad d 186 (115, ([(0, .ref a0), (1, .ref a1)], [.int s0])) (aMem Z I, t) (qLx (0 + 4 * N) tvI Z t r) := by
  intro a0 ha0 a1 ha1 s0 I r h
  unfold f186_b115 at h
  refine go_ops aMi186 3 _ (f1 := (118, ([(3, .int (0 : Int32)), (2, .int s0), (0, .ref a0), (1, .ref a1)], []))) rfl ?_
  refine go_le (lv1 := [(0, .ref a0), (1, .ref a1), (2, .int s0), (3, .int (0 : Int32))]) (aLe_of (show (List.map (fun q => q.1) ([(0, .ref a0), (1, .ref a1), (2, .int s0), (3, .int (0 : Int32))] : ALv)).Nodup from (by show ([0, 1, 2, 3] : List Nat).Nodup; decide)) (aSubL_cons rfl (aSubL_cons rfl (aSubL_cons rfl (aSubL_cons rfl aSubL_nil))))) ?_
  exact (Tf186_b118 hd N t a0 ha0 a1 ha1 s0 (0 : Int32) I _ h).mono (fun _ _ hq => qLx_tr tB.refl (by omega) hq)
def f186_b114 (kad : Nat → Nat) (N : Nat) (Z : AZ) (a0 : Nat) (a1 : Nat) (I : AI) : Option ((Int32 ⊕ String) × AI) :=
  f186_b115 kad N Z a0 a1 (0 : Int32) I
set_option maxRecDepth 20000 in
theorem Tf186_b114 {kad : Nat → Nat} {N : Nat} {Z : AZ} {d : Nat} {t : Option Nat × (Nat × Nat)} (hd : 21 ≤ d) : ∀ (a0 : Nat) (ha0 : sh10 kad Z a0) (a1 : Nat) (ha1 : sh10 kad Z a1) (I : AI) (r : (Int32 ⊕ String) × AI), f186_b114 kad N Z a0 a1 I = some r → aGo kad d 186 (114, ([(0, .ref a0), (1, .ref a1)], [])) (aMem Z I, t) (qLx (0 + 4 * N) tvI Z t r) := by
  intro a0 ha0 a1 ha1 I r h
  unfold f186_b114 at h
  refine go_ops aMi186 1 _ (f1 := (115, ([(0, .ref a0), (1, .ref a1)], [.int (0 : Int32)]))) rfl ?_
  exact (Tf186_b115 hd a0 ha0 a1 ha1 (0 : Int32) I _ h).mono (fun _ _ hq => qLx_tr tB.refl (by omega) hq)
def f186 (kad : Nat → Nat) (N : Nat) (Z : AZ) (a0 : Nat) (a1 : Nat) (I : AI) : Option ((Int32 ⊕ String) × AI) :=
  (f125 kad N Z a0 I).bind fun r1_1 =>
  (f125 kad N Z a1 r1_1.2).bind fun r5_2 =>
  if ¬ r1_1.1 = r5_2.1 then
    f186_b114 kad N Z a0 a1 r5_2.2
  else
    (f135 kad N Z a0 r5_2.2).bind fun r12_3 =>
    (f135 kad N Z a1 r12_3.2).bind fun r16_4 =>
    if ¬ r12_3.1 = r16_4.1 then
      f186_b114 kad N Z a0 a1 r16_4.2
    else
      (f163 kad N Z a0 r16_4.2).bind fun r23_5 =>
      (f163 kad N Z a1 r23_5.2).bind fun r27_6 =>
      if ¬ r23_5.1 = r27_6.1 then
        f186_b114 kad N Z a0 a1 r27_6.2
      else
        (f153 kad N Z a0 r27_6.2).bind fun r34_7 =>
        (f153 kad N Z a1 r34_7.2).bind fun r38_8 =>
        if ¬ r34_7.1 = r38_8.1 then
          f186_b114 kad N Z a0 a1 r38_8.2
        else
          (f168 kad N Z a0 r38_8.2).bind fun r45_9 =>
          (f168 kad N Z a1 r45_9.2).bind fun r49_10 =>
          if ¬ r45_9.1 = r49_10.1 then
            f186_b114 kad N Z a0 a1 r49_10.2
          else
            (f170 kad N Z a0 r49_10.2).bind fun r56_11 =>
            (f170 kad N Z a1 r56_11.2).bind fun r60_12 =>
            if ¬ r56_11.1 = r60_12.1 then
              f186_b114 kad N Z a0 a1 r60_12.2
            else
              (f173 kad N Z a0 r60_12.2).bind fun r67_13 =>
              (f173 kad N Z a1 r67_13.2).bind fun r71_14 =>
              if ¬ r67_13.1 = r71_14.1 then
                f186_b114 kad N Z a0 a1 r71_14.2
              else
                (f174 kad N Z a0 r71_14.2).bind fun r78_15 =>
                (f174 kad N Z a1 r78_15.2).bind fun r82_16 =>
                if ¬ r78_15.1 = r82_16.1 then
                  f186_b114 kad N Z a0 a1 r82_16.2
                else
                  (f179 kad N Z a0 r82_16.2).bind fun r89_17 =>
                  (f179 kad N Z a1 r89_17.2).bind fun r93_18 =>
                  if ¬ r89_17.1 = r93_18.1 then
                    f186_b114 kad N Z a0 a1 r93_18.2
                  else
                    (f182 kad N Z a0 r93_18.2).bind fun r100_19 =>
                    (f182 kad N Z a1 r100_19.2).bind fun r104_20 =>
                    if ¬ r100_19.1 = r104_20.1 then
                      f186_b114 kad N Z a0 a1 r104_20.2
                    else
                      f186_b115 kad N Z a0 a1 (1 : Int32) r104_20.2
set_option maxRecDepth 20000 in
theorem Tf186 {kad : Nat → Nat} {N : Nat} {Z : AZ} {d : Nat} {t : Option Nat × (Nat × Nat)} (hd : 21 ≤ d) : ∀ (a0 : Nat) (ha0 : sh10 kad Z a0) (a1 : Nat) (ha1 : sh10 kad Z a1) (I : AI) (r : (Int32 ⊕ String) × AI), f186 kad N Z a0 a1 I = some r → aGo kad d 186 (0, ([(0, .ref a0), (1, .ref a1)], [])) (aMem Z I, t) (qLx (0 + 4 * N) tvI Z t r) := by
  intro a0 ha0 a1 ha1 I r h
  unfold f186 at h
  refine go_ops aMi186 1 _ (f1 := (1, ([(0, .ref a0), (1, .ref a1)], [.ref a0]))) rfl ?_
  obtain ⟨r1_1, hxr1_1, h⟩ := Option.bind_eq_some_iff.mp h
  refine gg_cv (as := []) (r := []) aMi186 rfl rfl rfl aMi125 (Nat.le_of_ble_eq_true rfl) rfl (Nat.le_of_ble_eq_true rfl) (Nat.le_of_ble_eq_true rfl) (by omega) (isK_of (sh10_z ha0)) (Tf125 (by omega) a0 ha0 I _ hxr1_1) ?_
  show aGo kad d 186 (4, ([(0, .ref a0), (1, .ref a1)], [.int r1_1.1])) (aMem Z r1_1.2, t) _
  refine go_ops aMi186 1 _ (f1 := (5, ([(0, .ref a0), (1, .ref a1)], [.ref a1, .int r1_1.1]))) rfl ?_
  obtain ⟨r5_2, hxr5_2, h⟩ := Option.bind_eq_some_iff.mp h
  refine gg_cv (as := []) (r := [.int r1_1.1]) aMi186 rfl rfl rfl aMi125 (Nat.le_of_ble_eq_true rfl) rfl (Nat.le_of_ble_eq_true rfl) (Nat.le_of_ble_eq_true rfl) (by omega) (isK_of (sh10_z ha1)) (Tf125 (by omega) a1 ha1 r1_1.2 _ hxr5_2) ?_
  show aGo kad d 186 (8, ([(0, .ref a0), (1, .ref a1)], [.int r5_2.1, .int r1_1.1])) (aMem Z r5_2.2, t) _
  refine gg_br (b := decide (¬ r1_1.1 = r5_2.1)) (tg := 114) (off := 106) aMi186 rfl rfl rfl rfl (fun hb => ?_) (fun hb => ?_)
  · rw [if_pos (of_decide_eq_true hb)] at h
    exact (Tf186_b114 hd a0 ha0 a1 ha1 r5_2.2 _ h).mono (fun _ _ hq => qLx_tr tB.refl (by omega) hq)
  · rw [if_neg (of_decide_eq_false hb)] at h
    refine go_ops aMi186 1 _ (f1 := (12, ([(0, .ref a0), (1, .ref a1)], [.ref a0]))) rfl ?_
    obtain ⟨r12_3, hxr12_3, h⟩ := Option.bind_eq_some_iff.mp h
    refine gg_cv (as := []) (r := []) aMi186 rfl rfl rfl aMi135 (Nat.le_of_ble_eq_true rfl) rfl (Nat.le_of_ble_eq_true rfl) (Nat.le_of_ble_eq_true rfl) (by omega) (isK_of (sh10_z ha0)) (Tf135 (by omega) a0 ha0 r5_2.2 _ hxr12_3) ?_
    show aGo kad d 186 (15, ([(0, .ref a0), (1, .ref a1)], [.int r12_3.1])) (aMem Z r12_3.2, t) _
    refine go_ops aMi186 1 _ (f1 := (16, ([(0, .ref a0), (1, .ref a1)], [.ref a1, .int r12_3.1]))) rfl ?_
    obtain ⟨r16_4, hxr16_4, h⟩ := Option.bind_eq_some_iff.mp h
    refine gg_cv (as := []) (r := [.int r12_3.1]) aMi186 rfl rfl rfl aMi135 (Nat.le_of_ble_eq_true rfl) rfl (Nat.le_of_ble_eq_true rfl) (Nat.le_of_ble_eq_true rfl) (by omega) (isK_of (sh10_z ha1)) (Tf135 (by omega) a1 ha1 r12_3.2 _ hxr16_4) ?_
    show aGo kad d 186 (19, ([(0, .ref a0), (1, .ref a1)], [.int r16_4.1, .int r12_3.1])) (aMem Z r16_4.2, t) _
    refine gg_br (b := decide (¬ r12_3.1 = r16_4.1)) (tg := 114) (off := 95) aMi186 rfl rfl rfl rfl (fun hb => ?_) (fun hb => ?_)
    · rw [if_pos (of_decide_eq_true hb)] at h
      exact (Tf186_b114 hd a0 ha0 a1 ha1 r16_4.2 _ h).mono (fun _ _ hq => qLx_tr tB.refl (by omega) hq)
    · rw [if_neg (of_decide_eq_false hb)] at h
      refine go_ops aMi186 1 _ (f1 := (23, ([(0, .ref a0), (1, .ref a1)], [.ref a0]))) rfl ?_
      obtain ⟨r23_5, hxr23_5, h⟩ := Option.bind_eq_some_iff.mp h
      refine gg_cv (as := []) (r := []) aMi186 rfl rfl rfl aMi163 (Nat.le_of_ble_eq_true rfl) rfl (Nat.le_of_ble_eq_true rfl) (Nat.le_of_ble_eq_true rfl) (by omega) (isK_of (sh10_z ha0)) (Tf163 (by omega) a0 ha0 r16_4.2 _ hxr23_5) ?_
      show aGo kad d 186 (26, ([(0, .ref a0), (1, .ref a1)], [.int r23_5.1])) (aMem Z r23_5.2, t) _
      refine go_ops aMi186 1 _ (f1 := (27, ([(0, .ref a0), (1, .ref a1)], [.ref a1, .int r23_5.1]))) rfl ?_
      obtain ⟨r27_6, hxr27_6, h⟩ := Option.bind_eq_some_iff.mp h
      refine gg_cv (as := []) (r := [.int r23_5.1]) aMi186 rfl rfl rfl aMi163 (Nat.le_of_ble_eq_true rfl) rfl (Nat.le_of_ble_eq_true rfl) (Nat.le_of_ble_eq_true rfl) (by omega) (isK_of (sh10_z ha1)) (Tf163 (by omega) a1 ha1 r23_5.2 _ hxr27_6) ?_
      show aGo kad d 186 (30, ([(0, .ref a0), (1, .ref a1)], [.int r27_6.1, .int r23_5.1])) (aMem Z r27_6.2, t) _
      refine gg_br (b := decide (¬ r23_5.1 = r27_6.1)) (tg := 114) (off := 84) aMi186 rfl rfl rfl rfl (fun hb => ?_) (fun hb => ?_)
      · rw [if_pos (of_decide_eq_true hb)] at h
        exact (Tf186_b114 hd a0 ha0 a1 ha1 r27_6.2 _ h).mono (fun _ _ hq => qLx_tr tB.refl (by omega) hq)
      · rw [if_neg (of_decide_eq_false hb)] at h
        refine go_ops aMi186 1 _ (f1 := (34, ([(0, .ref a0), (1, .ref a1)], [.ref a0]))) rfl ?_
        obtain ⟨r34_7, hxr34_7, h⟩ := Option.bind_eq_some_iff.mp h
        refine gg_cv (as := []) (r := []) aMi186 rfl rfl rfl aMi153 (Nat.le_of_ble_eq_true rfl) rfl (Nat.le_of_ble_eq_true rfl) (Nat.le_of_ble_eq_true rfl) (by omega) (isK_of (sh10_z ha0)) (Tf153 (by omega) a0 ha0 r27_6.2 _ hxr34_7) ?_
        show aGo kad d 186 (37, ([(0, .ref a0), (1, .ref a1)], [.int r34_7.1])) (aMem Z r34_7.2, t) _
        refine go_ops aMi186 1 _ (f1 := (38, ([(0, .ref a0), (1, .ref a1)], [.ref a1, .int r34_7.1]))) rfl ?_
        obtain ⟨r38_8, hxr38_8, h⟩ := Option.bind_eq_some_iff.mp h
        refine gg_cv (as := []) (r := [.int r34_7.1]) aMi186 rfl rfl rfl aMi153 (Nat.le_of_ble_eq_true rfl) rfl (Nat.le_of_ble_eq_true rfl) (Nat.le_of_ble_eq_true rfl) (by omega) (isK_of (sh10_z ha1)) (Tf153 (by omega) a1 ha1 r34_7.2 _ hxr38_8) ?_
        show aGo kad d 186 (41, ([(0, .ref a0), (1, .ref a1)], [.int r38_8.1, .int r34_7.1])) (aMem Z r38_8.2, t) _
        refine gg_br (b := decide (¬ r34_7.1 = r38_8.1)) (tg := 114) (off := 73) aMi186 rfl rfl rfl rfl (fun hb => ?_) (fun hb => ?_)
        · rw [if_pos (of_decide_eq_true hb)] at h
          exact (Tf186_b114 hd a0 ha0 a1 ha1 r38_8.2 _ h).mono (fun _ _ hq => qLx_tr tB.refl (by omega) hq)
        · rw [if_neg (of_decide_eq_false hb)] at h
          refine go_ops aMi186 1 _ (f1 := (45, ([(0, .ref a0), (1, .ref a1)], [.ref a0]))) rfl ?_
          obtain ⟨r45_9, hxr45_9, h⟩ := Option.bind_eq_some_iff.mp h
          refine gg_cv (as := []) (r := []) aMi186 rfl rfl rfl aMi168 (Nat.le_of_ble_eq_true rfl) rfl (Nat.le_of_ble_eq_true rfl) (Nat.le_of_ble_eq_true rfl) (by omega) (isK_of (sh10_z ha0)) (Tf168 (by omega) a0 ha0 r38_8.2 _ hxr45_9) ?_
          show aGo kad d 186 (48, ([(0, .ref a0), (1, .ref a1)], [.int r45_9.1])) (aMem Z r45_9.2, t) _
          refine go_ops aMi186 1 _ (f1 := (49, ([(0, .ref a0), (1, .ref a1)], [.ref a1, .int r45_9.1]))) rfl ?_
          obtain ⟨r49_10, hxr49_10, h⟩ := Option.bind_eq_some_iff.mp h
          refine gg_cv (as := []) (r := [.int r45_9.1]) aMi186 rfl rfl rfl aMi168 (Nat.le_of_ble_eq_true rfl) rfl (Nat.le_of_ble_eq_true rfl) (Nat.le_of_ble_eq_true rfl) (by omega) (isK_of (sh10_z ha1)) (Tf168 (by omega) a1 ha1 r45_9.2 _ hxr49_10) ?_
          show aGo kad d 186 (52, ([(0, .ref a0), (1, .ref a1)], [.int r49_10.1, .int r45_9.1])) (aMem Z r49_10.2, t) _
          refine gg_br (b := decide (¬ r45_9.1 = r49_10.1)) (tg := 114) (off := 62) aMi186 rfl rfl rfl rfl (fun hb => ?_) (fun hb => ?_)
          · rw [if_pos (of_decide_eq_true hb)] at h
            exact (Tf186_b114 hd a0 ha0 a1 ha1 r49_10.2 _ h).mono (fun _ _ hq => qLx_tr tB.refl (by omega) hq)
          · rw [if_neg (of_decide_eq_false hb)] at h
            refine go_ops aMi186 1 _ (f1 := (56, ([(0, .ref a0), (1, .ref a1)], [.ref a0]))) rfl ?_
            obtain ⟨r56_11, hxr56_11, h⟩ := Option.bind_eq_some_iff.mp h
            refine gg_cv (as := []) (r := []) aMi186 rfl rfl rfl aMi170 (Nat.le_of_ble_eq_true rfl) rfl (Nat.le_of_ble_eq_true rfl) (Nat.le_of_ble_eq_true rfl) (by omega) (isK_of (sh10_z ha0)) (Tf170 (by omega) a0 ha0 r49_10.2 _ hxr56_11) ?_
            show aGo kad d 186 (59, ([(0, .ref a0), (1, .ref a1)], [.int r56_11.1])) (aMem Z r56_11.2, t) _
            refine go_ops aMi186 1 _ (f1 := (60, ([(0, .ref a0), (1, .ref a1)], [.ref a1, .int r56_11.1]))) rfl ?_
            obtain ⟨r60_12, hxr60_12, h⟩ := Option.bind_eq_some_iff.mp h
            refine gg_cv (as := []) (r := [.int r56_11.1]) aMi186 rfl rfl rfl aMi170 (Nat.le_of_ble_eq_true rfl) rfl (Nat.le_of_ble_eq_true rfl) (Nat.le_of_ble_eq_true rfl) (by omega) (isK_of (sh10_z ha1)) (Tf170 (by omega) a1 ha1 r56_11.2 _ hxr60_12) ?_
            show aGo kad d 186 (63, ([(0, .ref a0), (1, .ref a1)], [.int r60_12.1, .int r56_11.1])) (aMem Z r60_12.2, t) _
            refine gg_br (b := decide (¬ r56_11.1 = r60_12.1)) (tg := 114) (off := 51) aMi186 rfl rfl rfl rfl (fun hb => ?_) (fun hb => ?_)
            · rw [if_pos (of_decide_eq_true hb)] at h
              exact (Tf186_b114 hd a0 ha0 a1 ha1 r60_12.2 _ h).mono (fun _ _ hq => qLx_tr tB.refl (by omega) hq)
            · rw [if_neg (of_decide_eq_false hb)] at h
              refine go_ops aMi186 1 _ (f1 := (67, ([(0, .ref a0), (1, .ref a1)], [.ref a0]))) rfl ?_
              obtain ⟨r67_13, hxr67_13, h⟩ := Option.bind_eq_some_iff.mp h
              refine gg_cv (as := []) (r := []) aMi186 rfl rfl rfl aMi173 (Nat.le_of_ble_eq_true rfl) rfl (Nat.le_of_ble_eq_true rfl) (Nat.le_of_ble_eq_true rfl) (by omega) (isK_of (sh10_z ha0)) (Tf173 (by omega) a0 ha0 r60_12.2 _ hxr67_13) ?_
              show aGo kad d 186 (70, ([(0, .ref a0), (1, .ref a1)], [.int r67_13.1])) (aMem Z r67_13.2, t) _
              refine go_ops aMi186 1 _ (f1 := (71, ([(0, .ref a0), (1, .ref a1)], [.ref a1, .int r67_13.1]))) rfl ?_
              obtain ⟨r71_14, hxr71_14, h⟩ := Option.bind_eq_some_iff.mp h
              refine gg_cv (as := []) (r := [.int r67_13.1]) aMi186 rfl rfl rfl aMi173 (Nat.le_of_ble_eq_true rfl) rfl (Nat.le_of_ble_eq_true rfl) (Nat.le_of_ble_eq_true rfl) (by omega) (isK_of (sh10_z ha1)) (Tf173 (by omega) a1 ha1 r67_13.2 _ hxr71_14) ?_
              show aGo kad d 186 (74, ([(0, .ref a0), (1, .ref a1)], [.int r71_14.1, .int r67_13.1])) (aMem Z r71_14.2, t) _
              refine gg_br (b := decide (¬ r67_13.1 = r71_14.1)) (tg := 114) (off := 40) aMi186 rfl rfl rfl rfl (fun hb => ?_) (fun hb => ?_)
              · rw [if_pos (of_decide_eq_true hb)] at h
                exact (Tf186_b114 hd a0 ha0 a1 ha1 r71_14.2 _ h).mono (fun _ _ hq => qLx_tr tB.refl (by omega) hq)
              · rw [if_neg (of_decide_eq_false hb)] at h
                refine go_ops aMi186 1 _ (f1 := (78, ([(0, .ref a0), (1, .ref a1)], [.ref a0]))) rfl ?_
                obtain ⟨r78_15, hxr78_15, h⟩ := Option.bind_eq_some_iff.mp h
                refine gg_cv (as := []) (r := []) aMi186 rfl rfl rfl aMi174 (Nat.le_of_ble_eq_true rfl) rfl (Nat.le_of_ble_eq_true rfl) (Nat.le_of_ble_eq_true rfl) (by omega) (isK_of (sh10_z ha0)) (Tf174 (by omega) a0 ha0 r71_14.2 _ hxr78_15) ?_
                show aGo kad d 186 (81, ([(0, .ref a0), (1, .ref a1)], [.int r78_15.1])) (aMem Z r78_15.2, t) _
                refine go_ops aMi186 1 _ (f1 := (82, ([(0, .ref a0), (1, .ref a1)], [.ref a1, .int r78_15.1]))) rfl ?_
                obtain ⟨r82_16, hxr82_16, h⟩ := Option.bind_eq_some_iff.mp h
                refine gg_cv (as := []) (r := [.int r78_15.1]) aMi186 rfl rfl rfl aMi174 (Nat.le_of_ble_eq_true rfl) rfl (Nat.le_of_ble_eq_true rfl) (Nat.le_of_ble_eq_true rfl) (by omega) (isK_of (sh10_z ha1)) (Tf174 (by omega) a1 ha1 r78_15.2 _ hxr82_16) ?_
                show aGo kad d 186 (85, ([(0, .ref a0), (1, .ref a1)], [.int r82_16.1, .int r78_15.1])) (aMem Z r82_16.2, t) _
                refine gg_br (b := decide (¬ r78_15.1 = r82_16.1)) (tg := 114) (off := 29) aMi186 rfl rfl rfl rfl (fun hb => ?_) (fun hb => ?_)
                · rw [if_pos (of_decide_eq_true hb)] at h
                  exact (Tf186_b114 hd a0 ha0 a1 ha1 r82_16.2 _ h).mono (fun _ _ hq => qLx_tr tB.refl (by omega) hq)
                · rw [if_neg (of_decide_eq_false hb)] at h
                  refine go_ops aMi186 1 _ (f1 := (89, ([(0, .ref a0), (1, .ref a1)], [.ref a0]))) rfl ?_
                  obtain ⟨r89_17, hxr89_17, h⟩ := Option.bind_eq_some_iff.mp h
                  refine gg_cv (as := []) (r := []) aMi186 rfl rfl rfl aMi179 (Nat.le_of_ble_eq_true rfl) rfl (Nat.le_of_ble_eq_true rfl) (Nat.le_of_ble_eq_true rfl) (by omega) (isK_of (sh10_z ha0)) (Tf179 (by omega) a0 ha0 r82_16.2 _ hxr89_17) ?_
                  show aGo kad d 186 (92, ([(0, .ref a0), (1, .ref a1)], [.int r89_17.1])) (aMem Z r89_17.2, t) _
                  refine go_ops aMi186 1 _ (f1 := (93, ([(0, .ref a0), (1, .ref a1)], [.ref a1, .int r89_17.1]))) rfl ?_
                  obtain ⟨r93_18, hxr93_18, h⟩ := Option.bind_eq_some_iff.mp h
                  refine gg_cv (as := []) (r := [.int r89_17.1]) aMi186 rfl rfl rfl aMi179 (Nat.le_of_ble_eq_true rfl) rfl (Nat.le_of_ble_eq_true rfl) (Nat.le_of_ble_eq_true rfl) (by omega) (isK_of (sh10_z ha1)) (Tf179 (by omega) a1 ha1 r89_17.2 _ hxr93_18) ?_
                  show aGo kad d 186 (96, ([(0, .ref a0), (1, .ref a1)], [.int r93_18.1, .int r89_17.1])) (aMem Z r93_18.2, t) _
                  refine gg_br (b := decide (¬ r89_17.1 = r93_18.1)) (tg := 114) (off := 18) aMi186 rfl rfl rfl rfl (fun hb => ?_) (fun hb => ?_)
                  · rw [if_pos (of_decide_eq_true hb)] at h
                    exact (Tf186_b114 hd a0 ha0 a1 ha1 r93_18.2 _ h).mono (fun _ _ hq => qLx_tr tB.refl (by omega) hq)
                  · rw [if_neg (of_decide_eq_false hb)] at h
                    refine go_ops aMi186 1 _ (f1 := (100, ([(0, .ref a0), (1, .ref a1)], [.ref a0]))) rfl ?_
                    obtain ⟨r100_19, hxr100_19, h⟩ := Option.bind_eq_some_iff.mp h
                    refine gg_cv (as := []) (r := []) aMi186 rfl rfl rfl aMi182 (Nat.le_of_ble_eq_true rfl) rfl (Nat.le_of_ble_eq_true rfl) (Nat.le_of_ble_eq_true rfl) (by omega) (isK_of (sh10_z ha0)) (Tf182 (by omega) a0 ha0 r93_18.2 _ hxr100_19) ?_
                    show aGo kad d 186 (103, ([(0, .ref a0), (1, .ref a1)], [.int r100_19.1])) (aMem Z r100_19.2, t) _
                    refine go_ops aMi186 1 _ (f1 := (104, ([(0, .ref a0), (1, .ref a1)], [.ref a1, .int r100_19.1]))) rfl ?_
                    obtain ⟨r104_20, hxr104_20, h⟩ := Option.bind_eq_some_iff.mp h
                    refine gg_cv (as := []) (r := [.int r100_19.1]) aMi186 rfl rfl rfl aMi182 (Nat.le_of_ble_eq_true rfl) rfl (Nat.le_of_ble_eq_true rfl) (Nat.le_of_ble_eq_true rfl) (by omega) (isK_of (sh10_z ha1)) (Tf182 (by omega) a1 ha1 r100_19.2 _ hxr104_20) ?_
                    show aGo kad d 186 (107, ([(0, .ref a0), (1, .ref a1)], [.int r104_20.1, .int r100_19.1])) (aMem Z r104_20.2, t) _
                    refine gg_br (b := decide (¬ r100_19.1 = r104_20.1)) (tg := 114) (off := 7) aMi186 rfl rfl rfl rfl (fun hb => ?_) (fun hb => ?_)
                    · rw [if_pos (of_decide_eq_true hb)] at h
                      exact (Tf186_b114 hd a0 ha0 a1 ha1 r104_20.2 _ h).mono (fun _ _ hq => qLx_tr tB.refl (by omega) hq)
                    · rw [if_neg (of_decide_eq_false hb)] at h
                      refine go_ops aMi186 2 _ (f1 := (115, ([(0, .ref a0), (1, .ref a1)], [.int (1 : Int32)]))) rfl ?_
                      exact (Tf186_b115 hd a0 ha0 a1 ha1 (1 : Int32) r104_20.2 _ h).mono (fun _ _ hq => qLx_tr tB.refl (by omega) hq)
-- KernelGymLaw.isMachineSo (LKernelGym;I)Z
def f187_b315 (kad : Nat → Nat) (N : Nat) (Z : AZ) (k282 : Nat → Int32 → Int32 → Int32 → Int32 → AI → Option ((Int32 ⊕ String) × AI)) (a0 : Nat) (i3 : Int32) (i4 : Int32) (i6 : Int32) (s0 : Int32) (s1 : Int32) (I : AI) : Option ((Int32 ⊕ String) × AI) :=
  k282 a0 i3 i4 (s1 + s0) (i6 + (1 : Int32)) I
set_option maxRecDepth 20000 in
theorem Tf187_b315 {kad : Nat → Nat} {N : Nat} {Z : AZ} {d : Nat} {t : Option Nat × (Nat × Nat)} {bh282 : Nat} (hd : 22 ≤ d) (k282 : Nat → Int32 → Int32 → Int32 → Int32 → AI → Option ((Int32 ⊕ String) × AI))  (hk282 : ∀ (t : Option Nat × (Nat × Nat)) (a0 : Nat) (ha0 : sh10 kad Z a0) (i3 : Int32) (i4 : Int32) (i5 : Int32) (i6 : Int32) (I : AI) (r : (Int32 ⊕ String) × AI), k282 a0 i3 i4 i5 i6 I = some r → aGo kad d 187 (282, ([(0, .ref a0), (3, .int i3), (4, .int i4), (5, .int i5), (6, .int i6)], [])) (aMem Z I, t) (qLx bh282 tvI Z t r)) : ∀ (a0 : Nat) (ha0 : sh10 kad Z a0) (i3 : Int32) (i4 : Int32) (i6 : Int32) (s0 : Int32) (s1 : Int32) (I : AI) (r : (Int32 ⊕ String) × AI), f187_b315 kad N Z k282 a0 i3 i4 i6 s0 s1 I = some r → aGo kad d 187 (315, ([(0, .ref a0), (3, .int i3), (4, .int i4), (6, .int i6)], [.int s0, .int s1])) (aMem Z I, t) (qLx (0 + bh282) tvI Z t r) := by
  intro a0 ha0 i3 i4 i6 s0 s1 I r h
  unfold f187_b315 at h
  refine go_ops aMi187 4 _ (f1 := (282, ([(6, .int (i6 + (1 : Int32))), (5, .int (s1 + s0)), (0, .ref a0), (3, .int i3), (4, .int i4)], []))) rfl ?_
  refine go_le (lv1 := [(0, .ref a0), (3, .int i3), (4, .int i4), (5, .int (s1 + s0)), (6, .int (i6 + (1 : Int32)))]) (aLe_of (show (List.map (fun q => q.1) ([(0, .ref a0), (3, .int i3), (4, .int i4), (5, .int (s1 + s0)), (6, .int (i6 + (1 : Int32)))] : ALv)).Nodup from (by show ([0, 3, 4, 5, 6] : List Nat).Nodup; decide)) (aSubL_cons rfl (aSubL_cons rfl (aSubL_cons rfl (aSubL_cons rfl (aSubL_cons rfl aSubL_nil)))))) ?_
  exact (hk282 t a0 ha0 i3 i4 (s1 + s0) (i6 + (1 : Int32)) I _ h).mono (fun _ _ hq => qLx_tr tB.refl (by omega) hq)
def f187_b403 (kad : Nat → Nat) (N : Nat) (Z : AZ) (a0 : Nat) (s0 : Int32) (I : AI) : Option ((Int32 ⊕ String) × AI) :=
  if s0 = 0 ∨ s0 = 1 then some (.inl s0, I) else none
set_option maxRecDepth 20000 in
theorem Tf187_b403 {kad : Nat → Nat} {N : Nat} {Z : AZ} {d : Nat} {t : Option Nat × (Nat × Nat)} (hd : 22 ≤ d) : ∀ (a0 : Nat) (ha0 : sh10 kad Z a0) (s0 : Int32) (I : AI) (r : (Int32 ⊕ String) × AI), f187_b403 kad N Z a0 s0 I = some r → aGo kad d 187 (403, ([], [.int s0])) (aMem Z I, t) (qLx (0) tvI Z t r) := by
  intro a0 ha0 s0 I r h
  unfold f187_b403 at h
  split at h
  · rename_i hz
    cases h
    exact go_ret aMi187 rfl (aRetZ hz) (qLx_ret tB.refl)
  · cases h
def f187_b402 (kad : Nat → Nat) (N : Nat) (Z : AZ) (a0 : Nat) (I : AI) : Option ((Int32 ⊕ String) × AI) :=
  f187_b403 kad N Z a0 (0 : Int32) I
set_option maxRecDepth 20000 in
theorem Tf187_b402 {kad : Nat → Nat} {N : Nat} {Z : AZ} {d : Nat} {t : Option Nat × (Nat × Nat)} (hd : 22 ≤ d) : ∀ (a0 : Nat) (ha0 : sh10 kad Z a0) (I : AI) (r : (Int32 ⊕ String) × AI), f187_b402 kad N Z a0 I = some r → aGo kad d 187 (402, ([], [])) (aMem Z I, t) (qLx (0) tvI Z t r) := by
  intro a0 ha0 I r h
  unfold f187_b402 at h
  refine go_ops aMi187 1 _ (f1 := (403, ([], [.int (0 : Int32)]))) rfl ?_
  exact (Tf187_b403 hd a0 ha0 (0 : Int32) I _ h).mono (fun _ _ hq => qLx_tr tB.refl (by omega) hq)
def f187_b378 (kad : Nat → Nat) (N : Nat) (Z : AZ) (a0 : Nat) (I : AI) : Option ((Int32 ⊕ String) × AI) :=
  (f152 kad N Z a0 I).bind fun r382_1 =>
  (fH1 kad N Z a0 (8 : Int32) (r382_1.1 + (1 : Int32)) (0 : Int32) (0 : Int32) (0 : Int32) r382_1.2).bind fun r390_2 =>
  if ¬ r390_2.1 = (Int32.ofInt (-99999999)) then
    f187_b402 kad N Z a0 r390_2.2
  else
    f187_b403 kad N Z a0 (1 : Int32) r390_2.2
set_option maxRecDepth 20000 in
theorem Tf187_b378 {kad : Nat → Nat} {N : Nat} {Z : AZ} {d : Nat} {t : Option Nat × (Nat × Nat)} (hd : 22 ≤ d) : ∀ (a0 : Nat) (ha0 : sh10 kad Z a0) (I : AI) (r : (Int32 ⊕ String) × AI), f187_b378 kad N Z a0 I = some r → aGo kad d 187 (378, ([(0, .ref a0)], [])) (aMem Z I, t) (qLx (1) tvI Z t r) := by
  intro a0 ha0 I r h
  unfold f187_b378 at h
  refine go_ops aMi187 3 _ (f1 := (382, ([(0, .ref a0)], [.ref a0, .int (8 : Int32), .ref a0]))) rfl ?_
  obtain ⟨r382_1, hxr382_1, h⟩ := Option.bind_eq_some_iff.mp h
  refine gg_cv (as := []) (r := [.int (8 : Int32), .ref a0]) aMi187 rfl rfl rfl aMi152 (Nat.le_of_ble_eq_true rfl) rfl (Nat.le_of_ble_eq_true rfl) (Nat.le_of_ble_eq_true rfl) (by omega) (isK_of (sh10_z ha0)) (Tf152 (by omega) a0 ha0 I _ hxr382_1) ?_
  show aGo kad d 187 (385, ([(0, .ref a0)], [.int r382_1.1, .int (8 : Int32), .ref a0])) (aMem Z r382_1.2, t) _
  refine go_ops aMi187 5 _ (f1 := (390, ([(0, .ref a0)], [.int (0 : Int32), .int (0 : Int32), .int (0 : Int32), .int (r382_1.1 + (1 : Int32)), .int (8 : Int32), .ref a0]))) rfl ?_
  obtain ⟨r390_2, hxr390_2, h⟩ := Option.bind_eq_some_iff.mp h
  refine gg_hl (as := [.ref a0, .int (8 : Int32), .int (r382_1.1 + (1 : Int32)), .int (0 : Int32), .int (0 : Int32), .int (0 : Int32)]) (r := []) aMi187 rfl rfl rfl rfl rfl (Nat.le_of_ble_eq_true rfl) (Nat.le_of_ble_eq_true rfl) (by omega) (TH1 (by omega) a0 ha0 (8 : Int32) (r382_1.1 + (1 : Int32)) (0 : Int32) (0 : Int32) (0 : Int32) r382_1.2 _ hxr390_2) (fun t390_2 ht390_2 => ?_)
  show aGo kad d 187 (393, ([(0, .ref a0)], [.int r390_2.1])) (aMem Z r390_2.2, t390_2) _
  refine gg_kI (Or.inl ⟨rfl, rfl⟩) aMi187 rfl rfl ?_
  refine gg_br (b := decide (¬ r390_2.1 = (Int32.ofInt (-99999999)))) (tg := 402) (off := 7) aMi187 rfl rfl rfl rfl (fun hb => ?_) (fun hb => ?_)
  · rw [if_pos (of_decide_eq_true hb)] at h
    refine go_le (lv1 := []) (aLe_of (show (List.map (fun q => q.1) ([] : ALv)).Nodup from (by show ([] : List Nat).Nodup; decide)) aSubL_nil) ?_
    exact (Tf187_b402 hd a0 ha0 r390_2.2 _ h).mono (fun _ _ hq => qLx_tr (tB.refl.tr ht390_2) (by omega) hq)
  · rw [if_neg (of_decide_eq_false hb)] at h
    refine go_ops aMi187 2 _ (f1 := (403, ([(0, .ref a0)], [.int (1 : Int32)]))) rfl ?_
    refine go_le (lv1 := []) (aLe_of (show (List.map (fun q => q.1) ([] : ALv)).Nodup from (by show ([] : List Nat).Nodup; decide)) aSubL_nil) ?_
    exact (Tf187_b403 hd a0 ha0 (1 : Int32) r390_2.2 _ h).mono (fun _ _ hq => qLx_tr (tB.refl.tr ht390_2) (by omega) hq)
def f187_b282 (kad : Nat → Nat) (N : Nat) (Z : AZ) : Nat → Nat → Int32 → Int32 → Int32 → Int32 → AI → Option ((Int32 ⊕ String) × AI)
  | 0, _, _, _, _, _, _ => none
  | F + 1, a0, i3, i4, i5, i6, I =>
    if (6 : Int32) ≤ i6 then
      if i4 = 0 then
        f187_b402 kad N Z a0 I
      else
        (f170 kad N Z a0 I).bind fun r330_1 =>
        if ¬ r330_1.1 = i5 then
          f187_b402 kad N Z a0 r330_1.2
        else
          (f173 kad N Z a0 r330_1.2).bind fun r339_2 =>
          if r339_2.1 < 0 then
            f187_b402 kad N Z a0 r339_2.2
          else
            (f173 kad N Z a0 r339_2.2).bind fun r346_3 =>
            if (24 : Int32) < r346_3.1 then
              f187_b402 kad N Z a0 r346_3.2
            else
              if i3 = 0 then
                f187_b378 kad N Z a0 r346_3.2
              else
                (f152 kad N Z a0 r346_3.2).bind fun r362_4 =>
                (fH1 kad N Z a0 (8 : Int32) r362_4.1 (0 : Int32) (0 : Int32) (0 : Int32) r362_4.2).bind fun r368_5 =>
                (f163 kad N Z a0 r368_5.2).bind fun r372_6 =>
                if ¬ r368_5.1 = r372_6.1 then
                  f187_b402 kad N Z a0 r372_6.2
                else
                  f187_b378 kad N Z a0 r372_6.2
    else
      (f169 kad N Z a0 ((5 : Int32) + (i6 / (2 : Int32))) ((4 : Int32) * (i6 - i6 / (2 : Int32) * (2 : Int32))) I).bind fun r304_7 =>
      xB r304_7 fun vr304_7 Ir304_7 =>
      if vr304_7 ≤ 0 then
        f187_b315 kad N Z (fun p0 p1 p2 p3 p4 I => f187_b282 kad N Z F p0 p1 p2 p3 p4 I) a0 i3 i4 i6 (0 : Int32) i5 Ir304_7
      else
        f187_b315 kad N Z (fun p0 p1 p2 p3 p4 I => f187_b282 kad N Z F p0 p1 p2 p3 p4 I) a0 i3 i4 i6 (1 : Int32) i5 Ir304_7
set_option maxRecDepth 20000 in
theorem Tf187_b282 {kad : Nat → Nat} {N : Nat} {Z : AZ} {d : Nat} (hd : 22 ≤ d) : ∀ (F : Nat) (t : Option Nat × (Nat × Nat)) (a0 : Nat) (ha0 : sh10 kad Z a0) (i3 : Int32) (i4 : Int32) (i5 : Int32) (i6 : Int32) (I : AI) (r : (Int32 ⊕ String) × AI), f187_b282 kad N Z F a0 i3 i4 i5 i6 I = some r → aGo kad d 187 (282, ([(0, .ref a0), (3, .int i3), (4, .int i4), (5, .int i5), (6, .int i6)], [])) (aMem Z I, t) (qLx (2 * F) tvI Z t r) := by
  intro F
  induction F with
  | zero => intro t a0 ha0 i3 i4 i5 i6 I r h; cases h
  | succ F ih =>
    intro t a0 ha0 i3 i4 i5 i6 I r h
    unfold f187_b282 at h
    refine go_ops aMi187 2 _ (f1 := (286, ([(0, .ref a0), (3, .int i3), (4, .int i4), (5, .int i5), (6, .int i6)], [.int (6 : Int32), .int i6]))) rfl ?_
    refine gg_br (b := decide ((6 : Int32) ≤ i6)) (tg := 324) (off := 38) aMi187 rfl rfl rfl rfl (fun hb => ?_) (fun hb => ?_)
    · rw [if_pos (of_decide_eq_true hb)] at h
      refine go_ops aMi187 1 _ (f1 := (326, ([(0, .ref a0), (3, .int i3), (4, .int i4), (5, .int i5), (6, .int i6)], [.int i4]))) rfl ?_
      refine gg_br (b := decide (i4 = 0)) (tg := 402) (off := 76) aMi187 rfl rfl rfl rfl (fun hb => ?_) (fun hb => ?_)
      · rw [if_pos (of_decide_eq_true hb)] at h
        refine go_le (lv1 := []) (aLe_of (show (List.map (fun q => q.1) ([] : ALv)).Nodup from (by show ([] : List Nat).Nodup; decide)) aSubL_nil) ?_
        exact (Tf187_b402 hd a0 ha0 I _ h).mono (fun _ _ hq => qLx_tr tB.refl (by omega) hq)
      · rw [if_neg (of_decide_eq_false hb)] at h
        refine go_ops aMi187 1 _ (f1 := (330, ([(0, .ref a0), (3, .int i3), (4, .int i4), (5, .int i5), (6, .int i6)], [.ref a0]))) rfl ?_
        obtain ⟨r330_1, hxr330_1, h⟩ := Option.bind_eq_some_iff.mp h
        refine gg_cv (as := []) (r := []) aMi187 rfl rfl rfl aMi170 (Nat.le_of_ble_eq_true rfl) rfl (Nat.le_of_ble_eq_true rfl) (Nat.le_of_ble_eq_true rfl) (by omega) (isK_of (sh10_z ha0)) (Tf170 (by omega) a0 ha0 I _ hxr330_1) ?_
        show aGo kad d 187 (333, ([(0, .ref a0), (3, .int i3), (4, .int i4), (5, .int i5), (6, .int i6)], [.int r330_1.1])) (aMem Z r330_1.2, t) _
        refine go_ops aMi187 1 _ (f1 := (335, ([(0, .ref a0), (3, .int i3), (4, .int i4), (5, .int i5), (6, .int i6)], [.int i5, .int r330_1.1]))) rfl ?_
        refine gg_br (b := decide (¬ r330_1.1 = i5)) (tg := 402) (off := 67) aMi187 rfl rfl rfl rfl (fun hb => ?_) (fun hb => ?_)
        · rw [if_pos (of_decide_eq_true hb)] at h
          refine go_le (lv1 := []) (aLe_of (show (List.map (fun q => q.1) ([] : ALv)).Nodup from (by show ([] : List Nat).Nodup; decide)) aSubL_nil) ?_
          exact (Tf187_b402 hd a0 ha0 r330_1.2 _ h).mono (fun _ _ hq => qLx_tr tB.refl (by omega) hq)
        · rw [if_neg (of_decide_eq_false hb)] at h
          refine go_ops aMi187 1 _ (f1 := (339, ([(0, .ref a0), (3, .int i3), (4, .int i4), (5, .int i5), (6, .int i6)], [.ref a0]))) rfl ?_
          obtain ⟨r339_2, hxr339_2, h⟩ := Option.bind_eq_some_iff.mp h
          refine gg_cv (as := []) (r := []) aMi187 rfl rfl rfl aMi173 (Nat.le_of_ble_eq_true rfl) rfl (Nat.le_of_ble_eq_true rfl) (Nat.le_of_ble_eq_true rfl) (by omega) (isK_of (sh10_z ha0)) (Tf173 (by omega) a0 ha0 r330_1.2 _ hxr339_2) ?_
          show aGo kad d 187 (342, ([(0, .ref a0), (3, .int i3), (4, .int i4), (5, .int i5), (6, .int i6)], [.int r339_2.1])) (aMem Z r339_2.2, t) _
          refine gg_br (b := decide (r339_2.1 < 0)) (tg := 402) (off := 60) aMi187 rfl rfl rfl rfl (fun hb => ?_) (fun hb => ?_)
          · rw [if_pos (of_decide_eq_true hb)] at h
            refine go_le (lv1 := []) (aLe_of (show (List.map (fun q => q.1) ([] : ALv)).Nodup from (by show ([] : List Nat).Nodup; decide)) aSubL_nil) ?_
            exact (Tf187_b402 hd a0 ha0 r339_2.2 _ h).mono (fun _ _ hq => qLx_tr tB.refl (by omega) hq)
          · rw [if_neg (of_decide_eq_false hb)] at h
            refine go_ops aMi187 1 _ (f1 := (346, ([(0, .ref a0), (3, .int i3), (4, .int i4), (5, .int i5), (6, .int i6)], [.ref a0]))) rfl ?_
            obtain ⟨r346_3, hxr346_3, h⟩ := Option.bind_eq_some_iff.mp h
            refine gg_cv (as := []) (r := []) aMi187 rfl rfl rfl aMi173 (Nat.le_of_ble_eq_true rfl) rfl (Nat.le_of_ble_eq_true rfl) (Nat.le_of_ble_eq_true rfl) (by omega) (isK_of (sh10_z ha0)) (Tf173 (by omega) a0 ha0 r339_2.2 _ hxr346_3) ?_
            show aGo kad d 187 (349, ([(0, .ref a0), (3, .int i3), (4, .int i4), (5, .int i5), (6, .int i6)], [.int r346_3.1])) (aMem Z r346_3.2, t) _
            refine go_ops aMi187 1 _ (f1 := (351, ([(0, .ref a0), (3, .int i3), (4, .int i4), (5, .int i5), (6, .int i6)], [.int (24 : Int32), .int r346_3.1]))) rfl ?_
            refine gg_br (b := decide ((24 : Int32) < r346_3.1)) (tg := 402) (off := 51) aMi187 rfl rfl rfl rfl (fun hb => ?_) (fun hb => ?_)
            · rw [if_pos (of_decide_eq_true hb)] at h
              refine go_le (lv1 := []) (aLe_of (show (List.map (fun q => q.1) ([] : ALv)).Nodup from (by show ([] : List Nat).Nodup; decide)) aSubL_nil) ?_
              exact (Tf187_b402 hd a0 ha0 r346_3.2 _ h).mono (fun _ _ hq => qLx_tr tB.refl (by omega) hq)
            · rw [if_neg (of_decide_eq_false hb)] at h
              refine go_ops aMi187 1 _ (f1 := (355, ([(0, .ref a0), (3, .int i3), (4, .int i4), (5, .int i5), (6, .int i6)], [.int i3]))) rfl ?_
              refine gg_br (b := decide (i3 = 0)) (tg := 378) (off := 23) aMi187 rfl rfl rfl rfl (fun hb => ?_) (fun hb => ?_)
              · rw [if_pos (of_decide_eq_true hb)] at h
                refine go_le (lv1 := [(0, .ref a0)]) (aLe_of (show (List.map (fun q => q.1) ([(0, .ref a0)] : ALv)).Nodup from (by show ([0] : List Nat).Nodup; decide)) (aSubL_cons rfl aSubL_nil)) ?_
                exact (Tf187_b378 hd a0 ha0 r346_3.2 _ h).mono (fun _ _ hq => qLx_tr tB.refl (by omega) hq)
              · rw [if_neg (of_decide_eq_false hb)] at h
                refine go_ops aMi187 3 _ (f1 := (362, ([(0, .ref a0), (3, .int i3), (4, .int i4), (5, .int i5), (6, .int i6)], [.ref a0, .int (8 : Int32), .ref a0]))) rfl ?_
                obtain ⟨r362_4, hxr362_4, h⟩ := Option.bind_eq_some_iff.mp h
                refine gg_cv (as := []) (r := [.int (8 : Int32), .ref a0]) aMi187 rfl rfl rfl aMi152 (Nat.le_of_ble_eq_true rfl) rfl (Nat.le_of_ble_eq_true rfl) (Nat.le_of_ble_eq_true rfl) (by omega) (isK_of (sh10_z ha0)) (Tf152 (by omega) a0 ha0 r346_3.2 _ hxr362_4) ?_
                show aGo kad d 187 (365, ([(0, .ref a0), (3, .int i3), (4, .int i4), (5, .int i5), (6, .int i6)], [.int r362_4.1, .int (8 : Int32), .ref a0])) (aMem Z r362_4.2, t) _
                refine go_ops aMi187 3 _ (f1 := (368, ([(0, .ref a0), (3, .int i3), (4, .int i4), (5, .int i5), (6, .int i6)], [.int (0 : Int32), .int (0 : Int32), .int (0 : Int32), .int r362_4.1, .int (8 : Int32), .ref a0]))) rfl ?_
                obtain ⟨r368_5, hxr368_5, h⟩ := Option.bind_eq_some_iff.mp h
                refine gg_hl (as := [.ref a0, .int (8 : Int32), .int r362_4.1, .int (0 : Int32), .int (0 : Int32), .int (0 : Int32)]) (r := []) aMi187 rfl rfl rfl rfl rfl (Nat.le_of_ble_eq_true rfl) (Nat.le_of_ble_eq_true rfl) (by omega) (TH1 (by omega) a0 ha0 (8 : Int32) r362_4.1 (0 : Int32) (0 : Int32) (0 : Int32) r362_4.2 _ hxr368_5) (fun t368_5 ht368_5 => ?_)
                show aGo kad d 187 (371, ([(0, .ref a0), (3, .int i3), (4, .int i4), (5, .int i5), (6, .int i6)], [.int r368_5.1])) (aMem Z r368_5.2, t368_5) _
                refine go_ops aMi187 1 _ (f1 := (372, ([(0, .ref a0), (3, .int i3), (4, .int i4), (5, .int i5), (6, .int i6)], [.ref a0, .int r368_5.1]))) rfl ?_
                obtain ⟨r372_6, hxr372_6, h⟩ := Option.bind_eq_some_iff.mp h
                refine gg_cv (as := []) (r := [.int r368_5.1]) aMi187 rfl rfl rfl aMi163 (Nat.le_of_ble_eq_true rfl) rfl (Nat.le_of_ble_eq_true rfl) (Nat.le_of_ble_eq_true rfl) (by omega) (isK_of (sh10_z ha0)) (Tf163 (by omega) a0 ha0 r368_5.2 _ hxr372_6) ?_
                show aGo kad d 187 (375, ([(0, .ref a0), (3, .int i3), (4, .int i4), (5, .int i5), (6, .int i6)], [.int r372_6.1, .int r368_5.1])) (aMem Z r372_6.2, t368_5) _
                refine gg_br (b := decide (¬ r368_5.1 = r372_6.1)) (tg := 402) (off := 27) aMi187 rfl rfl rfl rfl (fun hb => ?_) (fun hb => ?_)
                · rw [if_pos (of_decide_eq_true hb)] at h
                  refine go_le (lv1 := []) (aLe_of (show (List.map (fun q => q.1) ([] : ALv)).Nodup from (by show ([] : List Nat).Nodup; decide)) aSubL_nil) ?_
                  exact (Tf187_b402 hd a0 ha0 r372_6.2 _ h).mono (fun _ _ hq => qLx_tr (tB.refl.tr ht368_5) (by omega) hq)
                · rw [if_neg (of_decide_eq_false hb)] at h
                  refine go_le (lv1 := [(0, .ref a0)]) (aLe_of (show (List.map (fun q => q.1) ([(0, .ref a0)] : ALv)).Nodup from (by show ([0] : List Nat).Nodup; decide)) (aSubL_cons rfl aSubL_nil)) ?_
                  exact (Tf187_b378 hd a0 ha0 r372_6.2 _ h).mono (fun _ _ hq => qLx_tr (tB.refl.tr ht368_5) (by omega) hq)
    · rw [if_neg (of_decide_eq_false hb)] at h
      refine go_ops aMi187 12 _ (f1 := (304, ([(0, .ref a0), (3, .int i3), (4, .int i4), (5, .int i5), (6, .int i6)], [.int ((4 : Int32) * (i6 - i6 / (2 : Int32) * (2 : Int32))), .int ((5 : Int32) + (i6 / (2 : Int32))), .ref a0, .int i5]))) rfl ?_
      obtain ⟨r304_7, hxr304_7, h⟩ := Option.bind_eq_some_iff.mp h
      rcases xB_eq h with ⟨vr304_7, Ir304_7, her304_7, h2⟩ | ⟨Er304_7, Ir304_7, her304_7, h2⟩
      rotate_left
      · clear h
        subst her304_7
        subst h2
        exact gg_cvt (as := [.int ((5 : Int32) + (i6 / (2 : Int32))), .int ((4 : Int32) * (i6 - i6 / (2 : Int32) * (2 : Int32)))]) (r := [.int i5]) aMi187 rfl rfl rfl aMi169 (Nat.le_of_ble_eq_true rfl) rfl (Nat.le_of_ble_eq_true rfl) (Nat.le_of_ble_eq_true rfl) (by omega) (isK_of (sh10_z ha0)) (Tf169 (by omega) a0 ha0 ((5 : Int32) + (i6 / (2 : Int32))) ((4 : Int32) * (i6 - i6 / (2 : Int32) * (2 : Int32))) I _ hxr304_7) (qLx_thr tB.refl)
      clear h
      subst her304_7
      have h := h2
      clear h2
      refine gg_cv (as := [.int ((5 : Int32) + (i6 / (2 : Int32))), .int ((4 : Int32) * (i6 - i6 / (2 : Int32) * (2 : Int32)))]) (r := [.int i5]) aMi187 rfl rfl rfl aMi169 (Nat.le_of_ble_eq_true rfl) rfl (Nat.le_of_ble_eq_true rfl) (Nat.le_of_ble_eq_true rfl) (by omega) (isK_of (sh10_z ha0)) (Tf169 (by omega) a0 ha0 ((5 : Int32) + (i6 / (2 : Int32))) ((4 : Int32) * (i6 - i6 / (2 : Int32) * (2 : Int32))) I _ hxr304_7) ?_
      show aGo kad d 187 (307, ([(0, .ref a0), (3, .int i3), (4, .int i4), (5, .int i5), (6, .int i6)], [.int vr304_7, .int i5])) (aMem Z Ir304_7, t) _
      refine gg_br (b := decide (vr304_7 ≤ 0)) (tg := 314) (off := 7) aMi187 rfl rfl rfl rfl (fun hb => ?_) (fun hb => ?_)
      · rw [if_pos (of_decide_eq_true hb)] at h
        refine go_ops aMi187 1 _ (f1 := (315, ([(0, .ref a0), (3, .int i3), (4, .int i4), (5, .int i5), (6, .int i6)], [.int (0 : Int32), .int i5]))) rfl ?_
        refine go_le (lv1 := [(0, .ref a0), (3, .int i3), (4, .int i4), (6, .int i6)]) (aLe_of (show (List.map (fun q => q.1) ([(0, .ref a0), (3, .int i3), (4, .int i4), (6, .int i6)] : ALv)).Nodup from (by show ([0, 3, 4, 6] : List Nat).Nodup; decide)) (aSubL_cons rfl (aSubL_cons rfl (aSubL_cons rfl (aSubL_cons rfl aSubL_nil))))) ?_
        exact (Tf187_b315 hd (fun p0 p1 p2 p3 p4 I => f187_b282 kad N Z F p0 p1 p2 p3 p4 I) (fun t p0 q0 p1 p2 p3 p4 I r hh => ih t p0 q0 p1 p2 p3 p4 I r hh) a0 ha0 i3 i4 i6 (0 : Int32) i5 Ir304_7 _ h).mono (fun _ _ hq => qLx_tr tB.refl (by omega) hq)
      · rw [if_neg (of_decide_eq_false hb)] at h
        refine go_ops aMi187 2 _ (f1 := (315, ([(0, .ref a0), (3, .int i3), (4, .int i4), (5, .int i5), (6, .int i6)], [.int (1 : Int32), .int i5]))) rfl ?_
        refine go_le (lv1 := [(0, .ref a0), (3, .int i3), (4, .int i4), (6, .int i6)]) (aLe_of (show (List.map (fun q => q.1) ([(0, .ref a0), (3, .int i3), (4, .int i4), (6, .int i6)] : ALv)).Nodup from (by show ([0, 3, 4, 6] : List Nat).Nodup; decide)) (aSubL_cons rfl (aSubL_cons rfl (aSubL_cons rfl (aSubL_cons rfl aSubL_nil))))) ?_
        exact (Tf187_b315 hd (fun p0 p1 p2 p3 p4 I => f187_b282 kad N Z F p0 p1 p2 p3 p4 I) (fun t p0 q0 p1 p2 p3 p4 I r hh => ih t p0 q0 p1 p2 p3 p4 I r hh) a0 ha0 i3 i4 i6 (1 : Int32) i5 Ir304_7 _ h).mono (fun _ _ hq => qLx_tr tB.refl (by omega) hq)
def f187_b274 (kad : Nat → Nat) (N : Nat) (Z : AZ) (a0 : Nat) (i3 : Int32) (s0 : Int32) (I : AI) : Option ((Int32 ⊕ String) × AI) :=
  f187_b282 kad N Z N a0 i3 s0 (0 : Int32) (0 : Int32) I
set_option maxRecDepth 20000 in
theorem Tf187_b274 {kad : Nat → Nat} {N : Nat} {Z : AZ} {d : Nat} {t : Option Nat × (Nat × Nat)} (hd : 22 ≤ d) : ∀ (a0 : Nat) (ha0 : sh10 kad Z a0) (i3 : Int32) (s0 : Int32) (I : AI) (r : (Int32 ⊕ String) × AI), f187_b274 kad N Z a0 i3 s0 I = some r → aGo kad d 187 (274, ([(0, .ref a0), (3, .int i3)], [.int s0])) (aMem Z I, t) (qLx (0 + 2 * N) tvI Z t r) := by
  intro a0 ha0 i3 s0 I r h
  unfold f187_b274 at h
  refine go_ops aMi187 5 _ (f1 := (282, ([(6, .int (0 : Int32)), (5, .int (0 : Int32)), (4, .int s0), (0, .ref a0), (3, .int i3)], []))) rfl ?_
  refine go_le (lv1 := [(0, .ref a0), (3, .int i3), (4, .int s0), (5, .int (0 : Int32)), (6, .int (0 : Int32))]) (aLe_of (show (List.map (fun q => q.1) ([(0, .ref a0), (3, .int i3), (4, .int s0), (5, .int (0 : Int32)), (6, .int (0 : Int32))] : ALv)).Nodup from (by show ([0, 3, 4, 5, 6] : List Nat).Nodup; decide)) (aSubL_cons rfl (aSubL_cons rfl (aSubL_cons rfl (aSubL_cons rfl (aSubL_cons rfl aSubL_nil)))))) ?_
  exact (Tf187_b282 hd N t a0 ha0 i3 s0 (0 : Int32) (0 : Int32) I _ h).mono (fun _ _ hq => qLx_tr tB.refl (by omega) hq)
def f187_b269 (kad : Nat → Nat) (N : Nat) (Z : AZ) (a0 : Nat) (i3 : Int32) (I : AI) : Option ((Int32 ⊕ String) × AI) :=
  f187_b274 kad N Z a0 i3 (1 : Int32) I
set_option maxRecDepth 20000 in
theorem Tf187_b269 {kad : Nat → Nat} {N : Nat} {Z : AZ} {d : Nat} {t : Option Nat × (Nat × Nat)} (hd : 22 ≤ d) : ∀ (a0 : Nat) (ha0 : sh10 kad Z a0) (i3 : Int32) (I : AI) (r : (Int32 ⊕ String) × AI), f187_b269 kad N Z a0 i3 I = some r → aGo kad d 187 (269, ([(0, .ref a0), (3, .int i3)], [])) (aMem Z I, t) (qLx (0 + 2 * N) tvI Z t r) := by
  intro a0 ha0 i3 I r h
  unfold f187_b269 at h
  refine go_ops aMi187 2 _ (f1 := (274, ([(0, .ref a0), (3, .int i3)], [.int (1 : Int32)]))) rfl ?_
  exact (Tf187_b274 hd a0 ha0 i3 (1 : Int32) I _ h).mono (fun _ _ hq => qLx_tr tB.refl (by omega) hq)
def f187_b273 (kad : Nat → Nat) (N : Nat) (Z : AZ) (a0 : Nat) (i3 : Int32) (I : AI) : Option ((Int32 ⊕ String) × AI) :=
  f187_b274 kad N Z a0 i3 (0 : Int32) I
set_option maxRecDepth 20000 in
theorem Tf187_b273 {kad : Nat → Nat} {N : Nat} {Z : AZ} {d : Nat} {t : Option Nat × (Nat × Nat)} (hd : 22 ≤ d) : ∀ (a0 : Nat) (ha0 : sh10 kad Z a0) (i3 : Int32) (I : AI) (r : (Int32 ⊕ String) × AI), f187_b273 kad N Z a0 i3 I = some r → aGo kad d 187 (273, ([(0, .ref a0), (3, .int i3)], [])) (aMem Z I, t) (qLx (0 + 2 * N) tvI Z t r) := by
  intro a0 ha0 i3 I r h
  unfold f187_b273 at h
  refine go_ops aMi187 1 _ (f1 := (274, ([(0, .ref a0), (3, .int i3)], [.int (0 : Int32)]))) rfl ?_
  exact (Tf187_b274 hd a0 ha0 i3 (0 : Int32) I _ h).mono (fun _ _ hq => qLx_tr tB.refl (by omega) hq)
def f187_b235 (kad : Nat → Nat) (N : Nat) (Z : AZ) (a0 : Nat) (i3 : Int32) (I : AI) : Option ((Int32 ⊕ String) × AI) :=
  (f161 kad N Z a0 I).bind fun r236_1 =>
  if (60 : Int32) < r236_1.1 then
    f187_b273 kad N Z a0 i3 r236_1.2
  else
    (f168 kad N Z a0 r236_1.2).bind fun r245_2 =>
    if r245_2.1 < 0 then
      f187_b273 kad N Z a0 i3 r245_2.2
    else
      if i3 = 0 then
        f187_b269 kad N Z a0 i3 r245_2.2
      else
        (f157 kad N Z a0 r245_2.2).bind fun r256_3 =>
        if 0 < r256_3.1 then
          f187_b269 kad N Z a0 i3 r256_3.2
        else
          (f174 kad N Z a0 r256_3.2).bind fun r263_4 =>
          if r263_4.1 = 0 then
            f187_b273 kad N Z a0 i3 r263_4.2
          else
            f187_b269 kad N Z a0 i3 r263_4.2
set_option maxRecDepth 20000 in
theorem Tf187_b235 {kad : Nat → Nat} {N : Nat} {Z : AZ} {d : Nat} {t : Option Nat × (Nat × Nat)} (hd : 22 ≤ d) : ∀ (a0 : Nat) (ha0 : sh10 kad Z a0) (i3 : Int32) (I : AI) (r : (Int32 ⊕ String) × AI), f187_b235 kad N Z a0 i3 I = some r → aGo kad d 187 (235, ([(0, .ref a0), (3, .int i3)], [])) (aMem Z I, t) (qLx (0 + 2 * N) tvI Z t r) := by
  intro a0 ha0 i3 I r h
  unfold f187_b235 at h
  refine go_ops aMi187 1 _ (f1 := (236, ([(0, .ref a0), (3, .int i3)], [.ref a0]))) rfl ?_
  obtain ⟨r236_1, hxr236_1, h⟩ := Option.bind_eq_some_iff.mp h
  refine gg_cv (as := []) (r := []) aMi187 rfl rfl rfl aMi161 (Nat.le_of_ble_eq_true rfl) rfl (Nat.le_of_ble_eq_true rfl) (Nat.le_of_ble_eq_true rfl) (by omega) (isK_of (sh10_z ha0)) (Tf161 (by omega) a0 ha0 I _ hxr236_1) ?_
  show aGo kad d 187 (239, ([(0, .ref a0), (3, .int i3)], [.int r236_1.1])) (aMem Z r236_1.2, t) _
  refine go_ops aMi187 1 _ (f1 := (241, ([(0, .ref a0), (3, .int i3)], [.int (60 : Int32), .int r236_1.1]))) rfl ?_
  refine gg_br (b := decide ((60 : Int32) < r236_1.1)) (tg := 273) (off := 32) aMi187 rfl rfl rfl rfl (fun hb => ?_) (fun hb => ?_)
  · rw [if_pos (of_decide_eq_true hb)] at h
    exact (Tf187_b273 hd a0 ha0 i3 r236_1.2 _ h).mono (fun _ _ hq => qLx_tr tB.refl (by omega) hq)
  · rw [if_neg (of_decide_eq_false hb)] at h
    refine go_ops aMi187 1 _ (f1 := (245, ([(0, .ref a0), (3, .int i3)], [.ref a0]))) rfl ?_
    obtain ⟨r245_2, hxr245_2, h⟩ := Option.bind_eq_some_iff.mp h
    refine gg_cv (as := []) (r := []) aMi187 rfl rfl rfl aMi168 (Nat.le_of_ble_eq_true rfl) rfl (Nat.le_of_ble_eq_true rfl) (Nat.le_of_ble_eq_true rfl) (by omega) (isK_of (sh10_z ha0)) (Tf168 (by omega) a0 ha0 r236_1.2 _ hxr245_2) ?_
    show aGo kad d 187 (248, ([(0, .ref a0), (3, .int i3)], [.int r245_2.1])) (aMem Z r245_2.2, t) _
    refine gg_br (b := decide (r245_2.1 < 0)) (tg := 273) (off := 25) aMi187 rfl rfl rfl rfl (fun hb => ?_) (fun hb => ?_)
    · rw [if_pos (of_decide_eq_true hb)] at h
      exact (Tf187_b273 hd a0 ha0 i3 r245_2.2 _ h).mono (fun _ _ hq => qLx_tr tB.refl (by omega) hq)
    · rw [if_neg (of_decide_eq_false hb)] at h
      refine go_ops aMi187 1 _ (f1 := (252, ([(0, .ref a0), (3, .int i3)], [.int i3]))) rfl ?_
      refine gg_br (b := decide (i3 = 0)) (tg := 269) (off := 17) aMi187 rfl rfl rfl rfl (fun hb => ?_) (fun hb => ?_)
      · rw [if_pos (of_decide_eq_true hb)] at h
        exact (Tf187_b269 hd a0 ha0 i3 r245_2.2 _ h).mono (fun _ _ hq => qLx_tr tB.refl (by omega) hq)
      · rw [if_neg (of_decide_eq_false hb)] at h
        refine go_ops aMi187 1 _ (f1 := (256, ([(0, .ref a0), (3, .int i3)], [.ref a0]))) rfl ?_
        obtain ⟨r256_3, hxr256_3, h⟩ := Option.bind_eq_some_iff.mp h
        refine gg_cv (as := []) (r := []) aMi187 rfl rfl rfl aMi157 (Nat.le_of_ble_eq_true rfl) rfl (Nat.le_of_ble_eq_true rfl) (Nat.le_of_ble_eq_true rfl) (by omega) (isK_of (sh10_z ha0)) (Tf157 (by omega) a0 ha0 r245_2.2 _ hxr256_3) ?_
        show aGo kad d 187 (259, ([(0, .ref a0), (3, .int i3)], [.int r256_3.1])) (aMem Z r256_3.2, t) _
        refine gg_br (b := decide (0 < r256_3.1)) (tg := 269) (off := 10) aMi187 rfl rfl rfl rfl (fun hb => ?_) (fun hb => ?_)
        · rw [if_pos (of_decide_eq_true hb)] at h
          exact (Tf187_b269 hd a0 ha0 i3 r256_3.2 _ h).mono (fun _ _ hq => qLx_tr tB.refl (by omega) hq)
        · rw [if_neg (of_decide_eq_false hb)] at h
          refine go_ops aMi187 1 _ (f1 := (263, ([(0, .ref a0), (3, .int i3)], [.ref a0]))) rfl ?_
          obtain ⟨r263_4, hxr263_4, h⟩ := Option.bind_eq_some_iff.mp h
          refine gg_cv (as := []) (r := []) aMi187 rfl rfl rfl aMi174 (Nat.le_of_ble_eq_true rfl) rfl (Nat.le_of_ble_eq_true rfl) (Nat.le_of_ble_eq_true rfl) (by omega) (isK_of (sh10_z ha0)) (Tf174 (by omega) a0 ha0 r256_3.2 _ hxr263_4) ?_
          show aGo kad d 187 (266, ([(0, .ref a0), (3, .int i3)], [.int r263_4.1])) (aMem Z r263_4.2, t) _
          refine gg_br (b := decide (r263_4.1 = 0)) (tg := 273) (off := 7) aMi187 rfl rfl rfl rfl (fun hb => ?_) (fun hb => ?_)
          · rw [if_pos (of_decide_eq_true hb)] at h
            exact (Tf187_b273 hd a0 ha0 i3 r263_4.2 _ h).mono (fun _ _ hq => qLx_tr tB.refl (by omega) hq)
          · rw [if_neg (of_decide_eq_false hb)] at h
            exact (Tf187_b269 hd a0 ha0 i3 r263_4.2 _ h).mono (fun _ _ hq => qLx_tr tB.refl (by omega) hq)
def f187_b167 (kad : Nat → Nat) (N : Nat) (Z : AZ) (a0 : Nat) (i2 : Int32) (i3 : Int32) (s0 : Int32) (I : AI) : Option ((Int32 ⊕ String) × AI) :=
  if s0 = 0 then
    f187_b273 kad N Z a0 i3 I
  else
    (f155 kad N Z a0 I).bind fun r175_1 =>
    if r175_1.1 < 0 then
      f187_b273 kad N Z a0 i3 r175_1.2
    else
      (f155 kad N Z a0 r175_1.2).bind fun r182_2 =>
      if (256 : Int32) < r182_2.1 then
        f187_b273 kad N Z a0 i3 r182_2.2
      else
        (f156 kad N Z a0 r182_2.2).bind fun r192_3 =>
        if r192_3.1 < 0 then
          f187_b273 kad N Z a0 i3 r192_3.2
        else
          (f156 kad N Z a0 r192_3.2).bind fun r199_4 =>
          if (32 : Int32) ≤ r199_4.1 then
            f187_b273 kad N Z a0 i3 r199_4.2
          else
            (f157 kad N Z a0 r199_4.2).bind fun r208_5 =>
            if r208_5.1 < 0 then
              f187_b273 kad N Z a0 i3 r208_5.2
            else
              (f157 kad N Z a0 r208_5.2).bind fun r215_6 =>
              if (9 : Int32) ≤ r215_6.1 then
                f187_b273 kad N Z a0 i3 r215_6.2
              else
                (f157 kad N Z a0 r215_6.2).bind fun r224_7 =>
                if r224_7.1 = 0 then
                  f187_b235 kad N Z a0 i3 r224_7.2
                else
                  if ¬ i2 = (1 : Int32) then
                    f187_b273 kad N Z a0 i3 r224_7.2
                  else
                    f187_b235 kad N Z a0 i3 r224_7.2
set_option maxRecDepth 20000 in
theorem Tf187_b167 {kad : Nat → Nat} {N : Nat} {Z : AZ} {d : Nat} {t : Option Nat × (Nat × Nat)} (hd : 22 ≤ d) : ∀ (a0 : Nat) (ha0 : sh10 kad Z a0) (i2 : Int32) (i3 : Int32) (s0 : Int32) (I : AI) (r : (Int32 ⊕ String) × AI), f187_b167 kad N Z a0 i2 i3 s0 I = some r → aGo kad d 187 (167, ([(0, .ref a0), (2, .int i2), (3, .int i3)], [.int s0])) (aMem Z I, t) (qLx (0 + 2 * N) tvI Z t r) := by
  intro a0 ha0 i2 i3 s0 I r h
  unfold f187_b167 at h
  refine go_ops aMi187 2 _ (f1 := (171, ([(4, .int s0), (0, .ref a0), (2, .int i2), (3, .int i3)], [.int s0]))) rfl ?_
  refine gg_br (b := decide (s0 = 0)) (tg := 273) (off := 102) aMi187 rfl rfl rfl rfl (fun hb => ?_) (fun hb => ?_)
  · rw [if_pos (of_decide_eq_true hb)] at h
    refine go_le (lv1 := [(0, .ref a0), (3, .int i3)]) (aLe_of (show (List.map (fun q => q.1) ([(0, .ref a0), (3, .int i3)] : ALv)).Nodup from (by show ([0, 3] : List Nat).Nodup; decide)) (aSubL_cons rfl (aSubL_cons rfl aSubL_nil))) ?_
    exact (Tf187_b273 hd a0 ha0 i3 I _ h).mono (fun _ _ hq => qLx_tr tB.refl (by omega) hq)
  · rw [if_neg (of_decide_eq_false hb)] at h
    refine go_ops aMi187 1 _ (f1 := (175, ([(4, .int s0), (0, .ref a0), (2, .int i2), (3, .int i3)], [.ref a0]))) rfl ?_
    obtain ⟨r175_1, hxr175_1, h⟩ := Option.bind_eq_some_iff.mp h
    refine gg_cv (as := []) (r := []) aMi187 rfl rfl rfl aMi155 (Nat.le_of_ble_eq_true rfl) rfl (Nat.le_of_ble_eq_true rfl) (Nat.le_of_ble_eq_true rfl) (by omega) (isK_of (sh10_z ha0)) (Tf155 (by omega) a0 ha0 I _ hxr175_1) ?_
    show aGo kad d 187 (178, ([(4, .int s0), (0, .ref a0), (2, .int i2), (3, .int i3)], [.int r175_1.1])) (aMem Z r175_1.2, t) _
    refine gg_br (b := decide (r175_1.1 < 0)) (tg := 273) (off := 95) aMi187 rfl rfl rfl rfl (fun hb => ?_) (fun hb => ?_)
    · rw [if_pos (of_decide_eq_true hb)] at h
      refine go_le (lv1 := [(0, .ref a0), (3, .int i3)]) (aLe_of (show (List.map (fun q => q.1) ([(0, .ref a0), (3, .int i3)] : ALv)).Nodup from (by show ([0, 3] : List Nat).Nodup; decide)) (aSubL_cons rfl (aSubL_cons rfl aSubL_nil))) ?_
      exact (Tf187_b273 hd a0 ha0 i3 r175_1.2 _ h).mono (fun _ _ hq => qLx_tr tB.refl (by omega) hq)
    · rw [if_neg (of_decide_eq_false hb)] at h
      refine go_ops aMi187 1 _ (f1 := (182, ([(4, .int s0), (0, .ref a0), (2, .int i2), (3, .int i3)], [.ref a0]))) rfl ?_
      obtain ⟨r182_2, hxr182_2, h⟩ := Option.bind_eq_some_iff.mp h
      refine gg_cv (as := []) (r := []) aMi187 rfl rfl rfl aMi155 (Nat.le_of_ble_eq_true rfl) rfl (Nat.le_of_ble_eq_true rfl) (Nat.le_of_ble_eq_true rfl) (by omega) (isK_of (sh10_z ha0)) (Tf155 (by omega) a0 ha0 r175_1.2 _ hxr182_2) ?_
      show aGo kad d 187 (185, ([(4, .int s0), (0, .ref a0), (2, .int i2), (3, .int i3)], [.int r182_2.1])) (aMem Z r182_2.2, t) _
      refine go_ops aMi187 1 _ (f1 := (188, ([(4, .int s0), (0, .ref a0), (2, .int i2), (3, .int i3)], [.int (256 : Int32), .int r182_2.1]))) rfl ?_
      refine gg_br (b := decide ((256 : Int32) < r182_2.1)) (tg := 273) (off := 85) aMi187 rfl rfl rfl rfl (fun hb => ?_) (fun hb => ?_)
      · rw [if_pos (of_decide_eq_true hb)] at h
        refine go_le (lv1 := [(0, .ref a0), (3, .int i3)]) (aLe_of (show (List.map (fun q => q.1) ([(0, .ref a0), (3, .int i3)] : ALv)).Nodup from (by show ([0, 3] : List Nat).Nodup; decide)) (aSubL_cons rfl (aSubL_cons rfl aSubL_nil))) ?_
        exact (Tf187_b273 hd a0 ha0 i3 r182_2.2 _ h).mono (fun _ _ hq => qLx_tr tB.refl (by omega) hq)
      · rw [if_neg (of_decide_eq_false hb)] at h
        refine go_ops aMi187 1 _ (f1 := (192, ([(4, .int s0), (0, .ref a0), (2, .int i2), (3, .int i3)], [.ref a0]))) rfl ?_
        obtain ⟨r192_3, hxr192_3, h⟩ := Option.bind_eq_some_iff.mp h
        refine gg_cv (as := []) (r := []) aMi187 rfl rfl rfl aMi156 (Nat.le_of_ble_eq_true rfl) rfl (Nat.le_of_ble_eq_true rfl) (Nat.le_of_ble_eq_true rfl) (by omega) (isK_of (sh10_z ha0)) (Tf156 (by omega) a0 ha0 r182_2.2 _ hxr192_3) ?_
        show aGo kad d 187 (195, ([(4, .int s0), (0, .ref a0), (2, .int i2), (3, .int i3)], [.int r192_3.1])) (aMem Z r192_3.2, t) _
        refine gg_br (b := decide (r192_3.1 < 0)) (tg := 273) (off := 78) aMi187 rfl rfl rfl rfl (fun hb => ?_) (fun hb => ?_)
        · rw [if_pos (of_decide_eq_true hb)] at h
          refine go_le (lv1 := [(0, .ref a0), (3, .int i3)]) (aLe_of (show (List.map (fun q => q.1) ([(0, .ref a0), (3, .int i3)] : ALv)).Nodup from (by show ([0, 3] : List Nat).Nodup; decide)) (aSubL_cons rfl (aSubL_cons rfl aSubL_nil))) ?_
          exact (Tf187_b273 hd a0 ha0 i3 r192_3.2 _ h).mono (fun _ _ hq => qLx_tr tB.refl (by omega) hq)
        · rw [if_neg (of_decide_eq_false hb)] at h
          refine go_ops aMi187 1 _ (f1 := (199, ([(4, .int s0), (0, .ref a0), (2, .int i2), (3, .int i3)], [.ref a0]))) rfl ?_
          obtain ⟨r199_4, hxr199_4, h⟩ := Option.bind_eq_some_iff.mp h
          refine gg_cv (as := []) (r := []) aMi187 rfl rfl rfl aMi156 (Nat.le_of_ble_eq_true rfl) rfl (Nat.le_of_ble_eq_true rfl) (Nat.le_of_ble_eq_true rfl) (by omega) (isK_of (sh10_z ha0)) (Tf156 (by omega) a0 ha0 r192_3.2 _ hxr199_4) ?_
          show aGo kad d 187 (202, ([(4, .int s0), (0, .ref a0), (2, .int i2), (3, .int i3)], [.int r199_4.1])) (aMem Z r199_4.2, t) _
          refine go_ops aMi187 1 _ (f1 := (204, ([(4, .int s0), (0, .ref a0), (2, .int i2), (3, .int i3)], [.int (32 : Int32), .int r199_4.1]))) rfl ?_
          refine gg_br (b := decide ((32 : Int32) ≤ r199_4.1)) (tg := 273) (off := 69) aMi187 rfl rfl rfl rfl (fun hb => ?_) (fun hb => ?_)
          · rw [if_pos (of_decide_eq_true hb)] at h
            refine go_le (lv1 := [(0, .ref a0), (3, .int i3)]) (aLe_of (show (List.map (fun q => q.1) ([(0, .ref a0), (3, .int i3)] : ALv)).Nodup from (by show ([0, 3] : List Nat).Nodup; decide)) (aSubL_cons rfl (aSubL_cons rfl aSubL_nil))) ?_
            exact (Tf187_b273 hd a0 ha0 i3 r199_4.2 _ h).mono (fun _ _ hq => qLx_tr tB.refl (by omega) hq)
          · rw [if_neg (of_decide_eq_false hb)] at h
            refine go_ops aMi187 1 _ (f1 := (208, ([(4, .int s0), (0, .ref a0), (2, .int i2), (3, .int i3)], [.ref a0]))) rfl ?_
            obtain ⟨r208_5, hxr208_5, h⟩ := Option.bind_eq_some_iff.mp h
            refine gg_cv (as := []) (r := []) aMi187 rfl rfl rfl aMi157 (Nat.le_of_ble_eq_true rfl) rfl (Nat.le_of_ble_eq_true rfl) (Nat.le_of_ble_eq_true rfl) (by omega) (isK_of (sh10_z ha0)) (Tf157 (by omega) a0 ha0 r199_4.2 _ hxr208_5) ?_
            show aGo kad d 187 (211, ([(4, .int s0), (0, .ref a0), (2, .int i2), (3, .int i3)], [.int r208_5.1])) (aMem Z r208_5.2, t) _
            refine gg_br (b := decide (r208_5.1 < 0)) (tg := 273) (off := 62) aMi187 rfl rfl rfl rfl (fun hb => ?_) (fun hb => ?_)
            · rw [if_pos (of_decide_eq_true hb)] at h
              refine go_le (lv1 := [(0, .ref a0), (3, .int i3)]) (aLe_of (show (List.map (fun q => q.1) ([(0, .ref a0), (3, .int i3)] : ALv)).Nodup from (by show ([0, 3] : List Nat).Nodup; decide)) (aSubL_cons rfl (aSubL_cons rfl aSubL_nil))) ?_
              exact (Tf187_b273 hd a0 ha0 i3 r208_5.2 _ h).mono (fun _ _ hq => qLx_tr tB.refl (by omega) hq)
            · rw [if_neg (of_decide_eq_false hb)] at h
              refine go_ops aMi187 1 _ (f1 := (215, ([(4, .int s0), (0, .ref a0), (2, .int i2), (3, .int i3)], [.ref a0]))) rfl ?_
              obtain ⟨r215_6, hxr215_6, h⟩ := Option.bind_eq_some_iff.mp h
              refine gg_cv (as := []) (r := []) aMi187 rfl rfl rfl aMi157 (Nat.le_of_ble_eq_true rfl) rfl (Nat.le_of_ble_eq_true rfl) (Nat.le_of_ble_eq_true rfl) (by omega) (isK_of (sh10_z ha0)) (Tf157 (by omega) a0 ha0 r208_5.2 _ hxr215_6) ?_
              show aGo kad d 187 (218, ([(4, .int s0), (0, .ref a0), (2, .int i2), (3, .int i3)], [.int r215_6.1])) (aMem Z r215_6.2, t) _
              refine go_ops aMi187 1 _ (f1 := (220, ([(4, .int s0), (0, .ref a0), (2, .int i2), (3, .int i3)], [.int (9 : Int32), .int r215_6.1]))) rfl ?_
              refine gg_br (b := decide ((9 : Int32) ≤ r215_6.1)) (tg := 273) (off := 53) aMi187 rfl rfl rfl rfl (fun hb => ?_) (fun hb => ?_)
              · rw [if_pos (of_decide_eq_true hb)] at h
                refine go_le (lv1 := [(0, .ref a0), (3, .int i3)]) (aLe_of (show (List.map (fun q => q.1) ([(0, .ref a0), (3, .int i3)] : ALv)).Nodup from (by show ([0, 3] : List Nat).Nodup; decide)) (aSubL_cons rfl (aSubL_cons rfl aSubL_nil))) ?_
                exact (Tf187_b273 hd a0 ha0 i3 r215_6.2 _ h).mono (fun _ _ hq => qLx_tr tB.refl (by omega) hq)
              · rw [if_neg (of_decide_eq_false hb)] at h
                refine go_ops aMi187 1 _ (f1 := (224, ([(4, .int s0), (0, .ref a0), (2, .int i2), (3, .int i3)], [.ref a0]))) rfl ?_
                obtain ⟨r224_7, hxr224_7, h⟩ := Option.bind_eq_some_iff.mp h
                refine gg_cv (as := []) (r := []) aMi187 rfl rfl rfl aMi157 (Nat.le_of_ble_eq_true rfl) rfl (Nat.le_of_ble_eq_true rfl) (Nat.le_of_ble_eq_true rfl) (by omega) (isK_of (sh10_z ha0)) (Tf157 (by omega) a0 ha0 r215_6.2 _ hxr224_7) ?_
                show aGo kad d 187 (227, ([(4, .int s0), (0, .ref a0), (2, .int i2), (3, .int i3)], [.int r224_7.1])) (aMem Z r224_7.2, t) _
                refine gg_br (b := decide (r224_7.1 = 0)) (tg := 235) (off := 8) aMi187 rfl rfl rfl rfl (fun hb => ?_) (fun hb => ?_)
                · rw [if_pos (of_decide_eq_true hb)] at h
                  refine go_le (lv1 := [(0, .ref a0), (3, .int i3)]) (aLe_of (show (List.map (fun q => q.1) ([(0, .ref a0), (3, .int i3)] : ALv)).Nodup from (by show ([0, 3] : List Nat).Nodup; decide)) (aSubL_cons rfl (aSubL_cons rfl aSubL_nil))) ?_
                  exact (Tf187_b235 hd a0 ha0 i3 r224_7.2 _ h).mono (fun _ _ hq => qLx_tr tB.refl (by omega) hq)
                · rw [if_neg (of_decide_eq_false hb)] at h
                  refine go_ops aMi187 2 _ (f1 := (232, ([(4, .int s0), (0, .ref a0), (2, .int i2), (3, .int i3)], [.int (1 : Int32), .int i2]))) rfl ?_
                  refine gg_br (b := decide (¬ i2 = (1 : Int32))) (tg := 273) (off := 41) aMi187 rfl rfl rfl rfl (fun hb => ?_) (fun hb => ?_)
                  · rw [if_pos (of_decide_eq_true hb)] at h
                    refine go_le (lv1 := [(0, .ref a0), (3, .int i3)]) (aLe_of (show (List.map (fun q => q.1) ([(0, .ref a0), (3, .int i3)] : ALv)).Nodup from (by show ([0, 3] : List Nat).Nodup; decide)) (aSubL_cons rfl (aSubL_cons rfl aSubL_nil))) ?_
                    exact (Tf187_b273 hd a0 ha0 i3 r224_7.2 _ h).mono (fun _ _ hq => qLx_tr tB.refl (by omega) hq)
                  · rw [if_neg (of_decide_eq_false hb)] at h
                    refine go_le (lv1 := [(0, .ref a0), (3, .int i3)]) (aLe_of (show (List.map (fun q => q.1) ([(0, .ref a0), (3, .int i3)] : ALv)).Nodup from (by show ([0, 3] : List Nat).Nodup; decide)) (aSubL_cons rfl (aSubL_cons rfl aSubL_nil))) ?_
                    exact (Tf187_b235 hd a0 ha0 i3 r224_7.2 _ h).mono (fun _ _ hq => qLx_tr tB.refl (by omega) hq)
def f187_b162 (kad : Nat → Nat) (N : Nat) (Z : AZ) (a0 : Nat) (i2 : Int32) (i3 : Int32) (I : AI) : Option ((Int32 ⊕ String) × AI) :=
  f187_b167 kad N Z a0 i2 i3 (1 : Int32) I
set_option maxRecDepth 20000 in
theorem Tf187_b162 {kad : Nat → Nat} {N : Nat} {Z : AZ} {d : Nat} {t : Option Nat × (Nat × Nat)} (hd : 22 ≤ d) : ∀ (a0 : Nat) (ha0 : sh10 kad Z a0) (i2 : Int32) (i3 : Int32) (I : AI) (r : (Int32 ⊕ String) × AI), f187_b162 kad N Z a0 i2 i3 I = some r → aGo kad d 187 (162, ([(0, .ref a0), (2, .int i2), (3, .int i3)], [])) (aMem Z I, t) (qLx (0 + 2 * N) tvI Z t r) := by
  intro a0 ha0 i2 i3 I r h
  unfold f187_b162 at h
  refine go_ops aMi187 2 _ (f1 := (167, ([(0, .ref a0), (2, .int i2), (3, .int i3)], [.int (1 : Int32)]))) rfl ?_
  exact (Tf187_b167 hd a0 ha0 i2 i3 (1 : Int32) I _ h).mono (fun _ _ hq => qLx_tr tB.refl (by omega) hq)
def f187_b166 (kad : Nat → Nat) (N : Nat) (Z : AZ) (a0 : Nat) (i2 : Int32) (i3 : Int32) (I : AI) : Option ((Int32 ⊕ String) × AI) :=
  f187_b167 kad N Z a0 i2 i3 (0 : Int32) I
set_option maxRecDepth 20000 in
theorem Tf187_b166 {kad : Nat → Nat} {N : Nat} {Z : AZ} {d : Nat} {t : Option Nat × (Nat × Nat)} (hd : 22 ≤ d) : ∀ (a0 : Nat) (ha0 : sh10 kad Z a0) (i2 : Int32) (i3 : Int32) (I : AI) (r : (Int32 ⊕ String) × AI), f187_b166 kad N Z a0 i2 i3 I = some r → aGo kad d 187 (166, ([(0, .ref a0), (2, .int i2), (3, .int i3)], [])) (aMem Z I, t) (qLx (0 + 2 * N) tvI Z t r) := by
  intro a0 ha0 i2 i3 I r h
  unfold f187_b166 at h
  refine go_ops aMi187 1 _ (f1 := (167, ([(0, .ref a0), (2, .int i2), (3, .int i3)], [.int (0 : Int32)]))) rfl ?_
  exact (Tf187_b167 hd a0 ha0 i2 i3 (0 : Int32) I _ h).mono (fun _ _ hq => qLx_tr tB.refl (by omega) hq)
def f187_b46 (kad : Nat → Nat) (N : Nat) (Z : AZ) (a0 : Nat) (i1 : Int32) (i2 : Int32) (i3 : Int32) (s0 : Int32) (s1 : Int32) (I : AI) : Option ((Int32 ⊕ String) × AI) :=
  if ¬ s1 = s0 then
    f187_b166 kad N Z a0 i2 i3 I
  else
    (f151 kad N Z a0 I).bind fun r50_1 =>
    if (5 : Int32) ≤ r50_1.1 then
      f187_b166 kad N Z a0 i2 i3 r50_1.2
    else
      (f152 kad N Z a0 r50_1.2).bind fun r58_2 =>
      if r58_2.1 < 0 then
        f187_b166 kad N Z a0 i2 i3 r58_2.2
      else
        (f152 kad N Z a0 r58_2.2).bind fun r65_3 =>
        if (1000 : Int32) < r65_3.1 then
          f187_b166 kad N Z a0 i2 i3 r65_3.2
        else
          (f153 kad N Z a0 r65_3.2).bind fun r75_4 =>
          if r75_4.1 < 0 then
            f187_b166 kad N Z a0 i2 i3 r75_4.2
          else
            (f153 kad N Z a0 r75_4.2).bind fun r82_5 =>
            if (200 : Int32) < r82_5.1 then
              f187_b166 kad N Z a0 i2 i3 r82_5.2
            else
              (f153 kad N Z a0 r82_5.2).bind fun r92_6 =>
              (f152 kad N Z a0 r92_6.2).bind fun r96_7 =>
              if r96_7.1 < r92_6.1 then
                f187_b166 kad N Z a0 i2 i3 r96_7.2
              else
                if ¬ i3 = 0 then
                  f187_b162 kad N Z a0 i2 i3 r96_7.2
                else
                  (f152 kad N Z a0 r96_7.2).bind fun r107_8 =>
                  if ¬ r107_8.1 = 0 then
                    f187_b166 kad N Z a0 i2 i3 r107_8.2
                  else
                    (f155 kad N Z a0 r107_8.2).bind fun r114_9 =>
                    if ¬ r114_9.1 = 0 then
                      f187_b166 kad N Z a0 i2 i3 r114_9.2
                    else
                      (f154 kad N Z a0 r114_9.2).bind fun r121_10 =>
                      if ¬ r121_10.1 = 0 then
                        f187_b166 kad N Z a0 i2 i3 r121_10.2
                      else
                        (f156 kad N Z a0 r121_10.2).bind fun r128_11 =>
                        if ¬ r128_11.1 = 0 then
                          f187_b166 kad N Z a0 i2 i3 r128_11.2
                        else
                          (f161 kad N Z a0 r128_11.2).bind fun r135_12 =>
                          if ¬ r135_12.1 = 0 then
                            f187_b166 kad N Z a0 i2 i3 r135_12.2
                          else
                            (f157 kad N Z a0 r135_12.2).bind fun r142_13 =>
                            if ¬ r142_13.1 = 0 then
                              f187_b166 kad N Z a0 i2 i3 r142_13.2
                            else
                              (f184 kad N Z i1 (256 : Int32) r142_13.2).bind fun r153_14 =>
                              (f159 kad N Z a0 r153_14.1 r153_14.2).bind fun r156_15 =>
                              xB r156_15 fun vr156_15 Ir156_15 =>
                              if ¬ vr156_15 = 0 then
                                f187_b166 kad N Z a0 i2 i3 Ir156_15
                              else
                                f187_b162 kad N Z a0 i2 i3 Ir156_15
set_option maxRecDepth 20000 in
theorem Tf187_b46 {kad : Nat → Nat} {N : Nat} {Z : AZ} {d : Nat} {t : Option Nat × (Nat × Nat)} (hd : 22 ≤ d) : ∀ (a0 : Nat) (ha0 : sh10 kad Z a0) (i1 : Int32) (i2 : Int32) (i3 : Int32) (s0 : Int32) (s1 : Int32) (I : AI) (r : (Int32 ⊕ String) × AI), f187_b46 kad N Z a0 i1 i2 i3 s0 s1 I = some r → aGo kad d 187 (46, ([(0, .ref a0), (1, .int i1), (2, .int i2), (3, .int i3)], [.int s0, .int s1])) (aMem Z I, t) (qLx (1 + 2 * N) tvI Z t r) := by
  intro a0 ha0 i1 i2 i3 s0 s1 I r h
  unfold f187_b46 at h
  refine gg_br (b := decide (¬ s1 = s0)) (tg := 166) (off := 120) aMi187 rfl rfl rfl rfl (fun hb => ?_) (fun hb => ?_)
  · rw [if_pos (of_decide_eq_true hb)] at h
    refine go_le (lv1 := [(0, .ref a0), (2, .int i2), (3, .int i3)]) (aLe_of (show (List.map (fun q => q.1) ([(0, .ref a0), (2, .int i2), (3, .int i3)] : ALv)).Nodup from (by show ([0, 2, 3] : List Nat).Nodup; decide)) (aSubL_cons rfl (aSubL_cons rfl (aSubL_cons rfl aSubL_nil)))) ?_
    exact (Tf187_b166 hd a0 ha0 i2 i3 I _ h).mono (fun _ _ hq => qLx_tr tB.refl (by omega) hq)
  · rw [if_neg (of_decide_eq_false hb)] at h
    refine go_ops aMi187 1 _ (f1 := (50, ([(0, .ref a0), (1, .int i1), (2, .int i2), (3, .int i3)], [.ref a0]))) rfl ?_
    obtain ⟨r50_1, hxr50_1, h⟩ := Option.bind_eq_some_iff.mp h
    refine gg_cv (as := []) (r := []) aMi187 rfl rfl rfl aMi151 (Nat.le_of_ble_eq_true rfl) rfl (Nat.le_of_ble_eq_true rfl) (Nat.le_of_ble_eq_true rfl) (by omega) (isK_of (sh10_z ha0)) (Tf151 (by omega) a0 ha0 I _ hxr50_1) ?_
    show aGo kad d 187 (53, ([(0, .ref a0), (1, .int i1), (2, .int i2), (3, .int i3)], [.int r50_1.1])) (aMem Z r50_1.2, t) _
    refine go_ops aMi187 1 _ (f1 := (54, ([(0, .ref a0), (1, .int i1), (2, .int i2), (3, .int i3)], [.int (5 : Int32), .int r50_1.1]))) rfl ?_
    refine gg_br (b := decide ((5 : Int32) ≤ r50_1.1)) (tg := 166) (off := 112) aMi187 rfl rfl rfl rfl (fun hb => ?_) (fun hb => ?_)
    · rw [if_pos (of_decide_eq_true hb)] at h
      refine go_le (lv1 := [(0, .ref a0), (2, .int i2), (3, .int i3)]) (aLe_of (show (List.map (fun q => q.1) ([(0, .ref a0), (2, .int i2), (3, .int i3)] : ALv)).Nodup from (by show ([0, 2, 3] : List Nat).Nodup; decide)) (aSubL_cons rfl (aSubL_cons rfl (aSubL_cons rfl aSubL_nil)))) ?_
      exact (Tf187_b166 hd a0 ha0 i2 i3 r50_1.2 _ h).mono (fun _ _ hq => qLx_tr tB.refl (by omega) hq)
    · rw [if_neg (of_decide_eq_false hb)] at h
      refine go_ops aMi187 1 _ (f1 := (58, ([(0, .ref a0), (1, .int i1), (2, .int i2), (3, .int i3)], [.ref a0]))) rfl ?_
      obtain ⟨r58_2, hxr58_2, h⟩ := Option.bind_eq_some_iff.mp h
      refine gg_cv (as := []) (r := []) aMi187 rfl rfl rfl aMi152 (Nat.le_of_ble_eq_true rfl) rfl (Nat.le_of_ble_eq_true rfl) (Nat.le_of_ble_eq_true rfl) (by omega) (isK_of (sh10_z ha0)) (Tf152 (by omega) a0 ha0 r50_1.2 _ hxr58_2) ?_
      show aGo kad d 187 (61, ([(0, .ref a0), (1, .int i1), (2, .int i2), (3, .int i3)], [.int r58_2.1])) (aMem Z r58_2.2, t) _
      refine gg_br (b := decide (r58_2.1 < 0)) (tg := 166) (off := 105) aMi187 rfl rfl rfl rfl (fun hb => ?_) (fun hb => ?_)
      · rw [if_pos (of_decide_eq_true hb)] at h
        refine go_le (lv1 := [(0, .ref a0), (2, .int i2), (3, .int i3)]) (aLe_of (show (List.map (fun q => q.1) ([(0, .ref a0), (2, .int i2), (3, .int i3)] : ALv)).Nodup from (by show ([0, 2, 3] : List Nat).Nodup; decide)) (aSubL_cons rfl (aSubL_cons rfl (aSubL_cons rfl aSubL_nil)))) ?_
        exact (Tf187_b166 hd a0 ha0 i2 i3 r58_2.2 _ h).mono (fun _ _ hq => qLx_tr tB.refl (by omega) hq)
      · rw [if_neg (of_decide_eq_false hb)] at h
        refine go_ops aMi187 1 _ (f1 := (65, ([(0, .ref a0), (1, .int i1), (2, .int i2), (3, .int i3)], [.ref a0]))) rfl ?_
        obtain ⟨r65_3, hxr65_3, h⟩ := Option.bind_eq_some_iff.mp h
        refine gg_cv (as := []) (r := []) aMi187 rfl rfl rfl aMi152 (Nat.le_of_ble_eq_true rfl) rfl (Nat.le_of_ble_eq_true rfl) (Nat.le_of_ble_eq_true rfl) (by omega) (isK_of (sh10_z ha0)) (Tf152 (by omega) a0 ha0 r58_2.2 _ hxr65_3) ?_
        show aGo kad d 187 (68, ([(0, .ref a0), (1, .int i1), (2, .int i2), (3, .int i3)], [.int r65_3.1])) (aMem Z r65_3.2, t) _
        refine go_ops aMi187 1 _ (f1 := (71, ([(0, .ref a0), (1, .int i1), (2, .int i2), (3, .int i3)], [.int (1000 : Int32), .int r65_3.1]))) rfl ?_
        refine gg_br (b := decide ((1000 : Int32) < r65_3.1)) (tg := 166) (off := 95) aMi187 rfl rfl rfl rfl (fun hb => ?_) (fun hb => ?_)
        · rw [if_pos (of_decide_eq_true hb)] at h
          refine go_le (lv1 := [(0, .ref a0), (2, .int i2), (3, .int i3)]) (aLe_of (show (List.map (fun q => q.1) ([(0, .ref a0), (2, .int i2), (3, .int i3)] : ALv)).Nodup from (by show ([0, 2, 3] : List Nat).Nodup; decide)) (aSubL_cons rfl (aSubL_cons rfl (aSubL_cons rfl aSubL_nil)))) ?_
          exact (Tf187_b166 hd a0 ha0 i2 i3 r65_3.2 _ h).mono (fun _ _ hq => qLx_tr tB.refl (by omega) hq)
        · rw [if_neg (of_decide_eq_false hb)] at h
          refine go_ops aMi187 1 _ (f1 := (75, ([(0, .ref a0), (1, .int i1), (2, .int i2), (3, .int i3)], [.ref a0]))) rfl ?_
          obtain ⟨r75_4, hxr75_4, h⟩ := Option.bind_eq_some_iff.mp h
          refine gg_cv (as := []) (r := []) aMi187 rfl rfl rfl aMi153 (Nat.le_of_ble_eq_true rfl) rfl (Nat.le_of_ble_eq_true rfl) (Nat.le_of_ble_eq_true rfl) (by omega) (isK_of (sh10_z ha0)) (Tf153 (by omega) a0 ha0 r65_3.2 _ hxr75_4) ?_
          show aGo kad d 187 (78, ([(0, .ref a0), (1, .int i1), (2, .int i2), (3, .int i3)], [.int r75_4.1])) (aMem Z r75_4.2, t) _
          refine gg_br (b := decide (r75_4.1 < 0)) (tg := 166) (off := 88) aMi187 rfl rfl rfl rfl (fun hb => ?_) (fun hb => ?_)
          · rw [if_pos (of_decide_eq_true hb)] at h
            refine go_le (lv1 := [(0, .ref a0), (2, .int i2), (3, .int i3)]) (aLe_of (show (List.map (fun q => q.1) ([(0, .ref a0), (2, .int i2), (3, .int i3)] : ALv)).Nodup from (by show ([0, 2, 3] : List Nat).Nodup; decide)) (aSubL_cons rfl (aSubL_cons rfl (aSubL_cons rfl aSubL_nil)))) ?_
            exact (Tf187_b166 hd a0 ha0 i2 i3 r75_4.2 _ h).mono (fun _ _ hq => qLx_tr tB.refl (by omega) hq)
          · rw [if_neg (of_decide_eq_false hb)] at h
            refine go_ops aMi187 1 _ (f1 := (82, ([(0, .ref a0), (1, .int i1), (2, .int i2), (3, .int i3)], [.ref a0]))) rfl ?_
            obtain ⟨r82_5, hxr82_5, h⟩ := Option.bind_eq_some_iff.mp h
            refine gg_cv (as := []) (r := []) aMi187 rfl rfl rfl aMi153 (Nat.le_of_ble_eq_true rfl) rfl (Nat.le_of_ble_eq_true rfl) (Nat.le_of_ble_eq_true rfl) (by omega) (isK_of (sh10_z ha0)) (Tf153 (by omega) a0 ha0 r75_4.2 _ hxr82_5) ?_
            show aGo kad d 187 (85, ([(0, .ref a0), (1, .int i1), (2, .int i2), (3, .int i3)], [.int r82_5.1])) (aMem Z r82_5.2, t) _
            refine go_ops aMi187 1 _ (f1 := (88, ([(0, .ref a0), (1, .int i1), (2, .int i2), (3, .int i3)], [.int (200 : Int32), .int r82_5.1]))) rfl ?_
            refine gg_br (b := decide ((200 : Int32) < r82_5.1)) (tg := 166) (off := 78) aMi187 rfl rfl rfl rfl (fun hb => ?_) (fun hb => ?_)
            · rw [if_pos (of_decide_eq_true hb)] at h
              refine go_le (lv1 := [(0, .ref a0), (2, .int i2), (3, .int i3)]) (aLe_of (show (List.map (fun q => q.1) ([(0, .ref a0), (2, .int i2), (3, .int i3)] : ALv)).Nodup from (by show ([0, 2, 3] : List Nat).Nodup; decide)) (aSubL_cons rfl (aSubL_cons rfl (aSubL_cons rfl aSubL_nil)))) ?_
              exact (Tf187_b166 hd a0 ha0 i2 i3 r82_5.2 _ h).mono (fun _ _ hq => qLx_tr tB.refl (by omega) hq)
            · rw [if_neg (of_decide_eq_false hb)] at h
              refine go_ops aMi187 1 _ (f1 := (92, ([(0, .ref a0), (1, .int i1), (2, .int i2), (3, .int i3)], [.ref a0]))) rfl ?_
              obtain ⟨r92_6, hxr92_6, h⟩ := Option.bind_eq_some_iff.mp h
              refine gg_cv (as := []) (r := []) aMi187 rfl rfl rfl aMi153 (Nat.le_of_ble_eq_true rfl) rfl (Nat.le_of_ble_eq_true rfl) (Nat.le_of_ble_eq_true rfl) (by omega) (isK_of (sh10_z ha0)) (Tf153 (by omega) a0 ha0 r82_5.2 _ hxr92_6) ?_
              show aGo kad d 187 (95, ([(0, .ref a0), (1, .int i1), (2, .int i2), (3, .int i3)], [.int r92_6.1])) (aMem Z r92_6.2, t) _
              refine go_ops aMi187 1 _ (f1 := (96, ([(0, .ref a0), (1, .int i1), (2, .int i2), (3, .int i3)], [.ref a0, .int r92_6.1]))) rfl ?_
              obtain ⟨r96_7, hxr96_7, h⟩ := Option.bind_eq_some_iff.mp h
              refine gg_cv (as := []) (r := [.int r92_6.1]) aMi187 rfl rfl rfl aMi152 (Nat.le_of_ble_eq_true rfl) rfl (Nat.le_of_ble_eq_true rfl) (Nat.le_of_ble_eq_true rfl) (by omega) (isK_of (sh10_z ha0)) (Tf152 (by omega) a0 ha0 r92_6.2 _ hxr96_7) ?_
              show aGo kad d 187 (99, ([(0, .ref a0), (1, .int i1), (2, .int i2), (3, .int i3)], [.int r96_7.1, .int r92_6.1])) (aMem Z r96_7.2, t) _
              refine gg_br (b := decide (r96_7.1 < r92_6.1)) (tg := 166) (off := 67) aMi187 rfl rfl rfl rfl (fun hb => ?_) (fun hb => ?_)
              · rw [if_pos (of_decide_eq_true hb)] at h
                refine go_le (lv1 := [(0, .ref a0), (2, .int i2), (3, .int i3)]) (aLe_of (show (List.map (fun q => q.1) ([(0, .ref a0), (2, .int i2), (3, .int i3)] : ALv)).Nodup from (by show ([0, 2, 3] : List Nat).Nodup; decide)) (aSubL_cons rfl (aSubL_cons rfl (aSubL_cons rfl aSubL_nil)))) ?_
                exact (Tf187_b166 hd a0 ha0 i2 i3 r96_7.2 _ h).mono (fun _ _ hq => qLx_tr tB.refl (by omega) hq)
              · rw [if_neg (of_decide_eq_false hb)] at h
                refine go_ops aMi187 1 _ (f1 := (103, ([(0, .ref a0), (1, .int i1), (2, .int i2), (3, .int i3)], [.int i3]))) rfl ?_
                refine gg_br (b := decide (¬ i3 = 0)) (tg := 162) (off := 59) aMi187 rfl rfl rfl rfl (fun hb => ?_) (fun hb => ?_)
                · rw [if_pos (of_decide_eq_true hb)] at h
                  refine go_le (lv1 := [(0, .ref a0), (2, .int i2), (3, .int i3)]) (aLe_of (show (List.map (fun q => q.1) ([(0, .ref a0), (2, .int i2), (3, .int i3)] : ALv)).Nodup from (by show ([0, 2, 3] : List Nat).Nodup; decide)) (aSubL_cons rfl (aSubL_cons rfl (aSubL_cons rfl aSubL_nil)))) ?_
                  exact (Tf187_b162 hd a0 ha0 i2 i3 r96_7.2 _ h).mono (fun _ _ hq => qLx_tr tB.refl (by omega) hq)
                · rw [if_neg (of_decide_eq_false hb)] at h
                  refine go_ops aMi187 1 _ (f1 := (107, ([(0, .ref a0), (1, .int i1), (2, .int i2), (3, .int i3)], [.ref a0]))) rfl ?_
                  obtain ⟨r107_8, hxr107_8, h⟩ := Option.bind_eq_some_iff.mp h
                  refine gg_cv (as := []) (r := []) aMi187 rfl rfl rfl aMi152 (Nat.le_of_ble_eq_true rfl) rfl (Nat.le_of_ble_eq_true rfl) (Nat.le_of_ble_eq_true rfl) (by omega) (isK_of (sh10_z ha0)) (Tf152 (by omega) a0 ha0 r96_7.2 _ hxr107_8) ?_
                  show aGo kad d 187 (110, ([(0, .ref a0), (1, .int i1), (2, .int i2), (3, .int i3)], [.int r107_8.1])) (aMem Z r107_8.2, t) _
                  refine gg_br (b := decide (¬ r107_8.1 = 0)) (tg := 166) (off := 56) aMi187 rfl rfl rfl rfl (fun hb => ?_) (fun hb => ?_)
                  · rw [if_pos (of_decide_eq_true hb)] at h
                    refine go_le (lv1 := [(0, .ref a0), (2, .int i2), (3, .int i3)]) (aLe_of (show (List.map (fun q => q.1) ([(0, .ref a0), (2, .int i2), (3, .int i3)] : ALv)).Nodup from (by show ([0, 2, 3] : List Nat).Nodup; decide)) (aSubL_cons rfl (aSubL_cons rfl (aSubL_cons rfl aSubL_nil)))) ?_
                    exact (Tf187_b166 hd a0 ha0 i2 i3 r107_8.2 _ h).mono (fun _ _ hq => qLx_tr tB.refl (by omega) hq)
                  · rw [if_neg (of_decide_eq_false hb)] at h
                    refine go_ops aMi187 1 _ (f1 := (114, ([(0, .ref a0), (1, .int i1), (2, .int i2), (3, .int i3)], [.ref a0]))) rfl ?_
                    obtain ⟨r114_9, hxr114_9, h⟩ := Option.bind_eq_some_iff.mp h
                    refine gg_cv (as := []) (r := []) aMi187 rfl rfl rfl aMi155 (Nat.le_of_ble_eq_true rfl) rfl (Nat.le_of_ble_eq_true rfl) (Nat.le_of_ble_eq_true rfl) (by omega) (isK_of (sh10_z ha0)) (Tf155 (by omega) a0 ha0 r107_8.2 _ hxr114_9) ?_
                    show aGo kad d 187 (117, ([(0, .ref a0), (1, .int i1), (2, .int i2), (3, .int i3)], [.int r114_9.1])) (aMem Z r114_9.2, t) _
                    refine gg_br (b := decide (¬ r114_9.1 = 0)) (tg := 166) (off := 49) aMi187 rfl rfl rfl rfl (fun hb => ?_) (fun hb => ?_)
                    · rw [if_pos (of_decide_eq_true hb)] at h
                      refine go_le (lv1 := [(0, .ref a0), (2, .int i2), (3, .int i3)]) (aLe_of (show (List.map (fun q => q.1) ([(0, .ref a0), (2, .int i2), (3, .int i3)] : ALv)).Nodup from (by show ([0, 2, 3] : List Nat).Nodup; decide)) (aSubL_cons rfl (aSubL_cons rfl (aSubL_cons rfl aSubL_nil)))) ?_
                      exact (Tf187_b166 hd a0 ha0 i2 i3 r114_9.2 _ h).mono (fun _ _ hq => qLx_tr tB.refl (by omega) hq)
                    · rw [if_neg (of_decide_eq_false hb)] at h
                      refine go_ops aMi187 1 _ (f1 := (121, ([(0, .ref a0), (1, .int i1), (2, .int i2), (3, .int i3)], [.ref a0]))) rfl ?_
                      obtain ⟨r121_10, hxr121_10, h⟩ := Option.bind_eq_some_iff.mp h
                      refine gg_cv (as := []) (r := []) aMi187 rfl rfl rfl aMi154 (Nat.le_of_ble_eq_true rfl) rfl (Nat.le_of_ble_eq_true rfl) (Nat.le_of_ble_eq_true rfl) (by omega) (isK_of (sh10_z ha0)) (Tf154 (by omega) a0 ha0 r114_9.2 _ hxr121_10) ?_
                      show aGo kad d 187 (124, ([(0, .ref a0), (1, .int i1), (2, .int i2), (3, .int i3)], [.int r121_10.1])) (aMem Z r121_10.2, t) _
                      refine gg_br (b := decide (¬ r121_10.1 = 0)) (tg := 166) (off := 42) aMi187 rfl rfl rfl rfl (fun hb => ?_) (fun hb => ?_)
                      · rw [if_pos (of_decide_eq_true hb)] at h
                        refine go_le (lv1 := [(0, .ref a0), (2, .int i2), (3, .int i3)]) (aLe_of (show (List.map (fun q => q.1) ([(0, .ref a0), (2, .int i2), (3, .int i3)] : ALv)).Nodup from (by show ([0, 2, 3] : List Nat).Nodup; decide)) (aSubL_cons rfl (aSubL_cons rfl (aSubL_cons rfl aSubL_nil)))) ?_
                        exact (Tf187_b166 hd a0 ha0 i2 i3 r121_10.2 _ h).mono (fun _ _ hq => qLx_tr tB.refl (by omega) hq)
                      · rw [if_neg (of_decide_eq_false hb)] at h
                        refine go_ops aMi187 1 _ (f1 := (128, ([(0, .ref a0), (1, .int i1), (2, .int i2), (3, .int i3)], [.ref a0]))) rfl ?_
                        obtain ⟨r128_11, hxr128_11, h⟩ := Option.bind_eq_some_iff.mp h
                        refine gg_cv (as := []) (r := []) aMi187 rfl rfl rfl aMi156 (Nat.le_of_ble_eq_true rfl) rfl (Nat.le_of_ble_eq_true rfl) (Nat.le_of_ble_eq_true rfl) (by omega) (isK_of (sh10_z ha0)) (Tf156 (by omega) a0 ha0 r121_10.2 _ hxr128_11) ?_
                        show aGo kad d 187 (131, ([(0, .ref a0), (1, .int i1), (2, .int i2), (3, .int i3)], [.int r128_11.1])) (aMem Z r128_11.2, t) _
                        refine gg_br (b := decide (¬ r128_11.1 = 0)) (tg := 166) (off := 35) aMi187 rfl rfl rfl rfl (fun hb => ?_) (fun hb => ?_)
                        · rw [if_pos (of_decide_eq_true hb)] at h
                          refine go_le (lv1 := [(0, .ref a0), (2, .int i2), (3, .int i3)]) (aLe_of (show (List.map (fun q => q.1) ([(0, .ref a0), (2, .int i2), (3, .int i3)] : ALv)).Nodup from (by show ([0, 2, 3] : List Nat).Nodup; decide)) (aSubL_cons rfl (aSubL_cons rfl (aSubL_cons rfl aSubL_nil)))) ?_
                          exact (Tf187_b166 hd a0 ha0 i2 i3 r128_11.2 _ h).mono (fun _ _ hq => qLx_tr tB.refl (by omega) hq)
                        · rw [if_neg (of_decide_eq_false hb)] at h
                          refine go_ops aMi187 1 _ (f1 := (135, ([(0, .ref a0), (1, .int i1), (2, .int i2), (3, .int i3)], [.ref a0]))) rfl ?_
                          obtain ⟨r135_12, hxr135_12, h⟩ := Option.bind_eq_some_iff.mp h
                          refine gg_cv (as := []) (r := []) aMi187 rfl rfl rfl aMi161 (Nat.le_of_ble_eq_true rfl) rfl (Nat.le_of_ble_eq_true rfl) (Nat.le_of_ble_eq_true rfl) (by omega) (isK_of (sh10_z ha0)) (Tf161 (by omega) a0 ha0 r128_11.2 _ hxr135_12) ?_
                          show aGo kad d 187 (138, ([(0, .ref a0), (1, .int i1), (2, .int i2), (3, .int i3)], [.int r135_12.1])) (aMem Z r135_12.2, t) _
                          refine gg_br (b := decide (¬ r135_12.1 = 0)) (tg := 166) (off := 28) aMi187 rfl rfl rfl rfl (fun hb => ?_) (fun hb => ?_)
                          · rw [if_pos (of_decide_eq_true hb)] at h
                            refine go_le (lv1 := [(0, .ref a0), (2, .int i2), (3, .int i3)]) (aLe_of (show (List.map (fun q => q.1) ([(0, .ref a0), (2, .int i2), (3, .int i3)] : ALv)).Nodup from (by show ([0, 2, 3] : List Nat).Nodup; decide)) (aSubL_cons rfl (aSubL_cons rfl (aSubL_cons rfl aSubL_nil)))) ?_
                            exact (Tf187_b166 hd a0 ha0 i2 i3 r135_12.2 _ h).mono (fun _ _ hq => qLx_tr tB.refl (by omega) hq)
                          · rw [if_neg (of_decide_eq_false hb)] at h
                            refine go_ops aMi187 1 _ (f1 := (142, ([(0, .ref a0), (1, .int i1), (2, .int i2), (3, .int i3)], [.ref a0]))) rfl ?_
                            obtain ⟨r142_13, hxr142_13, h⟩ := Option.bind_eq_some_iff.mp h
                            refine gg_cv (as := []) (r := []) aMi187 rfl rfl rfl aMi157 (Nat.le_of_ble_eq_true rfl) rfl (Nat.le_of_ble_eq_true rfl) (Nat.le_of_ble_eq_true rfl) (by omega) (isK_of (sh10_z ha0)) (Tf157 (by omega) a0 ha0 r135_12.2 _ hxr142_13) ?_
                            show aGo kad d 187 (145, ([(0, .ref a0), (1, .int i1), (2, .int i2), (3, .int i3)], [.int r142_13.1])) (aMem Z r142_13.2, t) _
                            refine gg_br (b := decide (¬ r142_13.1 = 0)) (tg := 166) (off := 21) aMi187 rfl rfl rfl rfl (fun hb => ?_) (fun hb => ?_)
                            · rw [if_pos (of_decide_eq_true hb)] at h
                              refine go_le (lv1 := [(0, .ref a0), (2, .int i2), (3, .int i3)]) (aLe_of (show (List.map (fun q => q.1) ([(0, .ref a0), (2, .int i2), (3, .int i3)] : ALv)).Nodup from (by show ([0, 2, 3] : List Nat).Nodup; decide)) (aSubL_cons rfl (aSubL_cons rfl (aSubL_cons rfl aSubL_nil)))) ?_
                              exact (Tf187_b166 hd a0 ha0 i2 i3 r142_13.2 _ h).mono (fun _ _ hq => qLx_tr tB.refl (by omega) hq)
                            · rw [if_neg (of_decide_eq_false hb)] at h
                              refine go_ops aMi187 3 _ (f1 := (153, ([(0, .ref a0), (1, .int i1), (2, .int i2), (3, .int i3)], [.int (256 : Int32), .int i1, .ref a0]))) rfl ?_
                              obtain ⟨r153_14, hxr153_14, h⟩ := Option.bind_eq_some_iff.mp h
                              refine gg_cs (as := [.int i1, .int (256 : Int32)]) (r := [.ref a0]) aMi187 rfl rfl rfl aMi184 rfl (Nat.le_of_ble_eq_true rfl) (Nat.le_of_ble_eq_true rfl) (by omega) (Tf184 (by omega) i1 (256 : Int32) r142_13.2 _ hxr153_14) ?_
                              show aGo kad d 187 (156, ([(0, .ref a0), (1, .int i1), (2, .int i2), (3, .int i3)], [.int r153_14.1, .ref a0])) (aMem Z r153_14.2, t) _
                              obtain ⟨r156_15, hxr156_15, h⟩ := Option.bind_eq_some_iff.mp h
                              rcases xB_eq h with ⟨vr156_15, Ir156_15, her156_15, h2⟩ | ⟨Er156_15, Ir156_15, her156_15, h2⟩
                              rotate_left
                              · clear h
                                subst her156_15
                                subst h2
                                exact gg_cvt (as := [.int r153_14.1]) (r := []) aMi187 rfl rfl rfl aMi159 (Nat.le_of_ble_eq_true rfl) rfl (Nat.le_of_ble_eq_true rfl) (Nat.le_of_ble_eq_true rfl) (by omega) (isK_of (sh10_z ha0)) (Tf159 (by omega) a0 ha0 r153_14.1 r153_14.2 _ hxr156_15) (qLx_thr tB.refl)
                              clear h
                              subst her156_15
                              have h := h2
                              clear h2
                              refine gg_cv (as := [.int r153_14.1]) (r := []) aMi187 rfl rfl rfl aMi159 (Nat.le_of_ble_eq_true rfl) rfl (Nat.le_of_ble_eq_true rfl) (Nat.le_of_ble_eq_true rfl) (by omega) (isK_of (sh10_z ha0)) (Tf159 (by omega) a0 ha0 r153_14.1 r153_14.2 _ hxr156_15) ?_
                              show aGo kad d 187 (159, ([(0, .ref a0), (1, .int i1), (2, .int i2), (3, .int i3)], [.int vr156_15])) (aMem Z Ir156_15, t) _
                              refine gg_br (b := decide (¬ vr156_15 = 0)) (tg := 166) (off := 7) aMi187 rfl rfl rfl rfl (fun hb => ?_) (fun hb => ?_)
                              · rw [if_pos (of_decide_eq_true hb)] at h
                                refine go_le (lv1 := [(0, .ref a0), (2, .int i2), (3, .int i3)]) (aLe_of (show (List.map (fun q => q.1) ([(0, .ref a0), (2, .int i2), (3, .int i3)] : ALv)).Nodup from (by show ([0, 2, 3] : List Nat).Nodup; decide)) (aSubL_cons rfl (aSubL_cons rfl (aSubL_cons rfl aSubL_nil)))) ?_
                                exact (Tf187_b166 hd a0 ha0 i2 i3 Ir156_15 _ h).mono (fun _ _ hq => qLx_tr tB.refl (by omega) hq)
                              · rw [if_neg (of_decide_eq_false hb)] at h
                                refine go_le (lv1 := [(0, .ref a0), (2, .int i2), (3, .int i3)]) (aLe_of (show (List.map (fun q => q.1) ([(0, .ref a0), (2, .int i2), (3, .int i3)] : ALv)).Nodup from (by show ([0, 2, 3] : List Nat).Nodup; decide)) (aSubL_cons rfl (aSubL_cons rfl (aSubL_cons rfl aSubL_nil)))) ?_
                                exact (Tf187_b162 hd a0 ha0 i2 i3 Ir156_15 _ h).mono (fun _ _ hq => qLx_tr tB.refl (by omega) hq)
def f187_b34 (kad : Nat → Nat) (N : Nat) (Z : AZ) (a0 : Nat) (i1 : Int32) (i2 : Int32) (i3 : Int32) (s0 : Int32) (I : AI) : Option ((Int32 ⊕ String) × AI) :=
  (f151 kad N Z a0 I).bind fun r35_1 =>
  if r35_1.1 ≤ 0 then
    f187_b46 kad N Z a0 i1 i2 i3 (0 : Int32) s0 r35_1.2
  else
    f187_b46 kad N Z a0 i1 i2 i3 (1 : Int32) s0 r35_1.2
set_option maxRecDepth 20000 in
theorem Tf187_b34 {kad : Nat → Nat} {N : Nat} {Z : AZ} {d : Nat} {t : Option Nat × (Nat × Nat)} (hd : 22 ≤ d) : ∀ (a0 : Nat) (ha0 : sh10 kad Z a0) (i1 : Int32) (i2 : Int32) (i3 : Int32) (s0 : Int32) (I : AI) (r : (Int32 ⊕ String) × AI), f187_b34 kad N Z a0 i1 i2 i3 s0 I = some r → aGo kad d 187 (34, ([(0, .ref a0), (1, .int i1), (2, .int i2), (3, .int i3)], [.int s0])) (aMem Z I, t) (qLx (1 + 2 * N) tvI Z t r) := by
  intro a0 ha0 i1 i2 i3 s0 I r h
  unfold f187_b34 at h
  refine go_ops aMi187 1 _ (f1 := (35, ([(0, .ref a0), (1, .int i1), (2, .int i2), (3, .int i3)], [.ref a0, .int s0]))) rfl ?_
  obtain ⟨r35_1, hxr35_1, h⟩ := Option.bind_eq_some_iff.mp h
  refine gg_cv (as := []) (r := [.int s0]) aMi187 rfl rfl rfl aMi151 (Nat.le_of_ble_eq_true rfl) rfl (Nat.le_of_ble_eq_true rfl) (Nat.le_of_ble_eq_true rfl) (by omega) (isK_of (sh10_z ha0)) (Tf151 (by omega) a0 ha0 I _ hxr35_1) ?_
  show aGo kad d 187 (38, ([(0, .ref a0), (1, .int i1), (2, .int i2), (3, .int i3)], [.int r35_1.1, .int s0])) (aMem Z r35_1.2, t) _
  refine gg_br (b := decide (r35_1.1 ≤ 0)) (tg := 45) (off := 7) aMi187 rfl rfl rfl rfl (fun hb => ?_) (fun hb => ?_)
  · rw [if_pos (of_decide_eq_true hb)] at h
    refine go_ops aMi187 1 _ (f1 := (46, ([(0, .ref a0), (1, .int i1), (2, .int i2), (3, .int i3)], [.int (0 : Int32), .int s0]))) rfl ?_
    exact (Tf187_b46 hd a0 ha0 i1 i2 i3 (0 : Int32) s0 r35_1.2 _ h).mono (fun _ _ hq => qLx_tr tB.refl (by omega) hq)
  · rw [if_neg (of_decide_eq_false hb)] at h
    refine go_ops aMi187 2 _ (f1 := (46, ([(0, .ref a0), (1, .int i1), (2, .int i2), (3, .int i3)], [.int (1 : Int32), .int s0]))) rfl ?_
    exact (Tf187_b46 hd a0 ha0 i1 i2 i3 (1 : Int32) s0 r35_1.2 _ h).mono (fun _ _ hq => qLx_tr tB.refl (by omega) hq)
def f187_b14 (kad : Nat → Nat) (N : Nat) (Z : AZ) (a0 : Nat) (i1 : Int32) (i2 : Int32) (s0 : Int32) (I : AI) : Option ((Int32 ⊕ String) × AI) :=
  if i2 < 0 then
    f187_b166 kad N Z a0 i2 s0 I
  else
    if (4 : Int32) ≤ i2 then
      f187_b166 kad N Z a0 i2 s0 I
    else
      if ¬ i2 = (3 : Int32) then
        f187_b34 kad N Z a0 i1 i2 s0 (0 : Int32) I
      else
        f187_b34 kad N Z a0 i1 i2 s0 (1 : Int32) I
set_option maxRecDepth 20000 in
theorem Tf187_b14 {kad : Nat → Nat} {N : Nat} {Z : AZ} {d : Nat} {t : Option Nat × (Nat × Nat)} (hd : 22 ≤ d) : ∀ (a0 : Nat) (ha0 : sh10 kad Z a0) (i1 : Int32) (i2 : Int32) (s0 : Int32) (I : AI) (r : (Int32 ⊕ String) × AI), f187_b14 kad N Z a0 i1 i2 s0 I = some r → aGo kad d 187 (14, ([(0, .ref a0), (1, .int i1), (2, .int i2)], [.int s0])) (aMem Z I, t) (qLx (1 + 2 * N) tvI Z t r) := by
  intro a0 ha0 i1 i2 s0 I r h
  unfold f187_b14 at h
  refine go_ops aMi187 2 _ (f1 := (16, ([(3, .int s0), (0, .ref a0), (1, .int i1), (2, .int i2)], [.int i2]))) rfl ?_
  refine gg_br (b := decide (i2 < 0)) (tg := 166) (off := 150) aMi187 rfl rfl rfl rfl (fun hb => ?_) (fun hb => ?_)
  · rw [if_pos (of_decide_eq_true hb)] at h
    refine go_le (lv1 := [(0, .ref a0), (2, .int i2), (3, .int s0)]) (aLe_of (show (List.map (fun q => q.1) ([(0, .ref a0), (2, .int i2), (3, .int s0)] : ALv)).Nodup from (by show ([0, 2, 3] : List Nat).Nodup; decide)) (aSubL_cons rfl (aSubL_cons rfl (aSubL_cons rfl aSubL_nil)))) ?_
    exact (Tf187_b166 hd a0 ha0 i2 s0 I _ h).mono (fun _ _ hq => qLx_tr tB.refl (by omega) hq)
  · rw [if_neg (of_decide_eq_false hb)] at h
    refine go_ops aMi187 2 _ (f1 := (21, ([(3, .int s0), (0, .ref a0), (1, .int i1), (2, .int i2)], [.int (4 : Int32), .int i2]))) rfl ?_
    refine gg_br (b := decide ((4 : Int32) ≤ i2)) (tg := 166) (off := 145) aMi187 rfl rfl rfl rfl (fun hb => ?_) (fun hb => ?_)
    · rw [if_pos (of_decide_eq_true hb)] at h
      refine go_le (lv1 := [(0, .ref a0), (2, .int i2), (3, .int s0)]) (aLe_of (show (List.map (fun q => q.1) ([(0, .ref a0), (2, .int i2), (3, .int s0)] : ALv)).Nodup from (by show ([0, 2, 3] : List Nat).Nodup; decide)) (aSubL_cons rfl (aSubL_cons rfl (aSubL_cons rfl aSubL_nil)))) ?_
      exact (Tf187_b166 hd a0 ha0 i2 s0 I _ h).mono (fun _ _ hq => qLx_tr tB.refl (by omega) hq)
    · rw [if_neg (of_decide_eq_false hb)] at h
      refine go_ops aMi187 2 _ (f1 := (26, ([(3, .int s0), (0, .ref a0), (1, .int i1), (2, .int i2)], [.int (3 : Int32), .int i2]))) rfl ?_
      refine gg_br (b := decide (¬ i2 = (3 : Int32))) (tg := 33) (off := 7) aMi187 rfl rfl rfl rfl (fun hb => ?_) (fun hb => ?_)
      · rw [if_pos (of_decide_eq_true hb)] at h
        refine go_ops aMi187 1 _ (f1 := (34, ([(3, .int s0), (0, .ref a0), (1, .int i1), (2, .int i2)], [.int (0 : Int32)]))) rfl ?_
        refine go_le (lv1 := [(0, .ref a0), (1, .int i1), (2, .int i2), (3, .int s0)]) (aLe_of (show (List.map (fun q => q.1) ([(0, .ref a0), (1, .int i1), (2, .int i2), (3, .int s0)] : ALv)).Nodup from (by show ([0, 1, 2, 3] : List Nat).Nodup; decide)) (aSubL_cons rfl (aSubL_cons rfl (aSubL_cons rfl (aSubL_cons rfl aSubL_nil))))) ?_
        exact (Tf187_b34 hd a0 ha0 i1 i2 s0 (0 : Int32) I _ h).mono (fun _ _ hq => qLx_tr tB.refl (by omega) hq)
      · rw [if_neg (of_decide_eq_false hb)] at h
        refine go_ops aMi187 2 _ (f1 := (34, ([(3, .int s0), (0, .ref a0), (1, .int i1), (2, .int i2)], [.int (1 : Int32)]))) rfl ?_
        refine go_le (lv1 := [(0, .ref a0), (1, .int i1), (2, .int i2), (3, .int s0)]) (aLe_of (show (List.map (fun q => q.1) ([(0, .ref a0), (1, .int i1), (2, .int i2), (3, .int s0)] : ALv)).Nodup from (by show ([0, 1, 2, 3] : List Nat).Nodup; decide)) (aSubL_cons rfl (aSubL_cons rfl (aSubL_cons rfl (aSubL_cons rfl aSubL_nil))))) ?_
        exact (Tf187_b34 hd a0 ha0 i1 i2 s0 (1 : Int32) I _ h).mono (fun _ _ hq => qLx_tr tB.refl (by omega) hq)
def f187 (kad : Nat → Nat) (N : Nat) (Z : AZ) (a0 : Nat) (i1 : Int32) (I : AI) : Option ((Int32 ⊕ String) × AI) :=
  (f150 kad N Z a0 I).bind fun r1_1 =>
  if r1_1.1 ≤ 0 then
    f187_b14 kad N Z a0 i1 r1_1.1 (0 : Int32) r1_1.2
  else
    f187_b14 kad N Z a0 i1 r1_1.1 (1 : Int32) r1_1.2
set_option maxRecDepth 20000 in
theorem Tf187 {kad : Nat → Nat} {N : Nat} {Z : AZ} {d : Nat} {t : Option Nat × (Nat × Nat)} (hd : 22 ≤ d) : ∀ (a0 : Nat) (ha0 : sh10 kad Z a0) (i1 : Int32) (I : AI) (r : (Int32 ⊕ String) × AI), f187 kad N Z a0 i1 I = some r → aGo kad d 187 (0, ([(0, .ref a0), (1, .int i1)], [])) (aMem Z I, t) (qLx (1 + 2 * N) tvI Z t r) := by
  intro a0 ha0 i1 I r h
  unfold f187 at h
  refine go_ops aMi187 1 _ (f1 := (1, ([(0, .ref a0), (1, .int i1)], [.ref a0]))) rfl ?_
  obtain ⟨r1_1, hxr1_1, h⟩ := Option.bind_eq_some_iff.mp h
  refine gg_cv (as := []) (r := []) aMi187 rfl rfl rfl aMi150 (Nat.le_of_ble_eq_true rfl) rfl (Nat.le_of_ble_eq_true rfl) (Nat.le_of_ble_eq_true rfl) (by omega) (isK_of (sh10_z ha0)) (Tf150 (by omega) a0 ha0 I _ hxr1_1) ?_
  show aGo kad d 187 (4, ([(0, .ref a0), (1, .int i1)], [.int r1_1.1])) (aMem Z r1_1.2, t) _
  refine go_ops aMi187 2 _ (f1 := (6, ([(2, .int r1_1.1), (0, .ref a0), (1, .int i1)], [.int r1_1.1]))) rfl ?_
  refine gg_br (b := decide (r1_1.1 ≤ 0)) (tg := 13) (off := 7) aMi187 rfl rfl rfl rfl (fun hb => ?_) (fun hb => ?_)
  · rw [if_pos (of_decide_eq_true hb)] at h
    refine go_ops aMi187 1 _ (f1 := (14, ([(2, .int r1_1.1), (0, .ref a0), (1, .int i1)], [.int (0 : Int32)]))) rfl ?_
    refine go_le (lv1 := [(0, .ref a0), (1, .int i1), (2, .int r1_1.1)]) (aLe_of (show (List.map (fun q => q.1) ([(0, .ref a0), (1, .int i1), (2, .int r1_1.1)] : ALv)).Nodup from (by show ([0, 1, 2] : List Nat).Nodup; decide)) (aSubL_cons rfl (aSubL_cons rfl (aSubL_cons rfl aSubL_nil)))) ?_
    exact (Tf187_b14 hd a0 ha0 i1 r1_1.1 (0 : Int32) r1_1.2 _ h).mono (fun _ _ hq => qLx_tr tB.refl (by omega) hq)
  · rw [if_neg (of_decide_eq_false hb)] at h
    refine go_ops aMi187 2 _ (f1 := (14, ([(2, .int r1_1.1), (0, .ref a0), (1, .int i1)], [.int (1 : Int32)]))) rfl ?_
    refine go_le (lv1 := [(0, .ref a0), (1, .int i1), (2, .int r1_1.1)]) (aLe_of (show (List.map (fun q => q.1) ([(0, .ref a0), (1, .int i1), (2, .int r1_1.1)] : ALv)).Nodup from (by show ([0, 1, 2] : List Nat).Nodup; decide)) (aSubL_cons rfl (aSubL_cons rfl (aSubL_cons rfl aSubL_nil)))) ?_
    exact (Tf187_b14 hd a0 ha0 i1 r1_1.1 (1 : Int32) r1_1.2 _ h).mono (fun _ _ hq => qLx_tr tB.refl (by omega) hq)
-- KernelGymLaw.isBackSo (LKernelGym;LKernelGym;I)Z
def f188_b61 (kad : Nat → Nat) (N : Nat) (Z : AZ) (a0 : Nat) (a1 : Nat) (s0 : Int32) (I : AI) : Option (Int32 × AI) :=
  if s0 = 0 ∨ s0 = 1 then some (s0, I) else none
set_option maxRecDepth 20000 in
theorem Tf188_b61 {kad : Nat → Nat} {N : Nat} {Z : AZ} {d : Nat} {t : Option Nat × (Nat × Nat)} (hd : 22 ≤ d) : ∀ (a0 : Nat) (ha0 : sh10 kad Z a0) (a1 : Nat) (ha1 : sh10 kad Z a1) (s0 : Int32) (I : AI) (r : Int32 × AI), f188_b61 kad N Z a0 a1 s0 I = some r → aGo kad d 188 (61, ([], [.int s0])) (aMem Z I, t) (qLn (0) tvI Z t r) := by
  intro a0 ha0 a1 ha1 s0 I r h
  unfold f188_b61 at h
  split at h
  · rename_i hz
    cases h
    exact go_ret aMi188 rfl (aRetZ hz) (qLn_ret tB.refl)
  · cases h
def f188_b60 (kad : Nat → Nat) (N : Nat) (Z : AZ) (a0 : Nat) (a1 : Nat) (I : AI) : Option (Int32 × AI) :=
  f188_b61 kad N Z a0 a1 (0 : Int32) I
set_option maxRecDepth 20000 in
theorem Tf188_b60 {kad : Nat → Nat} {N : Nat} {Z : AZ} {d : Nat} {t : Option Nat × (Nat × Nat)} (hd : 22 ≤ d) : ∀ (a0 : Nat) (ha0 : sh10 kad Z a0) (a1 : Nat) (ha1 : sh10 kad Z a1) (I : AI) (r : Int32 × AI), f188_b60 kad N Z a0 a1 I = some r → aGo kad d 188 (60, ([], [])) (aMem Z I, t) (qLn (0) tvI Z t r) := by
  intro a0 ha0 a1 ha1 I r h
  unfold f188_b60 at h
  refine go_ops aMi188 1 _ (f1 := (61, ([], [.int (0 : Int32)]))) rfl ?_
  exact (Tf188_b61 hd a0 ha0 a1 ha1 (0 : Int32) I _ h).mono (fun _ _ hq => qLn_tr tB.refl (by omega) hq)
def f188_b283 (kad : Nat → Nat) (N : Nat) (Z : AZ) (a0 : Nat) (a1 : Nat) (s0 : Int32) (I : AI) : Option (Int32 × AI) :=
  if s0 = 0 ∨ s0 = 1 then some (s0, I) else none
set_option maxRecDepth 20000 in
theorem Tf188_b283 {kad : Nat → Nat} {N : Nat} {Z : AZ} {d : Nat} {t : Option Nat × (Nat × Nat)} (hd : 22 ≤ d) : ∀ (a0 : Nat) (ha0 : sh10 kad Z a0) (a1 : Nat) (ha1 : sh10 kad Z a1) (s0 : Int32) (I : AI) (r : Int32 × AI), f188_b283 kad N Z a0 a1 s0 I = some r → aGo kad d 188 (283, ([], [.int s0])) (aMem Z I, t) (qLn (0) tvI Z t r) := by
  intro a0 ha0 a1 ha1 s0 I r h
  unfold f188_b283 at h
  split at h
  · rename_i hz
    cases h
    exact go_ret aMi188 rfl (aRetZ hz) (qLn_ret tB.refl)
  · cases h
def f188_b282 (kad : Nat → Nat) (N : Nat) (Z : AZ) (a0 : Nat) (a1 : Nat) (I : AI) : Option (Int32 × AI) :=
  f188_b283 kad N Z a0 a1 (0 : Int32) I
set_option maxRecDepth 20000 in
theorem Tf188_b282 {kad : Nat → Nat} {N : Nat} {Z : AZ} {d : Nat} {t : Option Nat × (Nat × Nat)} (hd : 22 ≤ d) : ∀ (a0 : Nat) (ha0 : sh10 kad Z a0) (a1 : Nat) (ha1 : sh10 kad Z a1) (I : AI) (r : Int32 × AI), f188_b282 kad N Z a0 a1 I = some r → aGo kad d 188 (282, ([], [])) (aMem Z I, t) (qLn (0) tvI Z t r) := by
  intro a0 ha0 a1 ha1 I r h
  unfold f188_b282 at h
  refine go_ops aMi188 1 _ (f1 := (283, ([], [.int (0 : Int32)]))) rfl ?_
  exact (Tf188_b283 hd a0 ha0 a1 ha1 (0 : Int32) I _ h).mono (fun _ _ hq => qLn_tr tB.refl (by omega) hq)
def f188_b269 (kad : Nat → Nat) (N : Nat) (Z : AZ) (a0 : Nat) (a1 : Nat) (i7 : Int32) (I : AI) : Option (Int32 × AI) :=
  (f163 kad N Z a1 I).bind fun r270_1 =>
  if ¬ r270_1.1 = i7 then
    f188_b282 kad N Z a0 a1 r270_1.2
  else
    f188_b283 kad N Z a0 a1 (1 : Int32) r270_1.2
set_option maxRecDepth 20000 in
theorem Tf188_b269 {kad : Nat → Nat} {N : Nat} {Z : AZ} {d : Nat} {t : Option Nat × (Nat × Nat)} (hd : 22 ≤ d) : ∀ (a0 : Nat) (ha0 : sh10 kad Z a0) (a1 : Nat) (ha1 : sh10 kad Z a1) (i7 : Int32) (I : AI) (r : Int32 × AI), f188_b269 kad N Z a0 a1 i7 I = some r → aGo kad d 188 (269, ([(1, .ref a1), (7, .int i7)], [])) (aMem Z I, t) (qLn (0) tvI Z t r) := by
  intro a0 ha0 a1 ha1 i7 I r h
  unfold f188_b269 at h
  refine go_ops aMi188 1 _ (f1 := (270, ([(1, .ref a1), (7, .int i7)], [.ref a1]))) rfl ?_
  obtain ⟨r270_1, hxr270_1, h⟩ := Option.bind_eq_some_iff.mp h
  refine gg_cv (as := []) (r := []) aMi188 rfl rfl rfl aMi163 (Nat.le_of_ble_eq_true rfl) rfl (Nat.le_of_ble_eq_true rfl) (Nat.le_of_ble_eq_true rfl) (by omega) (isK_of (sh10_z ha1)) (Tf163 (by omega) a1 ha1 I _ hxr270_1) ?_
  show aGo kad d 188 (273, ([(1, .ref a1), (7, .int i7)], [.int r270_1.1])) (aMem Z r270_1.2, t) _
  refine go_ops aMi188 1 _ (f1 := (275, ([(1, .ref a1), (7, .int i7)], [.int i7, .int r270_1.1]))) rfl ?_
  refine gg_br (b := decide (¬ r270_1.1 = i7)) (tg := 282) (off := 7) aMi188 rfl rfl rfl rfl (fun hb => ?_) (fun hb => ?_)
  · rw [if_pos (of_decide_eq_true hb)] at h
    refine go_le (lv1 := []) (aLe_of (show (List.map (fun q => q.1) ([] : ALv)).Nodup from (by show ([] : List Nat).Nodup; decide)) aSubL_nil) ?_
    exact (Tf188_b282 hd a0 ha0 a1 ha1 r270_1.2 _ h).mono (fun _ _ hq => qLn_tr tB.refl (by omega) hq)
  · rw [if_neg (of_decide_eq_false hb)] at h
    refine go_ops aMi188 2 _ (f1 := (283, ([(1, .ref a1), (7, .int i7)], [.int (1 : Int32)]))) rfl ?_
    refine go_le (lv1 := []) (aLe_of (show (List.map (fun q => q.1) ([] : ALv)).Nodup from (by show ([] : List Nat).Nodup; decide)) aSubL_nil) ?_
    exact (Tf188_b283 hd a0 ha0 a1 ha1 (1 : Int32) r270_1.2 _ h).mono (fun _ _ hq => qLn_tr tB.refl (by omega) hq)
def f188_b213 (kad : Nat → Nat) (N : Nat) (Z : AZ) (a0 : Nat) (a1 : Nat) (i2 : Int32) (i6 : Int32) (i7 : Int32) (s0 : Int32) (I : AI) : Option (Int32 × AI) :=
  if s0 = 0 then
    f188_b282 kad N Z a0 a1 I
  else
    (fH1 kad N Z a1 (4 : Int32) i2 (0 : Int32) (0 : Int32) (0 : Int32) I).bind fun r226_1 =>
    if ¬ r226_1.1 = i6 then
      f188_b282 kad N Z a0 a1 r226_1.2
    else
      if i6 = 0 then
        f188_b269 kad N Z a0 a1 i7 r226_1.2
      else
        (fH1 kad N Z a1 (6 : Int32) i6 (0 : Int32) (0 : Int32) (0 : Int32) r226_1.2).bind fun r247_2 =>
        if ¬ r247_2.1 = i6 then
          f188_b282 kad N Z a0 a1 r247_2.2
        else
          (fH1 kad N Z a1 (4 : Int32) i2 (0 : Int32) (0 : Int32) (0 : Int32) r247_2.2).bind fun r261_3 =>
          if ¬ r261_3.1 = i6 then
            f188_b282 kad N Z a0 a1 r261_3.2
          else
            f188_b269 kad N Z a0 a1 i7 r261_3.2
set_option maxRecDepth 20000 in
theorem Tf188_b213 {kad : Nat → Nat} {N : Nat} {Z : AZ} {d : Nat} {t : Option Nat × (Nat × Nat)} (hd : 22 ≤ d) : ∀ (a0 : Nat) (ha0 : sh10 kad Z a0) (a1 : Nat) (ha1 : sh10 kad Z a1) (i2 : Int32) (i6 : Int32) (i7 : Int32) (s0 : Int32) (I : AI) (r : Int32 × AI), f188_b213 kad N Z a0 a1 i2 i6 i7 s0 I = some r → aGo kad d 188 (213, ([(1, .ref a1), (2, .int i2), (6, .int i6), (7, .int i7)], [.int s0])) (aMem Z I, t) (qLn (3) tvI Z t r) := by
  intro a0 ha0 a1 ha1 i2 i6 i7 s0 I r h
  unfold f188_b213 at h
  refine go_ops aMi188 2 _ (f1 := (217, ([(8, .int s0), (1, .ref a1), (2, .int i2), (6, .int i6), (7, .int i7)], [.int s0]))) rfl ?_
  refine gg_br (b := decide (s0 = 0)) (tg := 282) (off := 65) aMi188 rfl rfl rfl rfl (fun hb => ?_) (fun hb => ?_)
  · rw [if_pos (of_decide_eq_true hb)] at h
    refine go_le (lv1 := []) (aLe_of (show (List.map (fun q => q.1) ([] : ALv)).Nodup from (by show ([] : List Nat).Nodup; decide)) aSubL_nil) ?_
    exact (Tf188_b282 hd a0 ha0 a1 ha1 I _ h).mono (fun _ _ hq => qLn_tr tB.refl (by omega) hq)
  · rw [if_neg (of_decide_eq_false hb)] at h
    refine go_ops aMi188 6 _ (f1 := (226, ([(8, .int s0), (1, .ref a1), (2, .int i2), (6, .int i6), (7, .int i7)], [.int (0 : Int32), .int (0 : Int32), .int (0 : Int32), .int i2, .int (4 : Int32), .ref a1]))) rfl ?_
    obtain ⟨r226_1, hxr226_1, h⟩ := Option.bind_eq_some_iff.mp h
    refine gg_hl (as := [.ref a1, .int (4 : Int32), .int i2, .int (0 : Int32), .int (0 : Int32), .int (0 : Int32)]) (r := []) aMi188 rfl rfl rfl rfl rfl (Nat.le_of_ble_eq_true rfl) (Nat.le_of_ble_eq_true rfl) (by omega) (TH1 (by omega) a1 ha1 (4 : Int32) i2 (0 : Int32) (0 : Int32) (0 : Int32) I _ hxr226_1) (fun t226_1 ht226_1 => ?_)
    show aGo kad d 188 (229, ([(8, .int s0), (1, .ref a1), (2, .int i2), (6, .int i6), (7, .int i7)], [.int r226_1.1])) (aMem Z r226_1.2, t226_1) _
    refine go_ops aMi188 1 _ (f1 := (231, ([(8, .int s0), (1, .ref a1), (2, .int i2), (6, .int i6), (7, .int i7)], [.int i6, .int r226_1.1]))) rfl ?_
    refine gg_br (b := decide (¬ r226_1.1 = i6)) (tg := 282) (off := 51) aMi188 rfl rfl rfl rfl (fun hb => ?_) (fun hb => ?_)
    · rw [if_pos (of_decide_eq_true hb)] at h
      refine go_le (lv1 := []) (aLe_of (show (List.map (fun q => q.1) ([] : ALv)).Nodup from (by show ([] : List Nat).Nodup; decide)) aSubL_nil) ?_
      exact (Tf188_b282 hd a0 ha0 a1 ha1 r226_1.2 _ h).mono (fun _ _ hq => qLn_tr (tB.refl.tr ht226_1) (by omega) hq)
    · rw [if_neg (of_decide_eq_false hb)] at h
      refine go_ops aMi188 1 _ (f1 := (236, ([(8, .int s0), (1, .ref a1), (2, .int i2), (6, .int i6), (7, .int i7)], [.int i6]))) rfl ?_
      refine gg_br (b := decide (i6 = 0)) (tg := 269) (off := 33) aMi188 rfl rfl rfl rfl (fun hb => ?_) (fun hb => ?_)
      · rw [if_pos (of_decide_eq_true hb)] at h
        refine go_le (lv1 := [(1, .ref a1), (7, .int i7)]) (aLe_of (show (List.map (fun q => q.1) ([(1, .ref a1), (7, .int i7)] : ALv)).Nodup from (by show ([1, 7] : List Nat).Nodup; decide)) (aSubL_cons rfl (aSubL_cons rfl aSubL_nil))) ?_
        exact (Tf188_b269 hd a0 ha0 a1 ha1 i7 r226_1.2 _ h).mono (fun _ _ hq => qLn_tr (tB.refl.tr ht226_1) (by omega) hq)
      · rw [if_neg (of_decide_eq_false hb)] at h
        refine go_ops aMi188 6 _ (f1 := (247, ([(8, .int s0), (1, .ref a1), (2, .int i2), (6, .int i6), (7, .int i7)], [.int (0 : Int32), .int (0 : Int32), .int (0 : Int32), .int i6, .int (6 : Int32), .ref a1]))) rfl ?_
        obtain ⟨r247_2, hxr247_2, h⟩ := Option.bind_eq_some_iff.mp h
        refine gg_hl (as := [.ref a1, .int (6 : Int32), .int i6, .int (0 : Int32), .int (0 : Int32), .int (0 : Int32)]) (r := []) aMi188 rfl rfl rfl rfl rfl (Nat.le_of_ble_eq_true rfl) (Nat.le_of_ble_eq_true rfl) (by omega) (TH1 (by omega) a1 ha1 (6 : Int32) i6 (0 : Int32) (0 : Int32) (0 : Int32) r226_1.2 _ hxr247_2) (fun t247_2 ht247_2 => ?_)
        show aGo kad d 188 (250, ([(8, .int s0), (1, .ref a1), (2, .int i2), (6, .int i6), (7, .int i7)], [.int r247_2.1])) (aMem Z r247_2.2, t247_2) _
        refine go_ops aMi188 1 _ (f1 := (252, ([(8, .int s0), (1, .ref a1), (2, .int i2), (6, .int i6), (7, .int i7)], [.int i6, .int r247_2.1]))) rfl ?_
        refine gg_br (b := decide (¬ r247_2.1 = i6)) (tg := 282) (off := 30) aMi188 rfl rfl rfl rfl (fun hb => ?_) (fun hb => ?_)
        · rw [if_pos (of_decide_eq_true hb)] at h
          refine go_le (lv1 := []) (aLe_of (show (List.map (fun q => q.1) ([] : ALv)).Nodup from (by show ([] : List Nat).Nodup; decide)) aSubL_nil) ?_
          exact (Tf188_b282 hd a0 ha0 a1 ha1 r247_2.2 _ h).mono (fun _ _ hq => qLn_tr ((tB.refl.tr ht226_1).tr ht247_2) (by omega) hq)
        · rw [if_neg (of_decide_eq_false hb)] at h
          refine go_ops aMi188 6 _ (f1 := (261, ([(8, .int s0), (1, .ref a1), (2, .int i2), (6, .int i6), (7, .int i7)], [.int (0 : Int32), .int (0 : Int32), .int (0 : Int32), .int i2, .int (4 : Int32), .ref a1]))) rfl ?_
          obtain ⟨r261_3, hxr261_3, h⟩ := Option.bind_eq_some_iff.mp h
          refine gg_hl (as := [.ref a1, .int (4 : Int32), .int i2, .int (0 : Int32), .int (0 : Int32), .int (0 : Int32)]) (r := []) aMi188 rfl rfl rfl rfl rfl (Nat.le_of_ble_eq_true rfl) (Nat.le_of_ble_eq_true rfl) (by omega) (TH1 (by omega) a1 ha1 (4 : Int32) i2 (0 : Int32) (0 : Int32) (0 : Int32) r247_2.2 _ hxr261_3) (fun t261_3 ht261_3 => ?_)
          show aGo kad d 188 (264, ([(8, .int s0), (1, .ref a1), (2, .int i2), (6, .int i6), (7, .int i7)], [.int r261_3.1])) (aMem Z r261_3.2, t261_3) _
          refine go_ops aMi188 1 _ (f1 := (266, ([(8, .int s0), (1, .ref a1), (2, .int i2), (6, .int i6), (7, .int i7)], [.int i6, .int r261_3.1]))) rfl ?_
          refine gg_br (b := decide (¬ r261_3.1 = i6)) (tg := 282) (off := 16) aMi188 rfl rfl rfl rfl (fun hb => ?_) (fun hb => ?_)
          · rw [if_pos (of_decide_eq_true hb)] at h
            refine go_le (lv1 := []) (aLe_of (show (List.map (fun q => q.1) ([] : ALv)).Nodup from (by show ([] : List Nat).Nodup; decide)) aSubL_nil) ?_
            exact (Tf188_b282 hd a0 ha0 a1 ha1 r261_3.2 _ h).mono (fun _ _ hq => qLn_tr (((tB.refl.tr ht226_1).tr ht247_2).tr ht261_3) (by omega) hq)
          · rw [if_neg (of_decide_eq_false hb)] at h
            refine go_le (lv1 := [(1, .ref a1), (7, .int i7)]) (aLe_of (show (List.map (fun q => q.1) ([(1, .ref a1), (7, .int i7)] : ALv)).Nodup from (by show ([1, 7] : List Nat).Nodup; decide)) (aSubL_cons rfl (aSubL_cons rfl aSubL_nil))) ?_
            exact (Tf188_b269 hd a0 ha0 a1 ha1 i7 r261_3.2 _ h).mono (fun _ _ hq => qLn_tr (((tB.refl.tr ht226_1).tr ht247_2).tr ht261_3) (by omega) hq)
def f188_b212 (kad : Nat → Nat) (N : Nat) (Z : AZ) (a0 : Nat) (a1 : Nat) (i2 : Int32) (i6 : Int32) (i7 : Int32) (I : AI) : Option (Int32 × AI) :=
  f188_b213 kad N Z a0 a1 i2 i6 i7 (0 : Int32) I
set_option maxRecDepth 20000 in
theorem Tf188_b212 {kad : Nat → Nat} {N : Nat} {Z : AZ} {d : Nat} {t : Option Nat × (Nat × Nat)} (hd : 22 ≤ d) : ∀ (a0 : Nat) (ha0 : sh10 kad Z a0) (a1 : Nat) (ha1 : sh10 kad Z a1) (i2 : Int32) (i6 : Int32) (i7 : Int32) (I : AI) (r : Int32 × AI), f188_b212 kad N Z a0 a1 i2 i6 i7 I = some r → aGo kad d 188 (212, ([(1, .ref a1), (2, .int i2), (6, .int i6), (7, .int i7)], [])) (aMem Z I, t) (qLn (3) tvI Z t r) := by
  intro a0 ha0 a1 ha1 i2 i6 i7 I r h
  unfold f188_b212 at h
  refine go_ops aMi188 1 _ (f1 := (213, ([(1, .ref a1), (2, .int i2), (6, .int i6), (7, .int i7)], [.int (0 : Int32)]))) rfl ?_
  exact (Tf188_b213 hd a0 ha0 a1 ha1 i2 i6 i7 (0 : Int32) I _ h).mono (fun _ _ hq => qLn_tr tB.refl (by omega) hq)
def f188_b184 (kad : Nat → Nat) (N : Nat) (Z : AZ) (a0 : Nat) (a1 : Nat) (i2 : Int32) (i3 : Int32) (i4 : Int32) (i6 : Int32) (i7 : Int32) (I : AI) : Option (Int32 × AI) :=
  (f163 kad N Z a0 I).bind fun r185_1 =>
  if ¬ r185_1.1 = i7 then
    f188_b212 kad N Z a0 a1 i2 i6 i7 r185_1.2
  else
    (fH1 kad N Z a0 (8 : Int32) i4 (0 : Int32) (0 : Int32) (0 : Int32) r185_1.2).bind fun r201_2 =>
    if ¬ r201_2.1 = i3 then
      f188_b212 kad N Z a0 a1 i2 i6 i7 r201_2.2
    else
      f188_b213 kad N Z a0 a1 i2 i6 i7 (1 : Int32) r201_2.2
set_option maxRecDepth 20000 in
theorem Tf188_b184 {kad : Nat → Nat} {N : Nat} {Z : AZ} {d : Nat} {t : Option Nat × (Nat × Nat)} (hd : 22 ≤ d) : ∀ (a0 : Nat) (ha0 : sh10 kad Z a0) (a1 : Nat) (ha1 : sh10 kad Z a1) (i2 : Int32) (i3 : Int32) (i4 : Int32) (i6 : Int32) (i7 : Int32) (I : AI) (r : Int32 × AI), f188_b184 kad N Z a0 a1 i2 i3 i4 i6 i7 I = some r → aGo kad d 188 (184, ([(0, .ref a0), (1, .ref a1), (2, .int i2), (3, .int i3), (4, .int i4), (6, .int i6), (7, .int i7)], [])) (aMem Z I, t) (qLn (4) tvI Z t r) := by
  intro a0 ha0 a1 ha1 i2 i3 i4 i6 i7 I r h
  unfold f188_b184 at h
  refine go_ops aMi188 1 _ (f1 := (185, ([(0, .ref a0), (1, .ref a1), (2, .int i2), (3, .int i3), (4, .int i4), (6, .int i6), (7, .int i7)], [.ref a0]))) rfl ?_
  obtain ⟨r185_1, hxr185_1, h⟩ := Option.bind_eq_some_iff.mp h
  refine gg_cv (as := []) (r := []) aMi188 rfl rfl rfl aMi163 (Nat.le_of_ble_eq_true rfl) rfl (Nat.le_of_ble_eq_true rfl) (Nat.le_of_ble_eq_true rfl) (by omega) (isK_of (sh10_z ha0)) (Tf163 (by omega) a0 ha0 I _ hxr185_1) ?_
  show aGo kad d 188 (188, ([(0, .ref a0), (1, .ref a1), (2, .int i2), (3, .int i3), (4, .int i4), (6, .int i6), (7, .int i7)], [.int r185_1.1])) (aMem Z r185_1.2, t) _
  refine go_ops aMi188 1 _ (f1 := (190, ([(0, .ref a0), (1, .ref a1), (2, .int i2), (3, .int i3), (4, .int i4), (6, .int i6), (7, .int i7)], [.int i7, .int r185_1.1]))) rfl ?_
  refine gg_br (b := decide (¬ r185_1.1 = i7)) (tg := 212) (off := 22) aMi188 rfl rfl rfl rfl (fun hb => ?_) (fun hb => ?_)
  · rw [if_pos (of_decide_eq_true hb)] at h
    refine go_le (lv1 := [(1, .ref a1), (2, .int i2), (6, .int i6), (7, .int i7)]) (aLe_of (show (List.map (fun q => q.1) ([(1, .ref a1), (2, .int i2), (6, .int i6), (7, .int i7)] : ALv)).Nodup from (by show ([1, 2, 6, 7] : List Nat).Nodup; decide)) (aSubL_cons rfl (aSubL_cons rfl (aSubL_cons rfl (aSubL_cons rfl aSubL_nil))))) ?_
    exact (Tf188_b212 hd a0 ha0 a1 ha1 i2 i6 i7 r185_1.2 _ h).mono (fun _ _ hq => qLn_tr tB.refl (by omega) hq)
  · rw [if_neg (of_decide_eq_false hb)] at h
    refine go_ops aMi188 6 _ (f1 := (201, ([(0, .ref a0), (1, .ref a1), (2, .int i2), (3, .int i3), (4, .int i4), (6, .int i6), (7, .int i7)], [.int (0 : Int32), .int (0 : Int32), .int (0 : Int32), .int i4, .int (8 : Int32), .ref a0]))) rfl ?_
    obtain ⟨r201_2, hxr201_2, h⟩ := Option.bind_eq_some_iff.mp h
    refine gg_hl (as := [.ref a0, .int (8 : Int32), .int i4, .int (0 : Int32), .int (0 : Int32), .int (0 : Int32)]) (r := []) aMi188 rfl rfl rfl rfl rfl (Nat.le_of_ble_eq_true rfl) (Nat.le_of_ble_eq_true rfl) (by omega) (TH1 (by omega) a0 ha0 (8 : Int32) i4 (0 : Int32) (0 : Int32) (0 : Int32) r185_1.2 _ hxr201_2) (fun t201_2 ht201_2 => ?_)
    show aGo kad d 188 (204, ([(0, .ref a0), (1, .ref a1), (2, .int i2), (3, .int i3), (4, .int i4), (6, .int i6), (7, .int i7)], [.int r201_2.1])) (aMem Z r201_2.2, t201_2) _
    refine go_ops aMi188 1 _ (f1 := (205, ([(0, .ref a0), (1, .ref a1), (2, .int i2), (3, .int i3), (4, .int i4), (6, .int i6), (7, .int i7)], [.int i3, .int r201_2.1]))) rfl ?_
    refine gg_br (b := decide (¬ r201_2.1 = i3)) (tg := 212) (off := 7) aMi188 rfl rfl rfl rfl (fun hb => ?_) (fun hb => ?_)
    · rw [if_pos (of_decide_eq_true hb)] at h
      refine go_le (lv1 := [(1, .ref a1), (2, .int i2), (6, .int i6), (7, .int i7)]) (aLe_of (show (List.map (fun q => q.1) ([(1, .ref a1), (2, .int i2), (6, .int i6), (7, .int i7)] : ALv)).Nodup from (by show ([1, 2, 6, 7] : List Nat).Nodup; decide)) (aSubL_cons rfl (aSubL_cons rfl (aSubL_cons rfl (aSubL_cons rfl aSubL_nil))))) ?_
      exact (Tf188_b212 hd a0 ha0 a1 ha1 i2 i6 i7 r201_2.2 _ h).mono (fun _ _ hq => qLn_tr (tB.refl.tr ht201_2) (by omega) hq)
    · rw [if_neg (of_decide_eq_false hb)] at h
      refine go_ops aMi188 2 _ (f1 := (213, ([(0, .ref a0), (1, .ref a1), (2, .int i2), (3, .int i3), (4, .int i4), (6, .int i6), (7, .int i7)], [.int (1 : Int32)]))) rfl ?_
      refine go_le (lv1 := [(1, .ref a1), (2, .int i2), (6, .int i6), (7, .int i7)]) (aLe_of (show (List.map (fun q => q.1) ([(1, .ref a1), (2, .int i2), (6, .int i6), (7, .int i7)] : ALv)).Nodup from (by show ([1, 2, 6, 7] : List Nat).Nodup; decide)) (aSubL_cons rfl (aSubL_cons rfl (aSubL_cons rfl (aSubL_cons rfl aSubL_nil))))) ?_
      exact (Tf188_b213 hd a0 ha0 a1 ha1 i2 i6 i7 (1 : Int32) r201_2.2 _ h).mono (fun _ _ hq => qLn_tr (tB.refl.tr ht201_2) (by omega) hq)
def f188_b125 (kad : Nat → Nat) (N : Nat) (Z : AZ) (a0 : Nat) (a1 : Nat) (i2 : Int32) (i3 : Int32) (i4 : Int32) (i6 : Int32) (i7 : Int32) (s0 : Int32) (I : AI) : Option (Int32 × AI) :=
  if s0 = 0 then
    f188_b212 kad N Z a0 a1 i2 i6 i7 I
  else
    if i6 = 0 then
      f188_b184 kad N Z a0 a1 i2 i3 i4 i6 i7 I
    else
      (fH1 kad N Z a0 (6 : Int32) i6 (0 : Int32) (0 : Int32) (0 : Int32) I).bind fun r145_1 =>
      if ¬ r145_1.1 = i6 then
        f188_b212 kad N Z a0 a1 i2 i6 i7 r145_1.2
      else
        (f163 kad N Z a0 r145_1.2).bind fun r154_2 =>
        if ¬ r154_2.1 = i3 then
          f188_b212 kad N Z a0 a1 i2 i6 i7 r154_2.2
        else
          (f152 kad N Z a0 r154_2.2).bind fun r162_3 =>
          if ¬ r162_3.1 = i4 then
            f188_b212 kad N Z a0 a1 i2 i6 i7 r162_3.2
          else
            (fH1 kad N Z a0 (4 : Int32) i2 (0 : Int32) (0 : Int32) (0 : Int32) r162_3.2).bind fun r176_4 =>
            if ¬ r176_4.1 = i6 then
              f188_b212 kad N Z a0 a1 i2 i6 i7 r176_4.2
            else
              f188_b184 kad N Z a0 a1 i2 i3 i4 i6 i7 r176_4.2
set_option maxRecDepth 20000 in
theorem Tf188_b125 {kad : Nat → Nat} {N : Nat} {Z : AZ} {d : Nat} {t : Option Nat × (Nat × Nat)} (hd : 22 ≤ d) : ∀ (a0 : Nat) (ha0 : sh10 kad Z a0) (a1 : Nat) (ha1 : sh10 kad Z a1) (i2 : Int32) (i3 : Int32) (i4 : Int32) (i6 : Int32) (i7 : Int32) (s0 : Int32) (I : AI) (r : Int32 × AI), f188_b125 kad N Z a0 a1 i2 i3 i4 i6 i7 s0 I = some r → aGo kad d 188 (125, ([(0, .ref a0), (1, .ref a1), (2, .int i2), (3, .int i3), (4, .int i4), (6, .int i6), (7, .int i7)], [.int s0])) (aMem Z I, t) (qLn (6) tvI Z t r) := by
  intro a0 ha0 a1 ha1 i2 i3 i4 i6 i7 s0 I r h
  unfold f188_b125 at h
  refine go_ops aMi188 2 _ (f1 := (129, ([(8, .int s0), (0, .ref a0), (1, .ref a1), (2, .int i2), (3, .int i3), (4, .int i4), (6, .int i6), (7, .int i7)], [.int s0]))) rfl ?_
  refine gg_br (b := decide (s0 = 0)) (tg := 212) (off := 83) aMi188 rfl rfl rfl rfl (fun hb => ?_) (fun hb => ?_)
  · rw [if_pos (of_decide_eq_true hb)] at h
    refine go_le (lv1 := [(1, .ref a1), (2, .int i2), (6, .int i6), (7, .int i7)]) (aLe_of (show (List.map (fun q => q.1) ([(1, .ref a1), (2, .int i2), (6, .int i6), (7, .int i7)] : ALv)).Nodup from (by show ([1, 2, 6, 7] : List Nat).Nodup; decide)) (aSubL_cons rfl (aSubL_cons rfl (aSubL_cons rfl (aSubL_cons rfl aSubL_nil))))) ?_
    exact (Tf188_b212 hd a0 ha0 a1 ha1 i2 i6 i7 I _ h).mono (fun _ _ hq => qLn_tr tB.refl (by omega) hq)
  · rw [if_neg (of_decide_eq_false hb)] at h
    refine go_ops aMi188 1 _ (f1 := (134, ([(8, .int s0), (0, .ref a0), (1, .ref a1), (2, .int i2), (3, .int i3), (4, .int i4), (6, .int i6), (7, .int i7)], [.int i6]))) rfl ?_
    refine gg_br (b := decide (i6 = 0)) (tg := 184) (off := 50) aMi188 rfl rfl rfl rfl (fun hb => ?_) (fun hb => ?_)
    · rw [if_pos (of_decide_eq_true hb)] at h
      refine go_le (lv1 := [(0, .ref a0), (1, .ref a1), (2, .int i2), (3, .int i3), (4, .int i4), (6, .int i6), (7, .int i7)]) (aLe_of (show (List.map (fun q => q.1) ([(0, .ref a0), (1, .ref a1), (2, .int i2), (3, .int i3), (4, .int i4), (6, .int i6), (7, .int i7)] : ALv)).Nodup from (by show ([0, 1, 2, 3, 4, 6, 7] : List Nat).Nodup; decide)) (aSubL_cons rfl (aSubL_cons rfl (aSubL_cons rfl (aSubL_cons rfl (aSubL_cons rfl (aSubL_cons rfl (aSubL_cons rfl aSubL_nil)))))))) ?_
      exact (Tf188_b184 hd a0 ha0 a1 ha1 i2 i3 i4 i6 i7 I _ h).mono (fun _ _ hq => qLn_tr tB.refl (by omega) hq)
    · rw [if_neg (of_decide_eq_false hb)] at h
      refine go_ops aMi188 6 _ (f1 := (145, ([(8, .int s0), (0, .ref a0), (1, .ref a1), (2, .int i2), (3, .int i3), (4, .int i4), (6, .int i6), (7, .int i7)], [.int (0 : Int32), .int (0 : Int32), .int (0 : Int32), .int i6, .int (6 : Int32), .ref a0]))) rfl ?_
      obtain ⟨r145_1, hxr145_1, h⟩ := Option.bind_eq_some_iff.mp h
      refine gg_hl (as := [.ref a0, .int (6 : Int32), .int i6, .int (0 : Int32), .int (0 : Int32), .int (0 : Int32)]) (r := []) aMi188 rfl rfl rfl rfl rfl (Nat.le_of_ble_eq_true rfl) (Nat.le_of_ble_eq_true rfl) (by omega) (TH1 (by omega) a0 ha0 (6 : Int32) i6 (0 : Int32) (0 : Int32) (0 : Int32) I _ hxr145_1) (fun t145_1 ht145_1 => ?_)
      show aGo kad d 188 (148, ([(8, .int s0), (0, .ref a0), (1, .ref a1), (2, .int i2), (3, .int i3), (4, .int i4), (6, .int i6), (7, .int i7)], [.int r145_1.1])) (aMem Z r145_1.2, t145_1) _
      refine go_ops aMi188 1 _ (f1 := (150, ([(8, .int s0), (0, .ref a0), (1, .ref a1), (2, .int i2), (3, .int i3), (4, .int i4), (6, .int i6), (7, .int i7)], [.int i6, .int r145_1.1]))) rfl ?_
      refine gg_br (b := decide (¬ r145_1.1 = i6)) (tg := 212) (off := 62) aMi188 rfl rfl rfl rfl (fun hb => ?_) (fun hb => ?_)
      · rw [if_pos (of_decide_eq_true hb)] at h
        refine go_le (lv1 := [(1, .ref a1), (2, .int i2), (6, .int i6), (7, .int i7)]) (aLe_of (show (List.map (fun q => q.1) ([(1, .ref a1), (2, .int i2), (6, .int i6), (7, .int i7)] : ALv)).Nodup from (by show ([1, 2, 6, 7] : List Nat).Nodup; decide)) (aSubL_cons rfl (aSubL_cons rfl (aSubL_cons rfl (aSubL_cons rfl aSubL_nil))))) ?_
        exact (Tf188_b212 hd a0 ha0 a1 ha1 i2 i6 i7 r145_1.2 _ h).mono (fun _ _ hq => qLn_tr (tB.refl.tr ht145_1) (by omega) hq)
      · rw [if_neg (of_decide_eq_false hb)] at h
        refine go_ops aMi188 1 _ (f1 := (154, ([(8, .int s0), (0, .ref a0), (1, .ref a1), (2, .int i2), (3, .int i3), (4, .int i4), (6, .int i6), (7, .int i7)], [.ref a0]))) rfl ?_
        obtain ⟨r154_2, hxr154_2, h⟩ := Option.bind_eq_some_iff.mp h
        refine gg_cv (as := []) (r := []) aMi188 rfl rfl rfl aMi163 (Nat.le_of_ble_eq_true rfl) rfl (Nat.le_of_ble_eq_true rfl) (Nat.le_of_ble_eq_true rfl) (by omega) (isK_of (sh10_z ha0)) (Tf163 (by omega) a0 ha0 r145_1.2 _ hxr154_2) ?_
        show aGo kad d 188 (157, ([(8, .int s0), (0, .ref a0), (1, .ref a1), (2, .int i2), (3, .int i3), (4, .int i4), (6, .int i6), (7, .int i7)], [.int r154_2.1])) (aMem Z r154_2.2, t145_1) _
        refine go_ops aMi188 1 _ (f1 := (158, ([(8, .int s0), (0, .ref a0), (1, .ref a1), (2, .int i2), (3, .int i3), (4, .int i4), (6, .int i6), (7, .int i7)], [.int i3, .int r154_2.1]))) rfl ?_
        refine gg_br (b := decide (¬ r154_2.1 = i3)) (tg := 212) (off := 54) aMi188 rfl rfl rfl rfl (fun hb => ?_) (fun hb => ?_)
        · rw [if_pos (of_decide_eq_true hb)] at h
          refine go_le (lv1 := [(1, .ref a1), (2, .int i2), (6, .int i6), (7, .int i7)]) (aLe_of (show (List.map (fun q => q.1) ([(1, .ref a1), (2, .int i2), (6, .int i6), (7, .int i7)] : ALv)).Nodup from (by show ([1, 2, 6, 7] : List Nat).Nodup; decide)) (aSubL_cons rfl (aSubL_cons rfl (aSubL_cons rfl (aSubL_cons rfl aSubL_nil))))) ?_
          exact (Tf188_b212 hd a0 ha0 a1 ha1 i2 i6 i7 r154_2.2 _ h).mono (fun _ _ hq => qLn_tr (tB.refl.tr ht145_1) (by omega) hq)
        · rw [if_neg (of_decide_eq_false hb)] at h
          refine go_ops aMi188 1 _ (f1 := (162, ([(8, .int s0), (0, .ref a0), (1, .ref a1), (2, .int i2), (3, .int i3), (4, .int i4), (6, .int i6), (7, .int i7)], [.ref a0]))) rfl ?_
          obtain ⟨r162_3, hxr162_3, h⟩ := Option.bind_eq_some_iff.mp h
          refine gg_cv (as := []) (r := []) aMi188 rfl rfl rfl aMi152 (Nat.le_of_ble_eq_true rfl) rfl (Nat.le_of_ble_eq_true rfl) (Nat.le_of_ble_eq_true rfl) (by omega) (isK_of (sh10_z ha0)) (Tf152 (by omega) a0 ha0 r154_2.2 _ hxr162_3) ?_
          show aGo kad d 188 (165, ([(8, .int s0), (0, .ref a0), (1, .ref a1), (2, .int i2), (3, .int i3), (4, .int i4), (6, .int i6), (7, .int i7)], [.int r162_3.1])) (aMem Z r162_3.2, t145_1) _
          refine go_ops aMi188 1 _ (f1 := (167, ([(8, .int s0), (0, .ref a0), (1, .ref a1), (2, .int i2), (3, .int i3), (4, .int i4), (6, .int i6), (7, .int i7)], [.int i4, .int r162_3.1]))) rfl ?_
          refine gg_br (b := decide (¬ r162_3.1 = i4)) (tg := 212) (off := 45) aMi188 rfl rfl rfl rfl (fun hb => ?_) (fun hb => ?_)
          · rw [if_pos (of_decide_eq_true hb)] at h
            refine go_le (lv1 := [(1, .ref a1), (2, .int i2), (6, .int i6), (7, .int i7)]) (aLe_of (show (List.map (fun q => q.1) ([(1, .ref a1), (2, .int i2), (6, .int i6), (7, .int i7)] : ALv)).Nodup from (by show ([1, 2, 6, 7] : List Nat).Nodup; decide)) (aSubL_cons rfl (aSubL_cons rfl (aSubL_cons rfl (aSubL_cons rfl aSubL_nil))))) ?_
            exact (Tf188_b212 hd a0 ha0 a1 ha1 i2 i6 i7 r162_3.2 _ h).mono (fun _ _ hq => qLn_tr (tB.refl.tr ht145_1) (by omega) hq)
          · rw [if_neg (of_decide_eq_false hb)] at h
            refine go_ops aMi188 6 _ (f1 := (176, ([(8, .int s0), (0, .ref a0), (1, .ref a1), (2, .int i2), (3, .int i3), (4, .int i4), (6, .int i6), (7, .int i7)], [.int (0 : Int32), .int (0 : Int32), .int (0 : Int32), .int i2, .int (4 : Int32), .ref a0]))) rfl ?_
            obtain ⟨r176_4, hxr176_4, h⟩ := Option.bind_eq_some_iff.mp h
            refine gg_hl (as := [.ref a0, .int (4 : Int32), .int i2, .int (0 : Int32), .int (0 : Int32), .int (0 : Int32)]) (r := []) aMi188 rfl rfl rfl rfl rfl (Nat.le_of_ble_eq_true rfl) (Nat.le_of_ble_eq_true rfl) (by omega) (TH1 (by omega) a0 ha0 (4 : Int32) i2 (0 : Int32) (0 : Int32) (0 : Int32) r162_3.2 _ hxr176_4) (fun t176_4 ht176_4 => ?_)
            show aGo kad d 188 (179, ([(8, .int s0), (0, .ref a0), (1, .ref a1), (2, .int i2), (3, .int i3), (4, .int i4), (6, .int i6), (7, .int i7)], [.int r176_4.1])) (aMem Z r176_4.2, t176_4) _
            refine go_ops aMi188 1 _ (f1 := (181, ([(8, .int s0), (0, .ref a0), (1, .ref a1), (2, .int i2), (3, .int i3), (4, .int i4), (6, .int i6), (7, .int i7)], [.int i6, .int r176_4.1]))) rfl ?_
            refine gg_br (b := decide (¬ r176_4.1 = i6)) (tg := 212) (off := 31) aMi188 rfl rfl rfl rfl (fun hb => ?_) (fun hb => ?_)
            · rw [if_pos (of_decide_eq_true hb)] at h
              refine go_le (lv1 := [(1, .ref a1), (2, .int i2), (6, .int i6), (7, .int i7)]) (aLe_of (show (List.map (fun q => q.1) ([(1, .ref a1), (2, .int i2), (6, .int i6), (7, .int i7)] : ALv)).Nodup from (by show ([1, 2, 6, 7] : List Nat).Nodup; decide)) (aSubL_cons rfl (aSubL_cons rfl (aSubL_cons rfl (aSubL_cons rfl aSubL_nil))))) ?_
              exact (Tf188_b212 hd a0 ha0 a1 ha1 i2 i6 i7 r176_4.2 _ h).mono (fun _ _ hq => qLn_tr ((tB.refl.tr ht145_1).tr ht176_4) (by omega) hq)
            · rw [if_neg (of_decide_eq_false hb)] at h
              refine go_le (lv1 := [(0, .ref a0), (1, .ref a1), (2, .int i2), (3, .int i3), (4, .int i4), (6, .int i6), (7, .int i7)]) (aLe_of (show (List.map (fun q => q.1) ([(0, .ref a0), (1, .ref a1), (2, .int i2), (3, .int i3), (4, .int i4), (6, .int i6), (7, .int i7)] : ALv)).Nodup from (by show ([0, 1, 2, 3, 4, 6, 7] : List Nat).Nodup; decide)) (aSubL_cons rfl (aSubL_cons rfl (aSubL_cons rfl (aSubL_cons rfl (aSubL_cons rfl (aSubL_cons rfl (aSubL_cons rfl aSubL_nil)))))))) ?_
              exact (Tf188_b184 hd a0 ha0 a1 ha1 i2 i3 i4 i6 i7 r176_4.2 _ h).mono (fun _ _ hq => qLn_tr ((tB.refl.tr ht145_1).tr ht176_4) (by omega) hq)
def f188_b124 (kad : Nat → Nat) (N : Nat) (Z : AZ) (a0 : Nat) (a1 : Nat) (i2 : Int32) (i3 : Int32) (i4 : Int32) (i6 : Int32) (i7 : Int32) (I : AI) : Option (Int32 × AI) :=
  f188_b125 kad N Z a0 a1 i2 i3 i4 i6 i7 (0 : Int32) I
set_option maxRecDepth 20000 in
theorem Tf188_b124 {kad : Nat → Nat} {N : Nat} {Z : AZ} {d : Nat} {t : Option Nat × (Nat × Nat)} (hd : 22 ≤ d) : ∀ (a0 : Nat) (ha0 : sh10 kad Z a0) (a1 : Nat) (ha1 : sh10 kad Z a1) (i2 : Int32) (i3 : Int32) (i4 : Int32) (i6 : Int32) (i7 : Int32) (I : AI) (r : Int32 × AI), f188_b124 kad N Z a0 a1 i2 i3 i4 i6 i7 I = some r → aGo kad d 188 (124, ([(0, .ref a0), (1, .ref a1), (2, .int i2), (3, .int i3), (4, .int i4), (6, .int i6), (7, .int i7)], [])) (aMem Z I, t) (qLn (6) tvI Z t r) := by
  intro a0 ha0 a1 ha1 i2 i3 i4 i6 i7 I r h
  unfold f188_b124 at h
  refine go_ops aMi188 1 _ (f1 := (125, ([(0, .ref a0), (1, .ref a1), (2, .int i2), (3, .int i3), (4, .int i4), (6, .int i6), (7, .int i7)], [.int (0 : Int32)]))) rfl ?_
  exact (Tf188_b125 hd a0 ha0 a1 ha1 i2 i3 i4 i6 i7 (0 : Int32) I _ h).mono (fun _ _ hq => qLn_tr tB.refl (by omega) hq)
def f188_b117 (kad : Nat → Nat) (N : Nat) (Z : AZ) (a0 : Nat) (a1 : Nat) (i2 : Int32) (i3 : Int32) (i4 : Int32) (i6 : Int32) (i7 : Int32) (s0 : Int32) (s1 : Int32) (I : AI) : Option (Int32 × AI) :=
  if ¬ s1 = s0 then
    f188_b124 kad N Z a0 a1 i2 i3 i4 i6 i7 I
  else
    f188_b125 kad N Z a0 a1 i2 i3 i4 i6 i7 (1 : Int32) I
set_option maxRecDepth 20000 in
theorem Tf188_b117 {kad : Nat → Nat} {N : Nat} {Z : AZ} {d : Nat} {t : Option Nat × (Nat × Nat)} (hd : 22 ≤ d) : ∀ (a0 : Nat) (ha0 : sh10 kad Z a0) (a1 : Nat) (ha1 : sh10 kad Z a1) (i2 : Int32) (i3 : Int32) (i4 : Int32) (i6 : Int32) (i7 : Int32) (s0 : Int32) (s1 : Int32) (I : AI) (r : Int32 × AI), f188_b117 kad N Z a0 a1 i2 i3 i4 i6 i7 s0 s1 I = some r → aGo kad d 188 (117, ([(0, .ref a0), (1, .ref a1), (2, .int i2), (3, .int i3), (4, .int i4), (6, .int i6), (7, .int i7)], [.int s0, .int s1])) (aMem Z I, t) (qLn (6) tvI Z t r) := by
  intro a0 ha0 a1 ha1 i2 i3 i4 i6 i7 s0 s1 I r h
  unfold f188_b117 at h
  refine gg_br (b := decide (¬ s1 = s0)) (tg := 124) (off := 7) aMi188 rfl rfl rfl rfl (fun hb => ?_) (fun hb => ?_)
  · rw [if_pos (of_decide_eq_true hb)] at h
    exact (Tf188_b124 hd a0 ha0 a1 ha1 i2 i3 i4 i6 i7 I _ h).mono (fun _ _ hq => qLn_tr tB.refl (by omega) hq)
  · rw [if_neg (of_decide_eq_false hb)] at h
    refine go_ops aMi188 2 _ (f1 := (125, ([(0, .ref a0), (1, .ref a1), (2, .int i2), (3, .int i3), (4, .int i4), (6, .int i6), (7, .int i7)], [.int (1 : Int32)]))) rfl ?_
    exact (Tf188_b125 hd a0 ha0 a1 ha1 i2 i3 i4 i6 i7 (1 : Int32) I _ h).mono (fun _ _ hq => qLn_tr tB.refl (by omega) hq)
def f188 (kad : Nat → Nat) (N : Nat) (Z : AZ) (a0 : Nat) (a1 : Nat) (i2 : Int32) (I : AI) : Option (Int32 × AI) :=
  (f163 kad N Z a0 I).bind fun r1_1 =>
  (f152 kad N Z a0 r1_1.2).bind fun r6_2 =>
  (f153 kad N Z a0 r6_2.2).bind fun r12_3 =>
  (fH1 kad N Z a0 (4 : Int32) i2 (0 : Int32) (0 : Int32) (0 : Int32) r12_3.2).bind fun r23_4 =>
  if ¬ r23_4.1 = (Int32.ofInt (-99999999)) then
    (f163 kad N Z a0 r23_4.2).bind fun r63_5 =>
    if r23_4.1 < 0 then
      f188_b124 kad N Z a0 a1 i2 r1_1.1 r6_2.1 r23_4.1 r63_5.1 r63_5.2
    else
      if i2 < r23_4.1 then
        f188_b124 kad N Z a0 a1 i2 r1_1.1 r6_2.1 r23_4.1 r63_5.1 r63_5.2
      else
        (f152 kad N Z a0 r63_5.2).bind fun r80_6 =>
        if ¬ r80_6.1 = (r6_2.1 + r23_4.1) then
          f188_b124 kad N Z a0 a1 i2 r1_1.1 r6_2.1 r23_4.1 r63_5.1 r80_6.2
        else
          (f153 kad N Z a0 r80_6.2).bind fun r92_7 =>
          if (r12_3.1 + r23_4.1) ≤ (200 : Int32) then
            f188_b117 kad N Z a0 a1 i2 r1_1.1 r6_2.1 r23_4.1 r63_5.1 (r12_3.1 + r23_4.1) r92_7.1 r92_7.2
          else
            f188_b117 kad N Z a0 a1 i2 r1_1.1 r6_2.1 r23_4.1 r63_5.1 (200 : Int32) r92_7.1 r92_7.2
  else
    (fH1 kad N Z a1 (4 : Int32) i2 (0 : Int32) (0 : Int32) (0 : Int32) r23_4.2).bind fun r41_8 =>
    if ¬ r41_8.1 = r23_4.1 then
      f188_b60 kad N Z a0 a1 r41_8.2
    else
      (f150 kad N Z a0 r41_8.2).bind fun r50_9 =>
      if ¬ r50_9.1 = 0 then
        f188_b60 kad N Z a0 a1 r50_9.2
      else
        f188_b61 kad N Z a0 a1 (1 : Int32) r50_9.2
set_option maxRecDepth 20000 in
theorem Tf188 {kad : Nat → Nat} {N : Nat} {Z : AZ} {d : Nat} {t : Option Nat × (Nat × Nat)} (hd : 22 ≤ d) : ∀ (a0 : Nat) (ha0 : sh10 kad Z a0) (a1 : Nat) (ha1 : sh10 kad Z a1) (i2 : Int32) (I : AI) (r : Int32 × AI), f188 kad N Z a0 a1 i2 I = some r → aGo kad d 188 (0, ([(0, .ref a0), (1, .ref a1), (2, .int i2)], [])) (aMem Z I, t) (qLn (7) tvI Z t r) := by
  intro a0 ha0 a1 ha1 i2 I r h
  unfold f188 at h
  refine go_ops aMi188 1 _ (f1 := (1, ([(0, .ref a0), (1, .ref a1), (2, .int i2)], [.ref a0]))) rfl ?_
  obtain ⟨r1_1, hxr1_1, h⟩ := Option.bind_eq_some_iff.mp h
  refine gg_cv (as := []) (r := []) aMi188 rfl rfl rfl aMi163 (Nat.le_of_ble_eq_true rfl) rfl (Nat.le_of_ble_eq_true rfl) (Nat.le_of_ble_eq_true rfl) (by omega) (isK_of (sh10_z ha0)) (Tf163 (by omega) a0 ha0 I _ hxr1_1) ?_
  show aGo kad d 188 (4, ([(0, .ref a0), (1, .ref a1), (2, .int i2)], [.int r1_1.1])) (aMem Z r1_1.2, t) _
  refine go_ops aMi188 2 _ (f1 := (6, ([(3, .int r1_1.1), (0, .ref a0), (1, .ref a1), (2, .int i2)], [.ref a0]))) rfl ?_
  obtain ⟨r6_2, hxr6_2, h⟩ := Option.bind_eq_some_iff.mp h
  refine gg_cv (as := []) (r := []) aMi188 rfl rfl rfl aMi152 (Nat.le_of_ble_eq_true rfl) rfl (Nat.le_of_ble_eq_true rfl) (Nat.le_of_ble_eq_true rfl) (by omega) (isK_of (sh10_z ha0)) (Tf152 (by omega) a0 ha0 r1_1.2 _ hxr6_2) ?_
  show aGo kad d 188 (9, ([(3, .int r1_1.1), (0, .ref a0), (1, .ref a1), (2, .int i2)], [.int r6_2.1])) (aMem Z r6_2.2, t) _
  refine go_ops aMi188 2 _ (f1 := (12, ([(4, .int r6_2.1), (3, .int r1_1.1), (0, .ref a0), (1, .ref a1), (2, .int i2)], [.ref a0]))) rfl ?_
  obtain ⟨r12_3, hxr12_3, h⟩ := Option.bind_eq_some_iff.mp h
  refine gg_cv (as := []) (r := []) aMi188 rfl rfl rfl aMi153 (Nat.le_of_ble_eq_true rfl) rfl (Nat.le_of_ble_eq_true rfl) (Nat.le_of_ble_eq_true rfl) (by omega) (isK_of (sh10_z ha0)) (Tf153 (by omega) a0 ha0 r6_2.2 _ hxr12_3) ?_
  show aGo kad d 188 (15, ([(4, .int r6_2.1), (3, .int r1_1.1), (0, .ref a0), (1, .ref a1), (2, .int i2)], [.int r12_3.1])) (aMem Z r12_3.2, t) _
  refine go_ops aMi188 7 _ (f1 := (23, ([(5, .int r12_3.1), (4, .int r6_2.1), (3, .int r1_1.1), (0, .ref a0), (1, .ref a1), (2, .int i2)], [.int (0 : Int32), .int (0 : Int32), .int (0 : Int32), .int i2, .int (4 : Int32), .ref a0]))) rfl ?_
  obtain ⟨r23_4, hxr23_4, h⟩ := Option.bind_eq_some_iff.mp h
  refine gg_hl (as := [.ref a0, .int (4 : Int32), .int i2, .int (0 : Int32), .int (0 : Int32), .int (0 : Int32)]) (r := []) aMi188 rfl rfl rfl rfl rfl (Nat.le_of_ble_eq_true rfl) (Nat.le_of_ble_eq_true rfl) (by omega) (TH1 (by omega) a0 ha0 (4 : Int32) i2 (0 : Int32) (0 : Int32) (0 : Int32) r12_3.2 _ hxr23_4) (fun t23_4 ht23_4 => ?_)
  show aGo kad d 188 (26, ([(5, .int r12_3.1), (4, .int r6_2.1), (3, .int r1_1.1), (0, .ref a0), (1, .ref a1), (2, .int i2)], [.int r23_4.1])) (aMem Z r23_4.2, t23_4) _
  refine go_ops aMi188 2 _ (f1 := (30, ([(6, .int r23_4.1), (5, .int r12_3.1), (4, .int r6_2.1), (3, .int r1_1.1), (0, .ref a0), (1, .ref a1), (2, .int i2)], [.int r23_4.1]))) rfl ?_
  refine gg_kI (Or.inl ⟨rfl, rfl⟩) aMi188 rfl rfl ?_
  refine gg_br (b := decide (¬ r23_4.1 = (Int32.ofInt (-99999999)))) (tg := 62) (off := 30) aMi188 rfl rfl rfl rfl (fun hb => ?_) (fun hb => ?_)
  · rw [if_pos (of_decide_eq_true hb)] at h
    refine go_ops aMi188 1 _ (f1 := (63, ([(6, .int r23_4.1), (5, .int r12_3.1), (4, .int r6_2.1), (3, .int r1_1.1), (0, .ref a0), (1, .ref a1), (2, .int i2)], [.ref a0]))) rfl ?_
    obtain ⟨r63_5, hxr63_5, h⟩ := Option.bind_eq_some_iff.mp h
    refine gg_cv (as := []) (r := []) aMi188 rfl rfl rfl aMi163 (Nat.le_of_ble_eq_true rfl) rfl (Nat.le_of_ble_eq_true rfl) (Nat.le_of_ble_eq_true rfl) (by omega) (isK_of (sh10_z ha0)) (Tf163 (by omega) a0 ha0 r23_4.2 _ hxr63_5) ?_
    show aGo kad d 188 (66, ([(6, .int r23_4.1), (5, .int r12_3.1), (4, .int r6_2.1), (3, .int r1_1.1), (0, .ref a0), (1, .ref a1), (2, .int i2)], [.int r63_5.1])) (aMem Z r63_5.2, t23_4) _
    refine go_ops aMi188 2 _ (f1 := (70, ([(7, .int r63_5.1), (6, .int r23_4.1), (5, .int r12_3.1), (4, .int r6_2.1), (3, .int r1_1.1), (0, .ref a0), (1, .ref a1), (2, .int i2)], [.int r23_4.1]))) rfl ?_
    refine gg_br (b := decide (r23_4.1 < 0)) (tg := 124) (off := 54) aMi188 rfl rfl rfl rfl (fun hb => ?_) (fun hb => ?_)
    · rw [if_pos (of_decide_eq_true hb)] at h
      refine go_le (lv1 := [(0, .ref a0), (1, .ref a1), (2, .int i2), (3, .int r1_1.1), (4, .int r6_2.1), (6, .int r23_4.1), (7, .int r63_5.1)]) (aLe_of (show (List.map (fun q => q.1) ([(0, .ref a0), (1, .ref a1), (2, .int i2), (3, .int r1_1.1), (4, .int r6_2.1), (6, .int r23_4.1), (7, .int r63_5.1)] : ALv)).Nodup from (by show ([0, 1, 2, 3, 4, 6, 7] : List Nat).Nodup; decide)) (aSubL_cons rfl (aSubL_cons rfl (aSubL_cons rfl (aSubL_cons rfl (aSubL_cons rfl (aSubL_cons rfl (aSubL_cons rfl aSubL_nil)))))))) ?_
      exact (Tf188_b124 hd a0 ha0 a1 ha1 i2 r1_1.1 r6_2.1 r23_4.1 r63_5.1 r63_5.2 _ h).mono (fun _ _ hq => qLn_tr (tB.refl.tr ht23_4) (by omega) hq)
    · rw [if_neg (of_decide_eq_false hb)] at h
      refine go_ops aMi188 2 _ (f1 := (76, ([(7, .int r63_5.1), (6, .int r23_4.1), (5, .int r12_3.1), (4, .int r6_2.1), (3, .int r1_1.1), (0, .ref a0), (1, .ref a1), (2, .int i2)], [.int i2, .int r23_4.1]))) rfl ?_
      refine gg_br (b := decide (i2 < r23_4.1)) (tg := 124) (off := 48) aMi188 rfl rfl rfl rfl (fun hb => ?_) (fun hb => ?_)
      · rw [if_pos (of_decide_eq_true hb)] at h
        refine go_le (lv1 := [(0, .ref a0), (1, .ref a1), (2, .int i2), (3, .int r1_1.1), (4, .int r6_2.1), (6, .int r23_4.1), (7, .int r63_5.1)]) (aLe_of (show (List.map (fun q => q.1) ([(0, .ref a0), (1, .ref a1), (2, .int i2), (3, .int r1_1.1), (4, .int r6_2.1), (6, .int r23_4.1), (7, .int r63_5.1)] : ALv)).Nodup from (by show ([0, 1, 2, 3, 4, 6, 7] : List Nat).Nodup; decide)) (aSubL_cons rfl (aSubL_cons rfl (aSubL_cons rfl (aSubL_cons rfl (aSubL_cons rfl (aSubL_cons rfl (aSubL_cons rfl aSubL_nil)))))))) ?_
        exact (Tf188_b124 hd a0 ha0 a1 ha1 i2 r1_1.1 r6_2.1 r23_4.1 r63_5.1 r63_5.2 _ h).mono (fun _ _ hq => qLn_tr (tB.refl.tr ht23_4) (by omega) hq)
      · rw [if_neg (of_decide_eq_false hb)] at h
        refine go_ops aMi188 1 _ (f1 := (80, ([(7, .int r63_5.1), (6, .int r23_4.1), (5, .int r12_3.1), (4, .int r6_2.1), (3, .int r1_1.1), (0, .ref a0), (1, .ref a1), (2, .int i2)], [.ref a0]))) rfl ?_
        obtain ⟨r80_6, hxr80_6, h⟩ := Option.bind_eq_some_iff.mp h
        refine gg_cv (as := []) (r := []) aMi188 rfl rfl rfl aMi152 (Nat.le_of_ble_eq_true rfl) rfl (Nat.le_of_ble_eq_true rfl) (Nat.le_of_ble_eq_true rfl) (by omega) (isK_of (sh10_z ha0)) (Tf152 (by omega) a0 ha0 r63_5.2 _ hxr80_6) ?_
        show aGo kad d 188 (83, ([(7, .int r63_5.1), (6, .int r23_4.1), (5, .int r12_3.1), (4, .int r6_2.1), (3, .int r1_1.1), (0, .ref a0), (1, .ref a1), (2, .int i2)], [.int r80_6.1])) (aMem Z r80_6.2, t23_4) _
        refine go_ops aMi188 3 _ (f1 := (88, ([(7, .int r63_5.1), (6, .int r23_4.1), (5, .int r12_3.1), (4, .int r6_2.1), (3, .int r1_1.1), (0, .ref a0), (1, .ref a1), (2, .int i2)], [.int (r6_2.1 + r23_4.1), .int r80_6.1]))) rfl ?_
        refine gg_br (b := decide (¬ r80_6.1 = (r6_2.1 + r23_4.1))) (tg := 124) (off := 36) aMi188 rfl rfl rfl rfl (fun hb => ?_) (fun hb => ?_)
        · rw [if_pos (of_decide_eq_true hb)] at h
          refine go_le (lv1 := [(0, .ref a0), (1, .ref a1), (2, .int i2), (3, .int r1_1.1), (4, .int r6_2.1), (6, .int r23_4.1), (7, .int r63_5.1)]) (aLe_of (show (List.map (fun q => q.1) ([(0, .ref a0), (1, .ref a1), (2, .int i2), (3, .int r1_1.1), (4, .int r6_2.1), (6, .int r23_4.1), (7, .int r63_5.1)] : ALv)).Nodup from (by show ([0, 1, 2, 3, 4, 6, 7] : List Nat).Nodup; decide)) (aSubL_cons rfl (aSubL_cons rfl (aSubL_cons rfl (aSubL_cons rfl (aSubL_cons rfl (aSubL_cons rfl (aSubL_cons rfl aSubL_nil)))))))) ?_
          exact (Tf188_b124 hd a0 ha0 a1 ha1 i2 r1_1.1 r6_2.1 r23_4.1 r63_5.1 r80_6.2 _ h).mono (fun _ _ hq => qLn_tr (tB.refl.tr ht23_4) (by omega) hq)
        · rw [if_neg (of_decide_eq_false hb)] at h
          refine go_ops aMi188 1 _ (f1 := (92, ([(7, .int r63_5.1), (6, .int r23_4.1), (5, .int r12_3.1), (4, .int r6_2.1), (3, .int r1_1.1), (0, .ref a0), (1, .ref a1), (2, .int i2)], [.ref a0]))) rfl ?_
          obtain ⟨r92_7, hxr92_7, h⟩ := Option.bind_eq_some_iff.mp h
          refine gg_cv (as := []) (r := []) aMi188 rfl rfl rfl aMi153 (Nat.le_of_ble_eq_true rfl) rfl (Nat.le_of_ble_eq_true rfl) (Nat.le_of_ble_eq_true rfl) (by omega) (isK_of (sh10_z ha0)) (Tf153 (by omega) a0 ha0 r80_6.2 _ hxr92_7) ?_
          show aGo kad d 188 (95, ([(7, .int r63_5.1), (6, .int r23_4.1), (5, .int r12_3.1), (4, .int r6_2.1), (3, .int r1_1.1), (0, .ref a0), (1, .ref a1), (2, .int i2)], [.int r92_7.1])) (aMem Z r92_7.2, t23_4) _
          refine go_ops aMi188 4 _ (f1 := (103, ([(7, .int r63_5.1), (6, .int r23_4.1), (5, .int r12_3.1), (4, .int r6_2.1), (3, .int r1_1.1), (0, .ref a0), (1, .ref a1), (2, .int i2)], [.int (200 : Int32), .int (r12_3.1 + r23_4.1), .int r92_7.1]))) rfl ?_
          refine gg_br (b := decide ((r12_3.1 + r23_4.1) ≤ (200 : Int32))) (tg := 112) (off := 9) aMi188 rfl rfl rfl rfl (fun hb => ?_) (fun hb => ?_)
          · rw [if_pos (of_decide_eq_true hb)] at h
            refine go_ops aMi188 3 _ (f1 := (117, ([(7, .int r63_5.1), (6, .int r23_4.1), (5, .int r12_3.1), (4, .int r6_2.1), (3, .int r1_1.1), (0, .ref a0), (1, .ref a1), (2, .int i2)], [.int (r12_3.1 + r23_4.1), .int r92_7.1]))) rfl ?_
            refine go_le (lv1 := [(0, .ref a0), (1, .ref a1), (2, .int i2), (3, .int r1_1.1), (4, .int r6_2.1), (6, .int r23_4.1), (7, .int r63_5.1)]) (aLe_of (show (List.map (fun q => q.1) ([(0, .ref a0), (1, .ref a1), (2, .int i2), (3, .int r1_1.1), (4, .int r6_2.1), (6, .int r23_4.1), (7, .int r63_5.1)] : ALv)).Nodup from (by show ([0, 1, 2, 3, 4, 6, 7] : List Nat).Nodup; decide)) (aSubL_cons rfl (aSubL_cons rfl (aSubL_cons rfl (aSubL_cons rfl (aSubL_cons rfl (aSubL_cons rfl (aSubL_cons rfl aSubL_nil)))))))) ?_
            exact (Tf188_b117 hd a0 ha0 a1 ha1 i2 r1_1.1 r6_2.1 r23_4.1 r63_5.1 (r12_3.1 + r23_4.1) r92_7.1 r92_7.2 _ h).mono (fun _ _ hq => qLn_tr (tB.refl.tr ht23_4) (by omega) hq)
          · rw [if_neg (of_decide_eq_false hb)] at h
            refine go_ops aMi188 2 _ (f1 := (117, ([(7, .int r63_5.1), (6, .int r23_4.1), (5, .int r12_3.1), (4, .int r6_2.1), (3, .int r1_1.1), (0, .ref a0), (1, .ref a1), (2, .int i2)], [.int (200 : Int32), .int r92_7.1]))) rfl ?_
            refine go_le (lv1 := [(0, .ref a0), (1, .ref a1), (2, .int i2), (3, .int r1_1.1), (4, .int r6_2.1), (6, .int r23_4.1), (7, .int r63_5.1)]) (aLe_of (show (List.map (fun q => q.1) ([(0, .ref a0), (1, .ref a1), (2, .int i2), (3, .int r1_1.1), (4, .int r6_2.1), (6, .int r23_4.1), (7, .int r63_5.1)] : ALv)).Nodup from (by show ([0, 1, 2, 3, 4, 6, 7] : List Nat).Nodup; decide)) (aSubL_cons rfl (aSubL_cons rfl (aSubL_cons rfl (aSubL_cons rfl (aSubL_cons rfl (aSubL_cons rfl (aSubL_cons rfl aSubL_nil)))))))) ?_
            exact (Tf188_b117 hd a0 ha0 a1 ha1 i2 r1_1.1 r6_2.1 r23_4.1 r63_5.1 (200 : Int32) r92_7.1 r92_7.2 _ h).mono (fun _ _ hq => qLn_tr (tB.refl.tr ht23_4) (by omega) hq)
  · rw [if_neg (of_decide_eq_false hb)] at h
    refine go_ops aMi188 6 _ (f1 := (41, ([(6, .int r23_4.1), (5, .int r12_3.1), (4, .int r6_2.1), (3, .int r1_1.1), (0, .ref a0), (1, .ref a1), (2, .int i2)], [.int (0 : Int32), .int (0 : Int32), .int (0 : Int32), .int i2, .int (4 : Int32), .ref a1]))) rfl ?_
    obtain ⟨r41_8, hxr41_8, h⟩ := Option.bind_eq_some_iff.mp h
    refine gg_hl (as := [.ref a1, .int (4 : Int32), .int i2, .int (0 : Int32), .int (0 : Int32), .int (0 : Int32)]) (r := []) aMi188 rfl rfl rfl rfl rfl (Nat.le_of_ble_eq_true rfl) (Nat.le_of_ble_eq_true rfl) (by omega) (TH1 (by omega) a1 ha1 (4 : Int32) i2 (0 : Int32) (0 : Int32) (0 : Int32) r23_4.2 _ hxr41_8) (fun t41_8 ht41_8 => ?_)
    show aGo kad d 188 (44, ([(6, .int r23_4.1), (5, .int r12_3.1), (4, .int r6_2.1), (3, .int r1_1.1), (0, .ref a0), (1, .ref a1), (2, .int i2)], [.int r41_8.1])) (aMem Z r41_8.2, t41_8) _
    refine go_ops aMi188 1 _ (f1 := (46, ([(6, .int r23_4.1), (5, .int r12_3.1), (4, .int r6_2.1), (3, .int r1_1.1), (0, .ref a0), (1, .ref a1), (2, .int i2)], [.int r23_4.1, .int r41_8.1]))) rfl ?_
    refine gg_br (b := decide (¬ r41_8.1 = r23_4.1)) (tg := 60) (off := 14) aMi188 rfl rfl rfl rfl (fun hb => ?_) (fun hb => ?_)
    · rw [if_pos (of_decide_eq_true hb)] at h
      refine go_le (lv1 := []) (aLe_of (show (List.map (fun q => q.1) ([] : ALv)).Nodup from (by show ([] : List Nat).Nodup; decide)) aSubL_nil) ?_
      exact (Tf188_b60 hd a0 ha0 a1 ha1 r41_8.2 _ h).mono (fun _ _ hq => qLn_tr ((tB.refl.tr ht23_4).tr ht41_8) (by omega) hq)
    · rw [if_neg (of_decide_eq_false hb)] at h
      refine go_ops aMi188 1 _ (f1 := (50, ([(6, .int r23_4.1), (5, .int r12_3.1), (4, .int r6_2.1), (3, .int r1_1.1), (0, .ref a0), (1, .ref a1), (2, .int i2)], [.ref a0]))) rfl ?_
      obtain ⟨r50_9, hxr50_9, h⟩ := Option.bind_eq_some_iff.mp h
      refine gg_cv (as := []) (r := []) aMi188 rfl rfl rfl aMi150 (Nat.le_of_ble_eq_true rfl) rfl (Nat.le_of_ble_eq_true rfl) (Nat.le_of_ble_eq_true rfl) (by omega) (isK_of (sh10_z ha0)) (Tf150 (by omega) a0 ha0 r41_8.2 _ hxr50_9) ?_
      show aGo kad d 188 (53, ([(6, .int r23_4.1), (5, .int r12_3.1), (4, .int r6_2.1), (3, .int r1_1.1), (0, .ref a0), (1, .ref a1), (2, .int i2)], [.int r50_9.1])) (aMem Z r50_9.2, t41_8) _
      refine gg_br (b := decide (¬ r50_9.1 = 0)) (tg := 60) (off := 7) aMi188 rfl rfl rfl rfl (fun hb => ?_) (fun hb => ?_)
      · rw [if_pos (of_decide_eq_true hb)] at h
        refine go_le (lv1 := []) (aLe_of (show (List.map (fun q => q.1) ([] : ALv)).Nodup from (by show ([] : List Nat).Nodup; decide)) aSubL_nil) ?_
        exact (Tf188_b60 hd a0 ha0 a1 ha1 r50_9.2 _ h).mono (fun _ _ hq => qLn_tr ((tB.refl.tr ht23_4).tr ht41_8) (by omega) hq)
      · rw [if_neg (of_decide_eq_false hb)] at h
        refine go_ops aMi188 2 _ (f1 := (61, ([(6, .int r23_4.1), (5, .int r12_3.1), (4, .int r6_2.1), (3, .int r1_1.1), (0, .ref a0), (1, .ref a1), (2, .int i2)], [.int (1 : Int32)]))) rfl ?_
        refine go_le (lv1 := []) (aLe_of (show (List.map (fun q => q.1) ([] : ALv)).Nodup from (by show ([] : List Nat).Nodup; decide)) aSubL_nil) ?_
        exact (Tf188_b61 hd a0 ha0 a1 ha1 (1 : Int32) r50_9.2 _ h).mono (fun _ _ hq => qLn_tr ((tB.refl.tr ht23_4).tr ht41_8) (by omega) hq)
-- KernelGymLaw.isCrashSo (LKernelGym;LKernelGym;)Z
def f189_b166 (kad : Nat → Nat) (N : Nat) (Z : AZ) (a0 : Nat) (a1 : Nat) (s0 : Int32) (I : AI) : Option ((Int32 ⊕ String) × AI) :=
  if s0 = 0 ∨ s0 = 1 then some (.inl s0, I) else none
set_option maxRecDepth 20000 in
theorem Tf189_b166 {kad : Nat → Nat} {N : Nat} {Z : AZ} {d : Nat} {t : Option Nat × (Nat × Nat)} (hd : 22 ≤ d) : ∀ (a0 : Nat) (ha0 : sh10 kad Z a0) (a1 : Nat) (ha1 : sh10 kad Z a1) (s0 : Int32) (I : AI) (r : (Int32 ⊕ String) × AI), f189_b166 kad N Z a0 a1 s0 I = some r → aGo kad d 189 (166, ([], [.int s0])) (aMem Z I, t) (qLx (0) tvI Z t r) := by
  intro a0 ha0 a1 ha1 s0 I r h
  unfold f189_b166 at h
  split at h
  · rename_i hz
    cases h
    exact go_ret aMi189 rfl (aRetZ hz) (qLx_ret tB.refl)
  · cases h
def f189_b165 (kad : Nat → Nat) (N : Nat) (Z : AZ) (a0 : Nat) (a1 : Nat) (I : AI) : Option ((Int32 ⊕ String) × AI) :=
  f189_b166 kad N Z a0 a1 (0 : Int32) I
set_option maxRecDepth 20000 in
theorem Tf189_b165 {kad : Nat → Nat} {N : Nat} {Z : AZ} {d : Nat} {t : Option Nat × (Nat × Nat)} (hd : 22 ≤ d) : ∀ (a0 : Nat) (ha0 : sh10 kad Z a0) (a1 : Nat) (ha1 : sh10 kad Z a1) (I : AI) (r : (Int32 ⊕ String) × AI), f189_b165 kad N Z a0 a1 I = some r → aGo kad d 189 (165, ([], [])) (aMem Z I, t) (qLx (0) tvI Z t r) := by
  intro a0 ha0 a1 ha1 I r h
  unfold f189_b165 at h
  refine go_ops aMi189 1 _ (f1 := (166, ([], [.int (0 : Int32)]))) rfl ?_
  exact (Tf189_b166 hd a0 ha0 a1 ha1 (0 : Int32) I _ h).mono (fun _ _ hq => qLx_tr tB.refl (by omega) hq)
def f189_b260 (kad : Nat → Nat) (N : Nat) (Z : AZ) (a0 : Nat) (a1 : Nat) (s0 : Int32) (I : AI) : Option ((Int32 ⊕ String) × AI) :=
  if s0 = 0 ∨ s0 = 1 then some (.inl s0, I) else none
set_option maxRecDepth 20000 in
theorem Tf189_b260 {kad : Nat → Nat} {N : Nat} {Z : AZ} {d : Nat} {t : Option Nat × (Nat × Nat)} (hd : 22 ≤ d) : ∀ (a0 : Nat) (ha0 : sh10 kad Z a0) (a1 : Nat) (ha1 : sh10 kad Z a1) (s0 : Int32) (I : AI) (r : (Int32 ⊕ String) × AI), f189_b260 kad N Z a0 a1 s0 I = some r → aGo kad d 189 (260, ([], [.int s0])) (aMem Z I, t) (qLx (0) tvI Z t r) := by
  intro a0 ha0 a1 ha1 s0 I r h
  unfold f189_b260 at h
  split at h
  · rename_i hz
    cases h
    exact go_ret aMi189 rfl (aRetZ hz) (qLx_ret tB.refl)
  · cases h
def f189_b259 (kad : Nat → Nat) (N : Nat) (Z : AZ) (a0 : Nat) (a1 : Nat) (I : AI) : Option ((Int32 ⊕ String) × AI) :=
  f189_b260 kad N Z a0 a1 (0 : Int32) I
set_option maxRecDepth 20000 in
theorem Tf189_b259 {kad : Nat → Nat} {N : Nat} {Z : AZ} {d : Nat} {t : Option Nat × (Nat × Nat)} (hd : 22 ≤ d) : ∀ (a0 : Nat) (ha0 : sh10 kad Z a0) (a1 : Nat) (ha1 : sh10 kad Z a1) (I : AI) (r : (Int32 ⊕ String) × AI), f189_b259 kad N Z a0 a1 I = some r → aGo kad d 189 (259, ([], [])) (aMem Z I, t) (qLx (0) tvI Z t r) := by
  intro a0 ha0 a1 ha1 I r h
  unfold f189_b259 at h
  refine go_ops aMi189 1 _ (f1 := (260, ([], [.int (0 : Int32)]))) rfl ?_
  exact (Tf189_b260 hd a0 ha0 a1 ha1 (0 : Int32) I _ h).mono (fun _ _ hq => qLx_tr tB.refl (by omega) hq)
def f189_b187 (kad : Nat → Nat) (N : Nat) (Z : AZ) (a0 : Nat) (a1 : Nat) (i8 : Int32) (i9 : Int32) (s0 : Int32) (s1 : Int32) (I : AI) : Option ((Int32 ⊕ String) × AI) :=
  if ¬ s1 = s0 then
    f189_b259 kad N Z a0 a1 I
  else
    (f168 kad N Z a0 I).bind fun r191_1 =>
    if ¬ r191_1.1 = (i8 + i9) then
      f189_b259 kad N Z a0 a1 r191_1.2
    else
      (f174 kad N Z a0 r191_1.2).bind fun r203_2 =>
      if r203_2.1 = 0 then
        f189_b259 kad N Z a0 a1 r203_2.2
      else
        (f150 kad N Z a0 r203_2.2).bind fun r210_3 =>
        if ¬ r210_3.1 = (1 : Int32) then
          f189_b259 kad N Z a0 a1 r210_3.2
        else
          (f152 kad N Z a0 r210_3.2).bind fun r218_4 =>
          if ¬ r218_4.1 = 0 then
            f189_b259 kad N Z a0 a1 r218_4.2
          else
            (f153 kad N Z a0 r218_4.2).bind fun r225_5 =>
            if ¬ r225_5.1 = 0 then
              f189_b259 kad N Z a0 a1 r225_5.2
            else
              (f169 kad N Z a0 (0 : Int32) (0 : Int32) r225_5.2).bind fun r234_6 =>
              xB r234_6 fun vr234_6 Ir234_6 =>
              if ¬ vr234_6 = 0 then
                f189_b259 kad N Z a0 a1 Ir234_6
              else
                (f159 kad N Z a0 (8 : Int32) Ir234_6).bind fun r243_7 =>
                xB r243_7 fun vr243_7 Ir243_7 =>
                (f137 kad N Z a0 (8 : Int32) Ir243_7).bind fun r249_8 =>
                xB r249_8 fun vr249_8 Ir249_8 =>
                if ¬ vr243_7 = vr249_8 then
                  f189_b259 kad N Z a0 a1 Ir249_8
                else
                  f189_b260 kad N Z a0 a1 (1 : Int32) Ir249_8
set_option maxRecDepth 20000 in
theorem Tf189_b187 {kad : Nat → Nat} {N : Nat} {Z : AZ} {d : Nat} {t : Option Nat × (Nat × Nat)} (hd : 22 ≤ d) : ∀ (a0 : Nat) (ha0 : sh10 kad Z a0) (a1 : Nat) (ha1 : sh10 kad Z a1) (i8 : Int32) (i9 : Int32) (s0 : Int32) (s1 : Int32) (I : AI) (r : (Int32 ⊕ String) × AI), f189_b187 kad N Z a0 a1 i8 i9 s0 s1 I = some r → aGo kad d 189 (187, ([(0, .ref a0), (8, .int i8), (9, .int i9)], [.int s0, .int s1])) (aMem Z I, t) (qLx (1) tvI Z t r) := by
  intro a0 ha0 a1 ha1 i8 i9 s0 s1 I r h
  unfold f189_b187 at h
  refine gg_br (b := decide (¬ s1 = s0)) (tg := 259) (off := 72) aMi189 rfl rfl rfl rfl (fun hb => ?_) (fun hb => ?_)
  · rw [if_pos (of_decide_eq_true hb)] at h
    refine go_le (lv1 := []) (aLe_of (show (List.map (fun q => q.1) ([] : ALv)).Nodup from (by show ([] : List Nat).Nodup; decide)) aSubL_nil) ?_
    exact (Tf189_b259 hd a0 ha0 a1 ha1 I _ h).mono (fun _ _ hq => qLx_tr tB.refl (by omega) hq)
  · rw [if_neg (of_decide_eq_false hb)] at h
    refine go_ops aMi189 1 _ (f1 := (191, ([(0, .ref a0), (8, .int i8), (9, .int i9)], [.ref a0]))) rfl ?_
    obtain ⟨r191_1, hxr191_1, h⟩ := Option.bind_eq_some_iff.mp h
    refine gg_cv (as := []) (r := []) aMi189 rfl rfl rfl aMi168 (Nat.le_of_ble_eq_true rfl) rfl (Nat.le_of_ble_eq_true rfl) (Nat.le_of_ble_eq_true rfl) (by omega) (isK_of (sh10_z ha0)) (Tf168 (by omega) a0 ha0 I _ hxr191_1) ?_
    show aGo kad d 189 (194, ([(0, .ref a0), (8, .int i8), (9, .int i9)], [.int r191_1.1])) (aMem Z r191_1.2, t) _
    refine go_ops aMi189 3 _ (f1 := (199, ([(0, .ref a0), (8, .int i8), (9, .int i9)], [.int (i8 + i9), .int r191_1.1]))) rfl ?_
    refine gg_br (b := decide (¬ r191_1.1 = (i8 + i9))) (tg := 259) (off := 60) aMi189 rfl rfl rfl rfl (fun hb => ?_) (fun hb => ?_)
    · rw [if_pos (of_decide_eq_true hb)] at h
      refine go_le (lv1 := []) (aLe_of (show (List.map (fun q => q.1) ([] : ALv)).Nodup from (by show ([] : List Nat).Nodup; decide)) aSubL_nil) ?_
      exact (Tf189_b259 hd a0 ha0 a1 ha1 r191_1.2 _ h).mono (fun _ _ hq => qLx_tr tB.refl (by omega) hq)
    · rw [if_neg (of_decide_eq_false hb)] at h
      refine go_ops aMi189 1 _ (f1 := (203, ([(0, .ref a0), (8, .int i8), (9, .int i9)], [.ref a0]))) rfl ?_
      obtain ⟨r203_2, hxr203_2, h⟩ := Option.bind_eq_some_iff.mp h
      refine gg_cv (as := []) (r := []) aMi189 rfl rfl rfl aMi174 (Nat.le_of_ble_eq_true rfl) rfl (Nat.le_of_ble_eq_true rfl) (Nat.le_of_ble_eq_true rfl) (by omega) (isK_of (sh10_z ha0)) (Tf174 (by omega) a0 ha0 r191_1.2 _ hxr203_2) ?_
      show aGo kad d 189 (206, ([(0, .ref a0), (8, .int i8), (9, .int i9)], [.int r203_2.1])) (aMem Z r203_2.2, t) _
      refine gg_br (b := decide (r203_2.1 = 0)) (tg := 259) (off := 53) aMi189 rfl rfl rfl rfl (fun hb => ?_) (fun hb => ?_)
      · rw [if_pos (of_decide_eq_true hb)] at h
        refine go_le (lv1 := []) (aLe_of (show (List.map (fun q => q.1) ([] : ALv)).Nodup from (by show ([] : List Nat).Nodup; decide)) aSubL_nil) ?_
        exact (Tf189_b259 hd a0 ha0 a1 ha1 r203_2.2 _ h).mono (fun _ _ hq => qLx_tr tB.refl (by omega) hq)
      · rw [if_neg (of_decide_eq_false hb)] at h
        refine go_ops aMi189 1 _ (f1 := (210, ([(0, .ref a0), (8, .int i8), (9, .int i9)], [.ref a0]))) rfl ?_
        obtain ⟨r210_3, hxr210_3, h⟩ := Option.bind_eq_some_iff.mp h
        refine gg_cv (as := []) (r := []) aMi189 rfl rfl rfl aMi150 (Nat.le_of_ble_eq_true rfl) rfl (Nat.le_of_ble_eq_true rfl) (Nat.le_of_ble_eq_true rfl) (by omega) (isK_of (sh10_z ha0)) (Tf150 (by omega) a0 ha0 r203_2.2 _ hxr210_3) ?_
        show aGo kad d 189 (213, ([(0, .ref a0), (8, .int i8), (9, .int i9)], [.int r210_3.1])) (aMem Z r210_3.2, t) _
        refine go_ops aMi189 1 _ (f1 := (214, ([(0, .ref a0), (8, .int i8), (9, .int i9)], [.int (1 : Int32), .int r210_3.1]))) rfl ?_
        refine gg_br (b := decide (¬ r210_3.1 = (1 : Int32))) (tg := 259) (off := 45) aMi189 rfl rfl rfl rfl (fun hb => ?_) (fun hb => ?_)
        · rw [if_pos (of_decide_eq_true hb)] at h
          refine go_le (lv1 := []) (aLe_of (show (List.map (fun q => q.1) ([] : ALv)).Nodup from (by show ([] : List Nat).Nodup; decide)) aSubL_nil) ?_
          exact (Tf189_b259 hd a0 ha0 a1 ha1 r210_3.2 _ h).mono (fun _ _ hq => qLx_tr tB.refl (by omega) hq)
        · rw [if_neg (of_decide_eq_false hb)] at h
          refine go_ops aMi189 1 _ (f1 := (218, ([(0, .ref a0), (8, .int i8), (9, .int i9)], [.ref a0]))) rfl ?_
          obtain ⟨r218_4, hxr218_4, h⟩ := Option.bind_eq_some_iff.mp h
          refine gg_cv (as := []) (r := []) aMi189 rfl rfl rfl aMi152 (Nat.le_of_ble_eq_true rfl) rfl (Nat.le_of_ble_eq_true rfl) (Nat.le_of_ble_eq_true rfl) (by omega) (isK_of (sh10_z ha0)) (Tf152 (by omega) a0 ha0 r210_3.2 _ hxr218_4) ?_
          show aGo kad d 189 (221, ([(0, .ref a0), (8, .int i8), (9, .int i9)], [.int r218_4.1])) (aMem Z r218_4.2, t) _
          refine gg_br (b := decide (¬ r218_4.1 = 0)) (tg := 259) (off := 38) aMi189 rfl rfl rfl rfl (fun hb => ?_) (fun hb => ?_)
          · rw [if_pos (of_decide_eq_true hb)] at h
            refine go_le (lv1 := []) (aLe_of (show (List.map (fun q => q.1) ([] : ALv)).Nodup from (by show ([] : List Nat).Nodup; decide)) aSubL_nil) ?_
            exact (Tf189_b259 hd a0 ha0 a1 ha1 r218_4.2 _ h).mono (fun _ _ hq => qLx_tr tB.refl (by omega) hq)
          · rw [if_neg (of_decide_eq_false hb)] at h
            refine go_ops aMi189 1 _ (f1 := (225, ([(0, .ref a0), (8, .int i8), (9, .int i9)], [.ref a0]))) rfl ?_
            obtain ⟨r225_5, hxr225_5, h⟩ := Option.bind_eq_some_iff.mp h
            refine gg_cv (as := []) (r := []) aMi189 rfl rfl rfl aMi153 (Nat.le_of_ble_eq_true rfl) rfl (Nat.le_of_ble_eq_true rfl) (Nat.le_of_ble_eq_true rfl) (by omega) (isK_of (sh10_z ha0)) (Tf153 (by omega) a0 ha0 r218_4.2 _ hxr225_5) ?_
            show aGo kad d 189 (228, ([(0, .ref a0), (8, .int i8), (9, .int i9)], [.int r225_5.1])) (aMem Z r225_5.2, t) _
            refine gg_br (b := decide (¬ r225_5.1 = 0)) (tg := 259) (off := 31) aMi189 rfl rfl rfl rfl (fun hb => ?_) (fun hb => ?_)
            · rw [if_pos (of_decide_eq_true hb)] at h
              refine go_le (lv1 := []) (aLe_of (show (List.map (fun q => q.1) ([] : ALv)).Nodup from (by show ([] : List Nat).Nodup; decide)) aSubL_nil) ?_
              exact (Tf189_b259 hd a0 ha0 a1 ha1 r225_5.2 _ h).mono (fun _ _ hq => qLx_tr tB.refl (by omega) hq)
            · rw [if_neg (of_decide_eq_false hb)] at h
              refine go_ops aMi189 3 _ (f1 := (234, ([(0, .ref a0), (8, .int i8), (9, .int i9)], [.int (0 : Int32), .int (0 : Int32), .ref a0]))) rfl ?_
              obtain ⟨r234_6, hxr234_6, h⟩ := Option.bind_eq_some_iff.mp h
              rcases xB_eq h with ⟨vr234_6, Ir234_6, her234_6, h2⟩ | ⟨Er234_6, Ir234_6, her234_6, h2⟩
              rotate_left
              · clear h
                subst her234_6
                subst h2
                exact gg_cvt (as := [.int (0 : Int32), .int (0 : Int32)]) (r := []) aMi189 rfl rfl rfl aMi169 (Nat.le_of_ble_eq_true rfl) rfl (Nat.le_of_ble_eq_true rfl) (Nat.le_of_ble_eq_true rfl) (by omega) (isK_of (sh10_z ha0)) (Tf169 (by omega) a0 ha0 (0 : Int32) (0 : Int32) r225_5.2 _ hxr234_6) (qLx_thr tB.refl)
              clear h
              subst her234_6
              have h := h2
              clear h2
              refine gg_cv (as := [.int (0 : Int32), .int (0 : Int32)]) (r := []) aMi189 rfl rfl rfl aMi169 (Nat.le_of_ble_eq_true rfl) rfl (Nat.le_of_ble_eq_true rfl) (Nat.le_of_ble_eq_true rfl) (by omega) (isK_of (sh10_z ha0)) (Tf169 (by omega) a0 ha0 (0 : Int32) (0 : Int32) r225_5.2 _ hxr234_6) ?_
              show aGo kad d 189 (237, ([(0, .ref a0), (8, .int i8), (9, .int i9)], [.int vr234_6])) (aMem Z Ir234_6, t) _
              refine gg_br (b := decide (¬ vr234_6 = 0)) (tg := 259) (off := 22) aMi189 rfl rfl rfl rfl (fun hb => ?_) (fun hb => ?_)
              · rw [if_pos (of_decide_eq_true hb)] at h
                refine go_le (lv1 := []) (aLe_of (show (List.map (fun q => q.1) ([] : ALv)).Nodup from (by show ([] : List Nat).Nodup; decide)) aSubL_nil) ?_
                exact (Tf189_b259 hd a0 ha0 a1 ha1 Ir234_6 _ h).mono (fun _ _ hq => qLx_tr tB.refl (by omega) hq)
              · rw [if_neg (of_decide_eq_false hb)] at h
                refine go_ops aMi189 2 _ (f1 := (243, ([(0, .ref a0), (8, .int i8), (9, .int i9)], [.int (8 : Int32), .ref a0]))) rfl ?_
                obtain ⟨r243_7, hxr243_7, h⟩ := Option.bind_eq_some_iff.mp h
                rcases xB_eq h with ⟨vr243_7, Ir243_7, her243_7, h2⟩ | ⟨Er243_7, Ir243_7, her243_7, h2⟩
                rotate_left
                · clear h
                  subst her243_7
                  subst h2
                  exact gg_cvt (as := [.int (8 : Int32)]) (r := []) aMi189 rfl rfl rfl aMi159 (Nat.le_of_ble_eq_true rfl) rfl (Nat.le_of_ble_eq_true rfl) (Nat.le_of_ble_eq_true rfl) (by omega) (isK_of (sh10_z ha0)) (Tf159 (by omega) a0 ha0 (8 : Int32) Ir234_6 _ hxr243_7) (qLx_thr tB.refl)
                clear h
                subst her243_7
                have h := h2
                clear h2
                refine gg_cv (as := [.int (8 : Int32)]) (r := []) aMi189 rfl rfl rfl aMi159 (Nat.le_of_ble_eq_true rfl) rfl (Nat.le_of_ble_eq_true rfl) (Nat.le_of_ble_eq_true rfl) (by omega) (isK_of (sh10_z ha0)) (Tf159 (by omega) a0 ha0 (8 : Int32) Ir234_6 _ hxr243_7) ?_
                show aGo kad d 189 (246, ([(0, .ref a0), (8, .int i8), (9, .int i9)], [.int vr243_7])) (aMem Z Ir243_7, t) _
                refine go_ops aMi189 2 _ (f1 := (249, ([(0, .ref a0), (8, .int i8), (9, .int i9)], [.int (8 : Int32), .ref a0, .int vr243_7]))) rfl ?_
                obtain ⟨r249_8, hxr249_8, h⟩ := Option.bind_eq_some_iff.mp h
                rcases xB_eq h with ⟨vr249_8, Ir249_8, her249_8, h2⟩ | ⟨Er249_8, Ir249_8, her249_8, h2⟩
                rotate_left
                · clear h
                  subst her249_8
                  subst h2
                  exact gg_cvt (as := [.int (8 : Int32)]) (r := [.int vr243_7]) aMi189 rfl rfl rfl aMi137 (Nat.le_of_ble_eq_true rfl) rfl (Nat.le_of_ble_eq_true rfl) (Nat.le_of_ble_eq_true rfl) (by omega) (isK_of (sh10_z ha0)) (Tf137 (by omega) a0 ha0 (8 : Int32) Ir243_7 _ hxr249_8) (qLx_thr tB.refl)
                clear h
                subst her249_8
                have h := h2
                clear h2
                refine gg_cv (as := [.int (8 : Int32)]) (r := [.int vr243_7]) aMi189 rfl rfl rfl aMi137 (Nat.le_of_ble_eq_true rfl) rfl (Nat.le_of_ble_eq_true rfl) (Nat.le_of_ble_eq_true rfl) (by omega) (isK_of (sh10_z ha0)) (Tf137 (by omega) a0 ha0 (8 : Int32) Ir243_7 _ hxr249_8) ?_
                show aGo kad d 189 (252, ([(0, .ref a0), (8, .int i8), (9, .int i9)], [.int vr249_8, .int vr243_7])) (aMem Z Ir249_8, t) _
                refine gg_br (b := decide (¬ vr243_7 = vr249_8)) (tg := 259) (off := 7) aMi189 rfl rfl rfl rfl (fun hb => ?_) (fun hb => ?_)
                · rw [if_pos (of_decide_eq_true hb)] at h
                  refine go_le (lv1 := []) (aLe_of (show (List.map (fun q => q.1) ([] : ALv)).Nodup from (by show ([] : List Nat).Nodup; decide)) aSubL_nil) ?_
                  exact (Tf189_b259 hd a0 ha0 a1 ha1 Ir249_8 _ h).mono (fun _ _ hq => qLx_tr tB.refl (by omega) hq)
                · rw [if_neg (of_decide_eq_false hb)] at h
                  refine go_ops aMi189 2 _ (f1 := (260, ([(0, .ref a0), (8, .int i8), (9, .int i9)], [.int (1 : Int32)]))) rfl ?_
                  refine go_le (lv1 := []) (aLe_of (show (List.map (fun q => q.1) ([] : ALv)).Nodup from (by show ([] : List Nat).Nodup; decide)) aSubL_nil) ?_
                  exact (Tf189_b260 hd a0 ha0 a1 ha1 (1 : Int32) Ir249_8 _ h).mono (fun _ _ hq => qLx_tr tB.refl (by omega) hq)
def f189_b140 (kad : Nat → Nat) (N : Nat) (Z : AZ) (a0 : Nat) (a1 : Nat) (i7 : Int32) (i8 : Int32) (i9 : Int32) (s0 : Int32) (I : AI) : Option ((Int32 ⊕ String) × AI) :=
  if ¬ i9 = (Int32.ofInt (-99999999)) then
    if s0 = 0 then
      f189_b259 kad N Z a0 a1 I
    else
      if ¬ i7 = 0 then
        f189_b187 kad N Z a0 a1 i8 i9 (i7 + (1 : Int32)) i9 I
      else
        f189_b187 kad N Z a0 a1 i8 i9 (0 : Int32) i9 I
  else
    if s0 = 0 then
      f189_b165 kad N Z a0 a1 I
    else
      (f150 kad N Z a0 I).bind fun r155_1 =>
      if ¬ r155_1.1 = 0 then
        f189_b165 kad N Z a0 a1 r155_1.2
      else
        f189_b166 kad N Z a0 a1 (1 : Int32) r155_1.2
set_option maxRecDepth 20000 in
theorem Tf189_b140 {kad : Nat → Nat} {N : Nat} {Z : AZ} {d : Nat} {t : Option Nat × (Nat × Nat)} (hd : 22 ≤ d) : ∀ (a0 : Nat) (ha0 : sh10 kad Z a0) (a1 : Nat) (ha1 : sh10 kad Z a1) (i7 : Int32) (i8 : Int32) (i9 : Int32) (s0 : Int32) (I : AI) (r : (Int32 ⊕ String) × AI), f189_b140 kad N Z a0 a1 i7 i8 i9 s0 I = some r → aGo kad d 189 (140, ([(0, .ref a0), (7, .int i7), (8, .int i8), (9, .int i9)], [.int s0])) (aMem Z I, t) (qLx (1) tvI Z t r) := by
  intro a0 ha0 a1 ha1 i7 i8 i9 s0 I r h
  unfold f189_b140 at h
  refine go_ops aMi189 2 _ (f1 := (144, ([(6, .int s0), (0, .ref a0), (7, .int i7), (8, .int i8), (9, .int i9)], [.int i9]))) rfl ?_
  refine gg_kI (Or.inl ⟨rfl, rfl⟩) aMi189 rfl rfl ?_
  refine gg_br (b := decide (¬ i9 = (Int32.ofInt (-99999999)))) (tg := 167) (off := 21) aMi189 rfl rfl rfl rfl (fun hb => ?_) (fun hb => ?_)
  · rw [if_pos (of_decide_eq_true hb)] at h
    refine go_ops aMi189 1 _ (f1 := (169, ([(6, .int s0), (0, .ref a0), (7, .int i7), (8, .int i8), (9, .int i9)], [.int s0]))) rfl ?_
    refine gg_br (b := decide (s0 = 0)) (tg := 259) (off := 90) aMi189 rfl rfl rfl rfl (fun hb => ?_) (fun hb => ?_)
    · rw [if_pos (of_decide_eq_true hb)] at h
      refine go_le (lv1 := []) (aLe_of (show (List.map (fun q => q.1) ([] : ALv)).Nodup from (by show ([] : List Nat).Nodup; decide)) aSubL_nil) ?_
      exact (Tf189_b259 hd a0 ha0 a1 ha1 I _ h).mono (fun _ _ hq => qLx_tr tB.refl (by omega) hq)
    · rw [if_neg (of_decide_eq_false hb)] at h
      refine go_ops aMi189 2 _ (f1 := (176, ([(6, .int s0), (0, .ref a0), (7, .int i7), (8, .int i8), (9, .int i9)], [.int i7, .int i9]))) rfl ?_
      refine gg_br (b := decide (¬ i7 = 0)) (tg := 183) (off := 7) aMi189 rfl rfl rfl rfl (fun hb => ?_) (fun hb => ?_)
      · rw [if_pos (of_decide_eq_true hb)] at h
        refine go_ops aMi189 3 _ (f1 := (187, ([(6, .int s0), (0, .ref a0), (7, .int i7), (8, .int i8), (9, .int i9)], [.int (i7 + (1 : Int32)), .int i9]))) rfl ?_
        refine go_le (lv1 := [(0, .ref a0), (8, .int i8), (9, .int i9)]) (aLe_of (show (List.map (fun q => q.1) ([(0, .ref a0), (8, .int i8), (9, .int i9)] : ALv)).Nodup from (by show ([0, 8, 9] : List Nat).Nodup; decide)) (aSubL_cons rfl (aSubL_cons rfl (aSubL_cons rfl aSubL_nil)))) ?_
        exact (Tf189_b187 hd a0 ha0 a1 ha1 i8 i9 (i7 + (1 : Int32)) i9 I _ h).mono (fun _ _ hq => qLx_tr tB.refl (by omega) hq)
      · rw [if_neg (of_decide_eq_false hb)] at h
        refine go_ops aMi189 2 _ (f1 := (187, ([(6, .int s0), (0, .ref a0), (7, .int i7), (8, .int i8), (9, .int i9)], [.int (0 : Int32), .int i9]))) rfl ?_
        refine go_le (lv1 := [(0, .ref a0), (8, .int i8), (9, .int i9)]) (aLe_of (show (List.map (fun q => q.1) ([(0, .ref a0), (8, .int i8), (9, .int i9)] : ALv)).Nodup from (by show ([0, 8, 9] : List Nat).Nodup; decide)) (aSubL_cons rfl (aSubL_cons rfl (aSubL_cons rfl aSubL_nil)))) ?_
        exact (Tf189_b187 hd a0 ha0 a1 ha1 i8 i9 (0 : Int32) i9 I _ h).mono (fun _ _ hq => qLx_tr tB.refl (by omega) hq)
  · rw [if_neg (of_decide_eq_false hb)] at h
    refine go_ops aMi189 1 _ (f1 := (151, ([(6, .int s0), (0, .ref a0), (7, .int i7), (8, .int i8), (9, .int i9)], [.int s0]))) rfl ?_
    refine gg_br (b := decide (s0 = 0)) (tg := 165) (off := 14) aMi189 rfl rfl rfl rfl (fun hb => ?_) (fun hb => ?_)
    · rw [if_pos (of_decide_eq_true hb)] at h
      refine go_le (lv1 := []) (aLe_of (show (List.map (fun q => q.1) ([] : ALv)).Nodup from (by show ([] : List Nat).Nodup; decide)) aSubL_nil) ?_
      exact (Tf189_b165 hd a0 ha0 a1 ha1 I _ h).mono (fun _ _ hq => qLx_tr tB.refl (by omega) hq)
    · rw [if_neg (of_decide_eq_false hb)] at h
      refine go_ops aMi189 1 _ (f1 := (155, ([(6, .int s0), (0, .ref a0), (7, .int i7), (8, .int i8), (9, .int i9)], [.ref a0]))) rfl ?_
      obtain ⟨r155_1, hxr155_1, h⟩ := Option.bind_eq_some_iff.mp h
      refine gg_cv (as := []) (r := []) aMi189 rfl rfl rfl aMi150 (Nat.le_of_ble_eq_true rfl) rfl (Nat.le_of_ble_eq_true rfl) (Nat.le_of_ble_eq_true rfl) (by omega) (isK_of (sh10_z ha0)) (Tf150 (by omega) a0 ha0 I _ hxr155_1) ?_
      show aGo kad d 189 (158, ([(6, .int s0), (0, .ref a0), (7, .int i7), (8, .int i8), (9, .int i9)], [.int r155_1.1])) (aMem Z r155_1.2, t) _
      refine gg_br (b := decide (¬ r155_1.1 = 0)) (tg := 165) (off := 7) aMi189 rfl rfl rfl rfl (fun hb => ?_) (fun hb => ?_)
      · rw [if_pos (of_decide_eq_true hb)] at h
        refine go_le (lv1 := []) (aLe_of (show (List.map (fun q => q.1) ([] : ALv)).Nodup from (by show ([] : List Nat).Nodup; decide)) aSubL_nil) ?_
        exact (Tf189_b165 hd a0 ha0 a1 ha1 r155_1.2 _ h).mono (fun _ _ hq => qLx_tr tB.refl (by omega) hq)
      · rw [if_neg (of_decide_eq_false hb)] at h
        refine go_ops aMi189 2 _ (f1 := (166, ([(6, .int s0), (0, .ref a0), (7, .int i7), (8, .int i8), (9, .int i9)], [.int (1 : Int32)]))) rfl ?_
        refine go_le (lv1 := []) (aLe_of (show (List.map (fun q => q.1) ([] : ALv)).Nodup from (by show ([] : List Nat).Nodup; decide)) aSubL_nil) ?_
        exact (Tf189_b166 hd a0 ha0 a1 ha1 (1 : Int32) r155_1.2 _ h).mono (fun _ _ hq => qLx_tr tB.refl (by omega) hq)
def f189_b139 (kad : Nat → Nat) (N : Nat) (Z : AZ) (a0 : Nat) (a1 : Nat) (i7 : Int32) (i8 : Int32) (i9 : Int32) (I : AI) : Option ((Int32 ⊕ String) × AI) :=
  f189_b140 kad N Z a0 a1 i7 i8 i9 (0 : Int32) I
set_option maxRecDepth 20000 in
theorem Tf189_b139 {kad : Nat → Nat} {N : Nat} {Z : AZ} {d : Nat} {t : Option Nat × (Nat × Nat)} (hd : 22 ≤ d) : ∀ (a0 : Nat) (ha0 : sh10 kad Z a0) (a1 : Nat) (ha1 : sh10 kad Z a1) (i7 : Int32) (i8 : Int32) (i9 : Int32) (I : AI) (r : (Int32 ⊕ String) × AI), f189_b139 kad N Z a0 a1 i7 i8 i9 I = some r → aGo kad d 189 (139, ([(0, .ref a0), (7, .int i7), (8, .int i8), (9, .int i9)], [])) (aMem Z I, t) (qLx (1) tvI Z t r) := by
  intro a0 ha0 a1 ha1 i7 i8 i9 I r h
  unfold f189_b139 at h
  refine go_ops aMi189 1 _ (f1 := (140, ([(0, .ref a0), (7, .int i7), (8, .int i8), (9, .int i9)], [.int (0 : Int32)]))) rfl ?_
  exact (Tf189_b140 hd a0 ha0 a1 ha1 i7 i8 i9 (0 : Int32) I _ h).mono (fun _ _ hq => qLx_tr tB.refl (by omega) hq)
def f189_b89 (kad : Nat → Nat) (N : Nat) (Z : AZ) (a0 : Nat) (a1 : Nat) (s0 : Int32) (I : AI) : Option ((Int32 ⊕ String) × AI) :=
  (f169 kad N Z a0 (0 : Int32) (0 : Int32) I).bind fun r94_1 =>
  xB r94_1 fun vr94_1 Ir94_1 =>
  (f168 kad N Z a0 Ir94_1).bind fun r100_2 =>
  (fH1 kad N Z a0 (1 : Int32) (0 : Int32) (0 : Int32) (0 : Int32) (0 : Int32) r100_2.2).bind fun r111_3 =>
  if s0 = 0 then
    f189_b139 kad N Z a0 a1 vr94_1 r100_2.1 r111_3.1 r111_3.2
  else
    (fH1 kad N Z a1 (1 : Int32) (0 : Int32) (0 : Int32) (0 : Int32) (0 : Int32) r111_3.2).bind fun r127_4 =>
    if ¬ r127_4.1 = r111_3.1 then
      f189_b139 kad N Z a0 a1 vr94_1 r100_2.1 r111_3.1 r127_4.2
    else
      f189_b140 kad N Z a0 a1 vr94_1 r100_2.1 r111_3.1 (1 : Int32) r127_4.2
set_option maxRecDepth 20000 in
theorem Tf189_b89 {kad : Nat → Nat} {N : Nat} {Z : AZ} {d : Nat} {t : Option Nat × (Nat × Nat)} (hd : 22 ≤ d) : ∀ (a0 : Nat) (ha0 : sh10 kad Z a0) (a1 : Nat) (ha1 : sh10 kad Z a1) (s0 : Int32) (I : AI) (r : (Int32 ⊕ String) × AI), f189_b89 kad N Z a0 a1 s0 I = some r → aGo kad d 189 (89, ([(0, .ref a0), (1, .ref a1)], [.int s0])) (aMem Z I, t) (qLx (3) tvI Z t r) := by
  intro a0 ha0 a1 ha1 s0 I r h
  unfold f189_b89 at h
  refine go_ops aMi189 4 _ (f1 := (94, ([(6, .int s0), (0, .ref a0), (1, .ref a1)], [.int (0 : Int32), .int (0 : Int32), .ref a0]))) rfl ?_
  obtain ⟨r94_1, hxr94_1, h⟩ := Option.bind_eq_some_iff.mp h
  rcases xB_eq h with ⟨vr94_1, Ir94_1, her94_1, h2⟩ | ⟨Er94_1, Ir94_1, her94_1, h2⟩
  rotate_left
  · clear h
    subst her94_1
    subst h2
    exact gg_cvt (as := [.int (0 : Int32), .int (0 : Int32)]) (r := []) aMi189 rfl rfl rfl aMi169 (Nat.le_of_ble_eq_true rfl) rfl (Nat.le_of_ble_eq_true rfl) (Nat.le_of_ble_eq_true rfl) (by omega) (isK_of (sh10_z ha0)) (Tf169 (by omega) a0 ha0 (0 : Int32) (0 : Int32) I _ hxr94_1) (qLx_thr tB.refl)
  clear h
  subst her94_1
  have h := h2
  clear h2
  refine gg_cv (as := [.int (0 : Int32), .int (0 : Int32)]) (r := []) aMi189 rfl rfl rfl aMi169 (Nat.le_of_ble_eq_true rfl) rfl (Nat.le_of_ble_eq_true rfl) (Nat.le_of_ble_eq_true rfl) (by omega) (isK_of (sh10_z ha0)) (Tf169 (by omega) a0 ha0 (0 : Int32) (0 : Int32) I _ hxr94_1) ?_
  show aGo kad d 189 (97, ([(6, .int s0), (0, .ref a0), (1, .ref a1)], [.int vr94_1])) (aMem Z Ir94_1, t) _
  refine go_ops aMi189 2 _ (f1 := (100, ([(7, .int vr94_1), (6, .int s0), (0, .ref a0), (1, .ref a1)], [.ref a0]))) rfl ?_
  obtain ⟨r100_2, hxr100_2, h⟩ := Option.bind_eq_some_iff.mp h
  refine gg_cv (as := []) (r := []) aMi189 rfl rfl rfl aMi168 (Nat.le_of_ble_eq_true rfl) rfl (Nat.le_of_ble_eq_true rfl) (Nat.le_of_ble_eq_true rfl) (by omega) (isK_of (sh10_z ha0)) (Tf168 (by omega) a0 ha0 Ir94_1 _ hxr100_2) ?_
  show aGo kad d 189 (103, ([(7, .int vr94_1), (6, .int s0), (0, .ref a0), (1, .ref a1)], [.int r100_2.1])) (aMem Z r100_2.2, t) _
  refine go_ops aMi189 7 _ (f1 := (111, ([(8, .int r100_2.1), (7, .int vr94_1), (6, .int s0), (0, .ref a0), (1, .ref a1)], [.int (0 : Int32), .int (0 : Int32), .int (0 : Int32), .int (0 : Int32), .int (1 : Int32), .ref a0]))) rfl ?_
  obtain ⟨r111_3, hxr111_3, h⟩ := Option.bind_eq_some_iff.mp h
  refine gg_hl (as := [.ref a0, .int (1 : Int32), .int (0 : Int32), .int (0 : Int32), .int (0 : Int32), .int (0 : Int32)]) (r := []) aMi189 rfl rfl rfl rfl rfl (Nat.le_of_ble_eq_true rfl) (Nat.le_of_ble_eq_true rfl) (by omega) (TH1 (by omega) a0 ha0 (1 : Int32) (0 : Int32) (0 : Int32) (0 : Int32) (0 : Int32) r100_2.2 _ hxr111_3) (fun t111_3 ht111_3 => ?_)
  show aGo kad d 189 (114, ([(8, .int r100_2.1), (7, .int vr94_1), (6, .int s0), (0, .ref a0), (1, .ref a1)], [.int r111_3.1])) (aMem Z r111_3.2, t111_3) _
  refine go_ops aMi189 2 _ (f1 := (118, ([(9, .int r111_3.1), (8, .int r100_2.1), (7, .int vr94_1), (6, .int s0), (0, .ref a0), (1, .ref a1)], [.int s0]))) rfl ?_
  refine gg_br (b := decide (s0 = 0)) (tg := 139) (off := 21) aMi189 rfl rfl rfl rfl (fun hb => ?_) (fun hb => ?_)
  · rw [if_pos (of_decide_eq_true hb)] at h
    refine go_le (lv1 := [(0, .ref a0), (7, .int vr94_1), (8, .int r100_2.1), (9, .int r111_3.1)]) (aLe_of (show (List.map (fun q => q.1) ([(0, .ref a0), (7, .int vr94_1), (8, .int r100_2.1), (9, .int r111_3.1)] : ALv)).Nodup from (by show ([0, 7, 8, 9] : List Nat).Nodup; decide)) (aSubL_cons rfl (aSubL_cons rfl (aSubL_cons rfl (aSubL_cons rfl aSubL_nil))))) ?_
    exact (Tf189_b139 hd a0 ha0 a1 ha1 vr94_1 r100_2.1 r111_3.1 r111_3.2 _ h).mono (fun _ _ hq => qLx_tr (tB.refl.tr ht111_3) (by omega) hq)
  · rw [if_neg (of_decide_eq_false hb)] at h
    refine go_ops aMi189 6 _ (f1 := (127, ([(9, .int r111_3.1), (8, .int r100_2.1), (7, .int vr94_1), (6, .int s0), (0, .ref a0), (1, .ref a1)], [.int (0 : Int32), .int (0 : Int32), .int (0 : Int32), .int (0 : Int32), .int (1 : Int32), .ref a1]))) rfl ?_
    obtain ⟨r127_4, hxr127_4, h⟩ := Option.bind_eq_some_iff.mp h
    refine gg_hl (as := [.ref a1, .int (1 : Int32), .int (0 : Int32), .int (0 : Int32), .int (0 : Int32), .int (0 : Int32)]) (r := []) aMi189 rfl rfl rfl rfl rfl (Nat.le_of_ble_eq_true rfl) (Nat.le_of_ble_eq_true rfl) (by omega) (TH1 (by omega) a1 ha1 (1 : Int32) (0 : Int32) (0 : Int32) (0 : Int32) (0 : Int32) r111_3.2 _ hxr127_4) (fun t127_4 ht127_4 => ?_)
    show aGo kad d 189 (130, ([(9, .int r111_3.1), (8, .int r100_2.1), (7, .int vr94_1), (6, .int s0), (0, .ref a0), (1, .ref a1)], [.int r127_4.1])) (aMem Z r127_4.2, t127_4) _
    refine go_ops aMi189 1 _ (f1 := (132, ([(9, .int r111_3.1), (8, .int r100_2.1), (7, .int vr94_1), (6, .int s0), (0, .ref a0), (1, .ref a1)], [.int r111_3.1, .int r127_4.1]))) rfl ?_
    refine gg_br (b := decide (¬ r127_4.1 = r111_3.1)) (tg := 139) (off := 7) aMi189 rfl rfl rfl rfl (fun hb => ?_) (fun hb => ?_)
    · rw [if_pos (of_decide_eq_true hb)] at h
      refine go_le (lv1 := [(0, .ref a0), (7, .int vr94_1), (8, .int r100_2.1), (9, .int r111_3.1)]) (aLe_of (show (List.map (fun q => q.1) ([(0, .ref a0), (7, .int vr94_1), (8, .int r100_2.1), (9, .int r111_3.1)] : ALv)).Nodup from (by show ([0, 7, 8, 9] : List Nat).Nodup; decide)) (aSubL_cons rfl (aSubL_cons rfl (aSubL_cons rfl (aSubL_cons rfl aSubL_nil))))) ?_
      exact (Tf189_b139 hd a0 ha0 a1 ha1 vr94_1 r100_2.1 r111_3.1 r127_4.2 _ h).mono (fun _ _ hq => qLx_tr ((tB.refl.tr ht111_3).tr ht127_4) (by omega) hq)
    · rw [if_neg (of_decide_eq_false hb)] at h
      refine go_ops aMi189 2 _ (f1 := (140, ([(9, .int r111_3.1), (8, .int r100_2.1), (7, .int vr94_1), (6, .int s0), (0, .ref a0), (1, .ref a1)], [.int (1 : Int32)]))) rfl ?_
      refine go_le (lv1 := [(0, .ref a0), (7, .int vr94_1), (8, .int r100_2.1), (9, .int r111_3.1)]) (aLe_of (show (List.map (fun q => q.1) ([(0, .ref a0), (7, .int vr94_1), (8, .int r100_2.1), (9, .int r111_3.1)] : ALv)).Nodup from (by show ([0, 7, 8, 9] : List Nat).Nodup; decide)) (aSubL_cons rfl (aSubL_cons rfl (aSubL_cons rfl (aSubL_cons rfl aSubL_nil))))) ?_
      exact (Tf189_b140 hd a0 ha0 a1 ha1 vr94_1 r100_2.1 r111_3.1 (1 : Int32) r127_4.2 _ h).mono (fun _ _ hq => qLx_tr ((tB.refl.tr ht111_3).tr ht127_4) (by omega) hq)
def f189_b88 (kad : Nat → Nat) (N : Nat) (Z : AZ) (a0 : Nat) (a1 : Nat) (I : AI) : Option ((Int32 ⊕ String) × AI) :=
  f189_b89 kad N Z a0 a1 (0 : Int32) I
set_option maxRecDepth 20000 in
theorem Tf189_b88 {kad : Nat → Nat} {N : Nat} {Z : AZ} {d : Nat} {t : Option Nat × (Nat × Nat)} (hd : 22 ≤ d) : ∀ (a0 : Nat) (ha0 : sh10 kad Z a0) (a1 : Nat) (ha1 : sh10 kad Z a1) (I : AI) (r : (Int32 ⊕ String) × AI), f189_b88 kad N Z a0 a1 I = some r → aGo kad d 189 (88, ([(0, .ref a0), (1, .ref a1)], [])) (aMem Z I, t) (qLx (3) tvI Z t r) := by
  intro a0 ha0 a1 ha1 I r h
  unfold f189_b88 at h
  refine go_ops aMi189 1 _ (f1 := (89, ([(0, .ref a0), (1, .ref a1)], [.int (0 : Int32)]))) rfl ?_
  exact (Tf189_b89 hd a0 ha0 a1 ha1 (0 : Int32) I _ h).mono (fun _ _ hq => qLx_tr tB.refl (by omega) hq)
def f189_b57 (kad : Nat → Nat) (N : Nat) (Z : AZ) (a0 : Nat) (a1 : Nat) (i3 : Int32) (i4 : Int32) (I : AI) : Option ((Int32 ⊕ String) × AI) :=
  (f150 kad N Z a0 I).bind fun r58_1 =>
  if ¬ r58_1.1 = 0 then
    f189_b88 kad N Z a0 a1 r58_1.2
  else
    (f169 kad N Z a0 (8 : Int32) (0 : Int32) r58_1.2).bind fun r68_2 =>
    xB r68_2 fun vr68_2 Ir68_2 =>
    if ¬ vr68_2 = i3 then
      f189_b88 kad N Z a0 a1 Ir68_2
    else
      (f170 kad N Z a0 Ir68_2).bind fun r76_3 =>
      if ¬ r76_3.1 = i4 then
        f189_b88 kad N Z a0 a1 r76_3.2
      else
        f189_b89 kad N Z a0 a1 (1 : Int32) r76_3.2
set_option maxRecDepth 20000 in
theorem Tf189_b57 {kad : Nat → Nat} {N : Nat} {Z : AZ} {d : Nat} {t : Option Nat × (Nat × Nat)} (hd : 22 ≤ d) : ∀ (a0 : Nat) (ha0 : sh10 kad Z a0) (a1 : Nat) (ha1 : sh10 kad Z a1) (i3 : Int32) (i4 : Int32) (I : AI) (r : (Int32 ⊕ String) × AI), f189_b57 kad N Z a0 a1 i3 i4 I = some r → aGo kad d 189 (57, ([(0, .ref a0), (1, .ref a1), (3, .int i3), (4, .int i4)], [])) (aMem Z I, t) (qLx (3) tvI Z t r) := by
  intro a0 ha0 a1 ha1 i3 i4 I r h
  unfold f189_b57 at h
  refine go_ops aMi189 1 _ (f1 := (58, ([(0, .ref a0), (1, .ref a1), (3, .int i3), (4, .int i4)], [.ref a0]))) rfl ?_
  obtain ⟨r58_1, hxr58_1, h⟩ := Option.bind_eq_some_iff.mp h
  refine gg_cv (as := []) (r := []) aMi189 rfl rfl rfl aMi150 (Nat.le_of_ble_eq_true rfl) rfl (Nat.le_of_ble_eq_true rfl) (Nat.le_of_ble_eq_true rfl) (by omega) (isK_of (sh10_z ha0)) (Tf150 (by omega) a0 ha0 I _ hxr58_1) ?_
  show aGo kad d 189 (61, ([(0, .ref a0), (1, .ref a1), (3, .int i3), (4, .int i4)], [.int r58_1.1])) (aMem Z r58_1.2, t) _
  refine gg_br (b := decide (¬ r58_1.1 = 0)) (tg := 88) (off := 27) aMi189 rfl rfl rfl rfl (fun hb => ?_) (fun hb => ?_)
  · rw [if_pos (of_decide_eq_true hb)] at h
    refine go_le (lv1 := [(0, .ref a0), (1, .ref a1)]) (aLe_of (show (List.map (fun q => q.1) ([(0, .ref a0), (1, .ref a1)] : ALv)).Nodup from (by show ([0, 1] : List Nat).Nodup; decide)) (aSubL_cons rfl (aSubL_cons rfl aSubL_nil))) ?_
    exact (Tf189_b88 hd a0 ha0 a1 ha1 r58_1.2 _ h).mono (fun _ _ hq => qLx_tr tB.refl (by omega) hq)
  · rw [if_neg (of_decide_eq_false hb)] at h
    refine go_ops aMi189 3 _ (f1 := (68, ([(0, .ref a0), (1, .ref a1), (3, .int i3), (4, .int i4)], [.int (0 : Int32), .int (8 : Int32), .ref a0]))) rfl ?_
    obtain ⟨r68_2, hxr68_2, h⟩ := Option.bind_eq_some_iff.mp h
    rcases xB_eq h with ⟨vr68_2, Ir68_2, her68_2, h2⟩ | ⟨Er68_2, Ir68_2, her68_2, h2⟩
    rotate_left
    · clear h
      subst her68_2
      subst h2
      exact gg_cvt (as := [.int (8 : Int32), .int (0 : Int32)]) (r := []) aMi189 rfl rfl rfl aMi169 (Nat.le_of_ble_eq_true rfl) rfl (Nat.le_of_ble_eq_true rfl) (Nat.le_of_ble_eq_true rfl) (by omega) (isK_of (sh10_z ha0)) (Tf169 (by omega) a0 ha0 (8 : Int32) (0 : Int32) r58_1.2 _ hxr68_2) (qLx_thr tB.refl)
    clear h
    subst her68_2
    have h := h2
    clear h2
    refine gg_cv (as := [.int (8 : Int32), .int (0 : Int32)]) (r := []) aMi189 rfl rfl rfl aMi169 (Nat.le_of_ble_eq_true rfl) rfl (Nat.le_of_ble_eq_true rfl) (Nat.le_of_ble_eq_true rfl) (by omega) (isK_of (sh10_z ha0)) (Tf169 (by omega) a0 ha0 (8 : Int32) (0 : Int32) r58_1.2 _ hxr68_2) ?_
    show aGo kad d 189 (71, ([(0, .ref a0), (1, .ref a1), (3, .int i3), (4, .int i4)], [.int vr68_2])) (aMem Z Ir68_2, t) _
    refine go_ops aMi189 1 _ (f1 := (72, ([(0, .ref a0), (1, .ref a1), (3, .int i3), (4, .int i4)], [.int i3, .int vr68_2]))) rfl ?_
    refine gg_br (b := decide (¬ vr68_2 = i3)) (tg := 88) (off := 16) aMi189 rfl rfl rfl rfl (fun hb => ?_) (fun hb => ?_)
    · rw [if_pos (of_decide_eq_true hb)] at h
      refine go_le (lv1 := [(0, .ref a0), (1, .ref a1)]) (aLe_of (show (List.map (fun q => q.1) ([(0, .ref a0), (1, .ref a1)] : ALv)).Nodup from (by show ([0, 1] : List Nat).Nodup; decide)) (aSubL_cons rfl (aSubL_cons rfl aSubL_nil))) ?_
      exact (Tf189_b88 hd a0 ha0 a1 ha1 Ir68_2 _ h).mono (fun _ _ hq => qLx_tr tB.refl (by omega) hq)
    · rw [if_neg (of_decide_eq_false hb)] at h
      refine go_ops aMi189 1 _ (f1 := (76, ([(0, .ref a0), (1, .ref a1), (3, .int i3), (4, .int i4)], [.ref a0]))) rfl ?_
      obtain ⟨r76_3, hxr76_3, h⟩ := Option.bind_eq_some_iff.mp h
      refine gg_cv (as := []) (r := []) aMi189 rfl rfl rfl aMi170 (Nat.le_of_ble_eq_true rfl) rfl (Nat.le_of_ble_eq_true rfl) (Nat.le_of_ble_eq_true rfl) (by omega) (isK_of (sh10_z ha0)) (Tf170 (by omega) a0 ha0 Ir68_2 _ hxr76_3) ?_
      show aGo kad d 189 (79, ([(0, .ref a0), (1, .ref a1), (3, .int i3), (4, .int i4)], [.int r76_3.1])) (aMem Z r76_3.2, t) _
      refine go_ops aMi189 1 _ (f1 := (81, ([(0, .ref a0), (1, .ref a1), (3, .int i3), (4, .int i4)], [.int i4, .int r76_3.1]))) rfl ?_
      refine gg_br (b := decide (¬ r76_3.1 = i4)) (tg := 88) (off := 7) aMi189 rfl rfl rfl rfl (fun hb => ?_) (fun hb => ?_)
      · rw [if_pos (of_decide_eq_true hb)] at h
        refine go_le (lv1 := [(0, .ref a0), (1, .ref a1)]) (aLe_of (show (List.map (fun q => q.1) ([(0, .ref a0), (1, .ref a1)] : ALv)).Nodup from (by show ([0, 1] : List Nat).Nodup; decide)) (aSubL_cons rfl (aSubL_cons rfl aSubL_nil))) ?_
        exact (Tf189_b88 hd a0 ha0 a1 ha1 r76_3.2 _ h).mono (fun _ _ hq => qLx_tr tB.refl (by omega) hq)
      · rw [if_neg (of_decide_eq_false hb)] at h
        refine go_ops aMi189 2 _ (f1 := (89, ([(0, .ref a0), (1, .ref a1), (3, .int i3), (4, .int i4)], [.int (1 : Int32)]))) rfl ?_
        refine go_le (lv1 := [(0, .ref a0), (1, .ref a1)]) (aLe_of (show (List.map (fun q => q.1) ([(0, .ref a0), (1, .ref a1)] : ALv)).Nodup from (by show ([0, 1] : List Nat).Nodup; decide)) (aSubL_cons rfl (aSubL_cons rfl aSubL_nil))) ?_
        exact (Tf189_b89 hd a0 ha0 a1 ha1 (1 : Int32) r76_3.2 _ h).mono (fun _ _ hq => qLx_tr tB.refl (by omega) hq)
def f189 (kad : Nat → Nat) (N : Nat) (Z : AZ) (a0 : Nat) (a1 : Nat) (I : AI) : Option ((Int32 ⊕ String) × AI) :=
  (f152 kad N Z a0 I).bind fun r1_1 =>
  (f169 kad N Z a0 (8 : Int32) (0 : Int32) r1_1.2).bind fun r9_2 =>
  xB r9_2 fun vr9_2 Ir9_2 =>
  (f170 kad N Z a0 Ir9_2).bind fun r14_3 =>
  (fH1 kad N Z a0 (2 : Int32) (0 : Int32) (0 : Int32) (0 : Int32) (0 : Int32) r14_3.2).bind fun r25_4 =>
  (fH1 kad N Z a1 (2 : Int32) (0 : Int32) (0 : Int32) (0 : Int32) (0 : Int32) r25_4.2).bind fun r36_5 =>
  if ¬ r36_5.1 = r25_4.1 then
    f189_b88 kad N Z a0 a1 r36_5.2
  else
    if r25_4.1 = (Int32.ofInt (-99999999)) then
      f189_b57 kad N Z a0 a1 vr9_2 r14_3.1 r36_5.2
    else
      if ¬ r25_4.1 = r1_1.1 then
        f189_b88 kad N Z a0 a1 r36_5.2
      else
        f189_b57 kad N Z a0 a1 vr9_2 r14_3.1 r36_5.2
set_option maxRecDepth 20000 in
theorem Tf189 {kad : Nat → Nat} {N : Nat} {Z : AZ} {d : Nat} {t : Option Nat × (Nat × Nat)} (hd : 22 ≤ d) : ∀ (a0 : Nat) (ha0 : sh10 kad Z a0) (a1 : Nat) (ha1 : sh10 kad Z a1) (I : AI) (r : (Int32 ⊕ String) × AI), f189 kad N Z a0 a1 I = some r → aGo kad d 189 (0, ([(0, .ref a0), (1, .ref a1)], [])) (aMem Z I, t) (qLx (5) tvI Z t r) := by
  intro a0 ha0 a1 ha1 I r h
  unfold f189 at h
  refine go_ops aMi189 1 _ (f1 := (1, ([(0, .ref a0), (1, .ref a1)], [.ref a0]))) rfl ?_
  obtain ⟨r1_1, hxr1_1, h⟩ := Option.bind_eq_some_iff.mp h
  refine gg_cv (as := []) (r := []) aMi189 rfl rfl rfl aMi152 (Nat.le_of_ble_eq_true rfl) rfl (Nat.le_of_ble_eq_true rfl) (Nat.le_of_ble_eq_true rfl) (by omega) (isK_of (sh10_z ha0)) (Tf152 (by omega) a0 ha0 I _ hxr1_1) ?_
  show aGo kad d 189 (4, ([(0, .ref a0), (1, .ref a1)], [.int r1_1.1])) (aMem Z r1_1.2, t) _
  refine go_ops aMi189 4 _ (f1 := (9, ([(2, .int r1_1.1), (0, .ref a0), (1, .ref a1)], [.int (0 : Int32), .int (8 : Int32), .ref a0]))) rfl ?_
  obtain ⟨r9_2, hxr9_2, h⟩ := Option.bind_eq_some_iff.mp h
  rcases xB_eq h with ⟨vr9_2, Ir9_2, her9_2, h2⟩ | ⟨Er9_2, Ir9_2, her9_2, h2⟩
  rotate_left
  · clear h
    subst her9_2
    subst h2
    exact gg_cvt (as := [.int (8 : Int32), .int (0 : Int32)]) (r := []) aMi189 rfl rfl rfl aMi169 (Nat.le_of_ble_eq_true rfl) rfl (Nat.le_of_ble_eq_true rfl) (Nat.le_of_ble_eq_true rfl) (by omega) (isK_of (sh10_z ha0)) (Tf169 (by omega) a0 ha0 (8 : Int32) (0 : Int32) r1_1.2 _ hxr9_2) (qLx_thr tB.refl)
  clear h
  subst her9_2
  have h := h2
  clear h2
  refine gg_cv (as := [.int (8 : Int32), .int (0 : Int32)]) (r := []) aMi189 rfl rfl rfl aMi169 (Nat.le_of_ble_eq_true rfl) rfl (Nat.le_of_ble_eq_true rfl) (Nat.le_of_ble_eq_true rfl) (by omega) (isK_of (sh10_z ha0)) (Tf169 (by omega) a0 ha0 (8 : Int32) (0 : Int32) r1_1.2 _ hxr9_2) ?_
  show aGo kad d 189 (12, ([(2, .int r1_1.1), (0, .ref a0), (1, .ref a1)], [.int vr9_2])) (aMem Z Ir9_2, t) _
  refine go_ops aMi189 2 _ (f1 := (14, ([(3, .int vr9_2), (2, .int r1_1.1), (0, .ref a0), (1, .ref a1)], [.ref a0]))) rfl ?_
  obtain ⟨r14_3, hxr14_3, h⟩ := Option.bind_eq_some_iff.mp h
  refine gg_cv (as := []) (r := []) aMi189 rfl rfl rfl aMi170 (Nat.le_of_ble_eq_true rfl) rfl (Nat.le_of_ble_eq_true rfl) (Nat.le_of_ble_eq_true rfl) (by omega) (isK_of (sh10_z ha0)) (Tf170 (by omega) a0 ha0 Ir9_2 _ hxr14_3) ?_
  show aGo kad d 189 (17, ([(3, .int vr9_2), (2, .int r1_1.1), (0, .ref a0), (1, .ref a1)], [.int r14_3.1])) (aMem Z r14_3.2, t) _
  refine go_ops aMi189 7 _ (f1 := (25, ([(4, .int r14_3.1), (3, .int vr9_2), (2, .int r1_1.1), (0, .ref a0), (1, .ref a1)], [.int (0 : Int32), .int (0 : Int32), .int (0 : Int32), .int (0 : Int32), .int (2 : Int32), .ref a0]))) rfl ?_
  obtain ⟨r25_4, hxr25_4, h⟩ := Option.bind_eq_some_iff.mp h
  refine gg_hl (as := [.ref a0, .int (2 : Int32), .int (0 : Int32), .int (0 : Int32), .int (0 : Int32), .int (0 : Int32)]) (r := []) aMi189 rfl rfl rfl rfl rfl (Nat.le_of_ble_eq_true rfl) (Nat.le_of_ble_eq_true rfl) (by omega) (TH1 (by omega) a0 ha0 (2 : Int32) (0 : Int32) (0 : Int32) (0 : Int32) (0 : Int32) r14_3.2 _ hxr25_4) (fun t25_4 ht25_4 => ?_)
  show aGo kad d 189 (28, ([(4, .int r14_3.1), (3, .int vr9_2), (2, .int r1_1.1), (0, .ref a0), (1, .ref a1)], [.int r25_4.1])) (aMem Z r25_4.2, t25_4) _
  refine go_ops aMi189 7 _ (f1 := (36, ([(5, .int r25_4.1), (4, .int r14_3.1), (3, .int vr9_2), (2, .int r1_1.1), (0, .ref a0), (1, .ref a1)], [.int (0 : Int32), .int (0 : Int32), .int (0 : Int32), .int (0 : Int32), .int (2 : Int32), .ref a1]))) rfl ?_
  obtain ⟨r36_5, hxr36_5, h⟩ := Option.bind_eq_some_iff.mp h
  refine gg_hl (as := [.ref a1, .int (2 : Int32), .int (0 : Int32), .int (0 : Int32), .int (0 : Int32), .int (0 : Int32)]) (r := []) aMi189 rfl rfl rfl rfl rfl (Nat.le_of_ble_eq_true rfl) (Nat.le_of_ble_eq_true rfl) (by omega) (TH1 (by omega) a1 ha1 (2 : Int32) (0 : Int32) (0 : Int32) (0 : Int32) (0 : Int32) r25_4.2 _ hxr36_5) (fun t36_5 ht36_5 => ?_)
  show aGo kad d 189 (39, ([(5, .int r25_4.1), (4, .int r14_3.1), (3, .int vr9_2), (2, .int r1_1.1), (0, .ref a0), (1, .ref a1)], [.int r36_5.1])) (aMem Z r36_5.2, t36_5) _
  refine go_ops aMi189 1 _ (f1 := (41, ([(5, .int r25_4.1), (4, .int r14_3.1), (3, .int vr9_2), (2, .int r1_1.1), (0, .ref a0), (1, .ref a1)], [.int r25_4.1, .int r36_5.1]))) rfl ?_
  refine gg_br (b := decide (¬ r36_5.1 = r25_4.1)) (tg := 88) (off := 47) aMi189 rfl rfl rfl rfl (fun hb => ?_) (fun hb => ?_)
  · rw [if_pos (of_decide_eq_true hb)] at h
    refine go_le (lv1 := [(0, .ref a0), (1, .ref a1)]) (aLe_of (show (List.map (fun q => q.1) ([(0, .ref a0), (1, .ref a1)] : ALv)).Nodup from (by show ([0, 1] : List Nat).Nodup; decide)) (aSubL_cons rfl (aSubL_cons rfl aSubL_nil))) ?_
    exact (Tf189_b88 hd a0 ha0 a1 ha1 r36_5.2 _ h).mono (fun _ _ hq => qLx_tr ((tB.refl.tr ht25_4).tr ht36_5) (by omega) hq)
  · rw [if_neg (of_decide_eq_false hb)] at h
    refine go_ops aMi189 1 _ (f1 := (46, ([(5, .int r25_4.1), (4, .int r14_3.1), (3, .int vr9_2), (2, .int r1_1.1), (0, .ref a0), (1, .ref a1)], [.int r25_4.1]))) rfl ?_
    refine gg_kI (Or.inl ⟨rfl, rfl⟩) aMi189 rfl rfl ?_
    refine gg_br (b := decide (r25_4.1 = (Int32.ofInt (-99999999)))) (tg := 57) (off := 9) aMi189 rfl rfl rfl rfl (fun hb => ?_) (fun hb => ?_)
    · rw [if_pos (of_decide_eq_true hb)] at h
      refine go_le (lv1 := [(0, .ref a0), (1, .ref a1), (3, .int vr9_2), (4, .int r14_3.1)]) (aLe_of (show (List.map (fun q => q.1) ([(0, .ref a0), (1, .ref a1), (3, .int vr9_2), (4, .int r14_3.1)] : ALv)).Nodup from (by show ([0, 1, 3, 4] : List Nat).Nodup; decide)) (aSubL_cons rfl (aSubL_cons rfl (aSubL_cons rfl (aSubL_cons rfl aSubL_nil))))) ?_
      exact (Tf189_b57 hd a0 ha0 a1 ha1 vr9_2 r14_3.1 r36_5.2 _ h).mono (fun _ _ hq => qLx_tr ((tB.refl.tr ht25_4).tr ht36_5) (by omega) hq)
    · rw [if_neg (of_decide_eq_false hb)] at h
      refine go_ops aMi189 2 _ (f1 := (54, ([(5, .int r25_4.1), (4, .int r14_3.1), (3, .int vr9_2), (2, .int r1_1.1), (0, .ref a0), (1, .ref a1)], [.int r1_1.1, .int r25_4.1]))) rfl ?_
      refine gg_br (b := decide (¬ r25_4.1 = r1_1.1)) (tg := 88) (off := 34) aMi189 rfl rfl rfl rfl (fun hb => ?_) (fun hb => ?_)
      · rw [if_pos (of_decide_eq_true hb)] at h
        refine go_le (lv1 := [(0, .ref a0), (1, .ref a1)]) (aLe_of (show (List.map (fun q => q.1) ([(0, .ref a0), (1, .ref a1)] : ALv)).Nodup from (by show ([0, 1] : List Nat).Nodup; decide)) (aSubL_cons rfl (aSubL_cons rfl aSubL_nil))) ?_
        exact (Tf189_b88 hd a0 ha0 a1 ha1 r36_5.2 _ h).mono (fun _ _ hq => qLx_tr ((tB.refl.tr ht25_4).tr ht36_5) (by omega) hq)
      · rw [if_neg (of_decide_eq_false hb)] at h
        refine go_le (lv1 := [(0, .ref a0), (1, .ref a1), (3, .int vr9_2), (4, .int r14_3.1)]) (aLe_of (show (List.map (fun q => q.1) ([(0, .ref a0), (1, .ref a1), (3, .int vr9_2), (4, .int r14_3.1)] : ALv)).Nodup from (by show ([0, 1, 3, 4] : List Nat).Nodup; decide)) (aSubL_cons rfl (aSubL_cons rfl (aSubL_cons rfl (aSubL_cons rfl aSubL_nil))))) ?_
        exact (Tf189_b57 hd a0 ha0 a1 ha1 vr9_2 r14_3.1 r36_5.2 _ h).mono (fun _ _ hq => qLx_tr ((tB.refl.tr ht25_4).tr ht36_5) (by omega) hq)
-- KernelGymLaw.isSourceSo (LKernelGym;LKernelGym;)Z
def f190_b132 (kad : Nat → Nat) (N : Nat) (Z : AZ) (a0 : Nat) (a1 : Nat) (s0 : Int32) (I : AI) : Option ((Int32 ⊕ String) × AI) :=
  if s0 = 0 ∨ s0 = 1 then some (.inl s0, I) else none
set_option maxRecDepth 20000 in
theorem Tf190_b132 {kad : Nat → Nat} {N : Nat} {Z : AZ} {d : Nat} {t : Option Nat × (Nat × Nat)} (hd : 22 ≤ d) : ∀ (a0 : Nat) (ha0 : sh10 kad Z a0) (a1 : Nat) (ha1 : sh10 kad Z a1) (s0 : Int32) (I : AI) (r : (Int32 ⊕ String) × AI), f190_b132 kad N Z a0 a1 s0 I = some r → aGo kad d 190 (132, ([], [.int s0])) (aMem Z I, t) (qLx (0) tvI Z t r) := by
  intro a0 ha0 a1 ha1 s0 I r h
  unfold f190_b132 at h
  split at h
  · rename_i hz
    cases h
    exact go_ret aMi190 rfl (aRetZ hz) (qLx_ret tB.refl)
  · cases h
def f190_b127 (kad : Nat → Nat) (N : Nat) (Z : AZ) (a0 : Nat) (a1 : Nat) (I : AI) : Option ((Int32 ⊕ String) × AI) :=
  f190_b132 kad N Z a0 a1 (1 : Int32) I
set_option maxRecDepth 20000 in
theorem Tf190_b127 {kad : Nat → Nat} {N : Nat} {Z : AZ} {d : Nat} {t : Option Nat × (Nat × Nat)} (hd : 22 ≤ d) : ∀ (a0 : Nat) (ha0 : sh10 kad Z a0) (a1 : Nat) (ha1 : sh10 kad Z a1) (I : AI) (r : (Int32 ⊕ String) × AI), f190_b127 kad N Z a0 a1 I = some r → aGo kad d 190 (127, ([], [])) (aMem Z I, t) (qLx (0) tvI Z t r) := by
  intro a0 ha0 a1 ha1 I r h
  unfold f190_b127 at h
  refine go_ops aMi190 2 _ (f1 := (132, ([], [.int (1 : Int32)]))) rfl ?_
  exact (Tf190_b132 hd a0 ha0 a1 ha1 (1 : Int32) I _ h).mono (fun _ _ hq => qLx_tr tB.refl (by omega) hq)
def f190_b131 (kad : Nat → Nat) (N : Nat) (Z : AZ) (a0 : Nat) (a1 : Nat) (I : AI) : Option ((Int32 ⊕ String) × AI) :=
  f190_b132 kad N Z a0 a1 (0 : Int32) I
set_option maxRecDepth 20000 in
theorem Tf190_b131 {kad : Nat → Nat} {N : Nat} {Z : AZ} {d : Nat} {t : Option Nat × (Nat × Nat)} (hd : 22 ≤ d) : ∀ (a0 : Nat) (ha0 : sh10 kad Z a0) (a1 : Nat) (ha1 : sh10 kad Z a1) (I : AI) (r : (Int32 ⊕ String) × AI), f190_b131 kad N Z a0 a1 I = some r → aGo kad d 190 (131, ([], [])) (aMem Z I, t) (qLx (0) tvI Z t r) := by
  intro a0 ha0 a1 ha1 I r h
  unfold f190_b131 at h
  refine go_ops aMi190 1 _ (f1 := (132, ([], [.int (0 : Int32)]))) rfl ?_
  exact (Tf190_b132 hd a0 ha0 a1 ha1 (0 : Int32) I _ h).mono (fun _ _ hq => qLx_tr tB.refl (by omega) hq)
def f190_b120 (kad : Nat → Nat) (N : Nat) (Z : AZ) (a0 : Nat) (a1 : Nat) (I : AI) : Option ((Int32 ⊕ String) × AI) :=
  (f135 kad N Z a0 I).bind fun r121_1 =>
  if ¬ r121_1.1 = 0 then
    f190_b131 kad N Z a0 a1 r121_1.2
  else
    f190_b127 kad N Z a0 a1 r121_1.2
set_option maxRecDepth 20000 in
theorem Tf190_b120 {kad : Nat → Nat} {N : Nat} {Z : AZ} {d : Nat} {t : Option Nat × (Nat × Nat)} (hd : 22 ≤ d) : ∀ (a0 : Nat) (ha0 : sh10 kad Z a0) (a1 : Nat) (ha1 : sh10 kad Z a1) (I : AI) (r : (Int32 ⊕ String) × AI), f190_b120 kad N Z a0 a1 I = some r → aGo kad d 190 (120, ([(0, .ref a0)], [])) (aMem Z I, t) (qLx (0) tvI Z t r) := by
  intro a0 ha0 a1 ha1 I r h
  unfold f190_b120 at h
  refine go_ops aMi190 1 _ (f1 := (121, ([(0, .ref a0)], [.ref a0]))) rfl ?_
  obtain ⟨r121_1, hxr121_1, h⟩ := Option.bind_eq_some_iff.mp h
  refine gg_cv (as := []) (r := []) aMi190 rfl rfl rfl aMi135 (Nat.le_of_ble_eq_true rfl) rfl (Nat.le_of_ble_eq_true rfl) (Nat.le_of_ble_eq_true rfl) (by omega) (isK_of (sh10_z ha0)) (Tf135 (by omega) a0 ha0 I _ hxr121_1) ?_
  show aGo kad d 190 (124, ([(0, .ref a0)], [.int r121_1.1])) (aMem Z r121_1.2, t) _
  refine gg_br (b := decide (¬ r121_1.1 = 0)) (tg := 131) (off := 7) aMi190 rfl rfl rfl rfl (fun hb => ?_) (fun hb => ?_)
  · rw [if_pos (of_decide_eq_true hb)] at h
    refine go_le (lv1 := []) (aLe_of (show (List.map (fun q => q.1) ([] : ALv)).Nodup from (by show ([] : List Nat).Nodup; decide)) aSubL_nil) ?_
    exact (Tf190_b131 hd a0 ha0 a1 ha1 r121_1.2 _ h).mono (fun _ _ hq => qLx_tr tB.refl (by omega) hq)
  · rw [if_neg (of_decide_eq_false hb)] at h
    refine go_le (lv1 := []) (aLe_of (show (List.map (fun q => q.1) ([] : ALv)).Nodup from (by show ([] : List Nat).Nodup; decide)) aSubL_nil) ?_
    exact (Tf190_b127 hd a0 ha0 a1 ha1 r121_1.2 _ h).mono (fun _ _ hq => qLx_tr tB.refl (by omega) hq)
def f190_b84 (kad : Nat → Nat) (N : Nat) (Z : AZ) (a0 : Nat) (a1 : Nat) (i3 : Int32) (s0 : Int32) (I : AI) : Option ((Int32 ⊕ String) × AI) :=
  if s0 = 0 then
    f190_b131 kad N Z a0 a1 I
  else
    if i3 < 0 then
      f190_b127 kad N Z a0 a1 I
    else
      if (248 : Int32) < i3 then
        f190_b131 kad N Z a0 a1 I
      else
        if (247 : Int32) < i3 then
          f190_b120 kad N Z a0 a1 I
        else
          (f137 kad N Z a0 ((8 : Int32) + i3) I).bind fun r114_1 =>
          xB r114_1 fun vr114_1 Ir114_1 =>
          if ¬ vr114_1 = 0 then
            f190_b131 kad N Z a0 a1 Ir114_1
          else
            f190_b120 kad N Z a0 a1 Ir114_1
set_option maxRecDepth 20000 in
theorem Tf190_b84 {kad : Nat → Nat} {N : Nat} {Z : AZ} {d : Nat} {t : Option Nat × (Nat × Nat)} (hd : 22 ≤ d) : ∀ (a0 : Nat) (ha0 : sh10 kad Z a0) (a1 : Nat) (ha1 : sh10 kad Z a1) (i3 : Int32) (s0 : Int32) (I : AI) (r : (Int32 ⊕ String) × AI), f190_b84 kad N Z a0 a1 i3 s0 I = some r → aGo kad d 190 (84, ([(0, .ref a0), (3, .int i3)], [.int s0])) (aMem Z I, t) (qLx (1) tvI Z t r) := by
  intro a0 ha0 a1 ha1 i3 s0 I r h
  unfold f190_b84 at h
  refine go_ops aMi190 2 _ (f1 := (88, ([(4, .int s0), (0, .ref a0), (3, .int i3)], [.int s0]))) rfl ?_
  refine gg_br (b := decide (s0 = 0)) (tg := 131) (off := 43) aMi190 rfl rfl rfl rfl (fun hb => ?_) (fun hb => ?_)
  · rw [if_pos (of_decide_eq_true hb)] at h
    refine go_le (lv1 := []) (aLe_of (show (List.map (fun q => q.1) ([] : ALv)).Nodup from (by show ([] : List Nat).Nodup; decide)) aSubL_nil) ?_
    exact (Tf190_b131 hd a0 ha0 a1 ha1 I _ h).mono (fun _ _ hq => qLx_tr tB.refl (by omega) hq)
  · rw [if_neg (of_decide_eq_false hb)] at h
    refine go_ops aMi190 1 _ (f1 := (92, ([(4, .int s0), (0, .ref a0), (3, .int i3)], [.int i3]))) rfl ?_
    refine gg_br (b := decide (i3 < 0)) (tg := 127) (off := 35) aMi190 rfl rfl rfl rfl (fun hb => ?_) (fun hb => ?_)
    · rw [if_pos (of_decide_eq_true hb)] at h
      refine go_le (lv1 := []) (aLe_of (show (List.map (fun q => q.1) ([] : ALv)).Nodup from (by show ([] : List Nat).Nodup; decide)) aSubL_nil) ?_
      exact (Tf190_b127 hd a0 ha0 a1 ha1 I _ h).mono (fun _ _ hq => qLx_tr tB.refl (by omega) hq)
    · rw [if_neg (of_decide_eq_false hb)] at h
      refine go_ops aMi190 2 _ (f1 := (99, ([(4, .int s0), (0, .ref a0), (3, .int i3)], [.int (248 : Int32), .int i3]))) rfl ?_
      refine gg_br (b := decide ((248 : Int32) < i3)) (tg := 131) (off := 32) aMi190 rfl rfl rfl rfl (fun hb => ?_) (fun hb => ?_)
      · rw [if_pos (of_decide_eq_true hb)] at h
        refine go_le (lv1 := []) (aLe_of (show (List.map (fun q => q.1) ([] : ALv)).Nodup from (by show ([] : List Nat).Nodup; decide)) aSubL_nil) ?_
        exact (Tf190_b131 hd a0 ha0 a1 ha1 I _ h).mono (fun _ _ hq => qLx_tr tB.refl (by omega) hq)
      · rw [if_neg (of_decide_eq_false hb)] at h
        refine go_ops aMi190 2 _ (f1 := (106, ([(4, .int s0), (0, .ref a0), (3, .int i3)], [.int (247 : Int32), .int i3]))) rfl ?_
        refine gg_br (b := decide ((247 : Int32) < i3)) (tg := 120) (off := 14) aMi190 rfl rfl rfl rfl (fun hb => ?_) (fun hb => ?_)
        · rw [if_pos (of_decide_eq_true hb)] at h
          refine go_le (lv1 := [(0, .ref a0)]) (aLe_of (show (List.map (fun q => q.1) ([(0, .ref a0)] : ALv)).Nodup from (by show ([0] : List Nat).Nodup; decide)) (aSubL_cons rfl aSubL_nil)) ?_
          exact (Tf190_b120 hd a0 ha0 a1 ha1 I _ h).mono (fun _ _ hq => qLx_tr tB.refl (by omega) hq)
        · rw [if_neg (of_decide_eq_false hb)] at h
          refine go_ops aMi190 4 _ (f1 := (114, ([(4, .int s0), (0, .ref a0), (3, .int i3)], [.int ((8 : Int32) + i3), .ref a0]))) rfl ?_
          obtain ⟨r114_1, hxr114_1, h⟩ := Option.bind_eq_some_iff.mp h
          rcases xB_eq h with ⟨vr114_1, Ir114_1, her114_1, h2⟩ | ⟨Er114_1, Ir114_1, her114_1, h2⟩
          rotate_left
          · clear h
            subst her114_1
            subst h2
            exact gg_cvt (as := [.int ((8 : Int32) + i3)]) (r := []) aMi190 rfl rfl rfl aMi137 (Nat.le_of_ble_eq_true rfl) rfl (Nat.le_of_ble_eq_true rfl) (Nat.le_of_ble_eq_true rfl) (by omega) (isK_of (sh10_z ha0)) (Tf137 (by omega) a0 ha0 ((8 : Int32) + i3) I _ hxr114_1) (qLx_thr tB.refl)
          clear h
          subst her114_1
          have h := h2
          clear h2
          refine gg_cv (as := [.int ((8 : Int32) + i3)]) (r := []) aMi190 rfl rfl rfl aMi137 (Nat.le_of_ble_eq_true rfl) rfl (Nat.le_of_ble_eq_true rfl) (Nat.le_of_ble_eq_true rfl) (by omega) (isK_of (sh10_z ha0)) (Tf137 (by omega) a0 ha0 ((8 : Int32) + i3) I _ hxr114_1) ?_
          show aGo kad d 190 (117, ([(4, .int s0), (0, .ref a0), (3, .int i3)], [.int vr114_1])) (aMem Z Ir114_1, t) _
          refine gg_br (b := decide (¬ vr114_1 = 0)) (tg := 131) (off := 14) aMi190 rfl rfl rfl rfl (fun hb => ?_) (fun hb => ?_)
          · rw [if_pos (of_decide_eq_true hb)] at h
            refine go_le (lv1 := []) (aLe_of (show (List.map (fun q => q.1) ([] : ALv)).Nodup from (by show ([] : List Nat).Nodup; decide)) aSubL_nil) ?_
            exact (Tf190_b131 hd a0 ha0 a1 ha1 Ir114_1 _ h).mono (fun _ _ hq => qLx_tr tB.refl (by omega) hq)
          · rw [if_neg (of_decide_eq_false hb)] at h
            refine go_le (lv1 := [(0, .ref a0)]) (aLe_of (show (List.map (fun q => q.1) ([(0, .ref a0)] : ALv)).Nodup from (by show ([0] : List Nat).Nodup; decide)) (aSubL_cons rfl aSubL_nil)) ?_
            exact (Tf190_b120 hd a0 ha0 a1 ha1 Ir114_1 _ h).mono (fun _ _ hq => qLx_tr tB.refl (by omega) hq)
def f190_b79 (kad : Nat → Nat) (N : Nat) (Z : AZ) (a0 : Nat) (a1 : Nat) (i3 : Int32) (I : AI) : Option ((Int32 ⊕ String) × AI) :=
  f190_b84 kad N Z a0 a1 i3 (1 : Int32) I
set_option maxRecDepth 20000 in
theorem Tf190_b79 {kad : Nat → Nat} {N : Nat} {Z : AZ} {d : Nat} {t : Option Nat × (Nat × Nat)} (hd : 22 ≤ d) : ∀ (a0 : Nat) (ha0 : sh10 kad Z a0) (a1 : Nat) (ha1 : sh10 kad Z a1) (i3 : Int32) (I : AI) (r : (Int32 ⊕ String) × AI), f190_b79 kad N Z a0 a1 i3 I = some r → aGo kad d 190 (79, ([(0, .ref a0), (3, .int i3)], [])) (aMem Z I, t) (qLx (1) tvI Z t r) := by
  intro a0 ha0 a1 ha1 i3 I r h
  unfold f190_b79 at h
  refine go_ops aMi190 2 _ (f1 := (84, ([(0, .ref a0), (3, .int i3)], [.int (1 : Int32)]))) rfl ?_
  exact (Tf190_b84 hd a0 ha0 a1 ha1 i3 (1 : Int32) I _ h).mono (fun _ _ hq => qLx_tr tB.refl (by omega) hq)
def f190_b83 (kad : Nat → Nat) (N : Nat) (Z : AZ) (a0 : Nat) (a1 : Nat) (i3 : Int32) (I : AI) : Option ((Int32 ⊕ String) × AI) :=
  f190_b84 kad N Z a0 a1 i3 (0 : Int32) I
set_option maxRecDepth 20000 in
theorem Tf190_b83 {kad : Nat → Nat} {N : Nat} {Z : AZ} {d : Nat} {t : Option Nat × (Nat × Nat)} (hd : 22 ≤ d) : ∀ (a0 : Nat) (ha0 : sh10 kad Z a0) (a1 : Nat) (ha1 : sh10 kad Z a1) (i3 : Int32) (I : AI) (r : (Int32 ⊕ String) × AI), f190_b83 kad N Z a0 a1 i3 I = some r → aGo kad d 190 (83, ([(0, .ref a0), (3, .int i3)], [])) (aMem Z I, t) (qLx (1) tvI Z t r) := by
  intro a0 ha0 a1 ha1 i3 I r h
  unfold f190_b83 at h
  refine go_ops aMi190 1 _ (f1 := (84, ([(0, .ref a0), (3, .int i3)], [.int (0 : Int32)]))) rfl ?_
  exact (Tf190_b84 hd a0 ha0 a1 ha1 i3 (0 : Int32) I _ h).mono (fun _ _ hq => qLx_tr tB.refl (by omega) hq)
def f190_b48 (kad : Nat → Nat) (N : Nat) (Z : AZ) (a0 : Nat) (a1 : Nat) (i2 : Int32) (i3 : Int32) (s0 : Int32) (s1 : Int32) (I : AI) : Option ((Int32 ⊕ String) × AI) :=
  if ¬ s1 = s0 then
    f190_b83 kad N Z a0 a1 i3 I
  else
    if i2 = 0 then
      f190_b79 kad N Z a0 a1 i3 I
    else
      if i2 < (100 : Int32) then
        f190_b83 kad N Z a0 a1 i3 I
      else
        if (800 : Int32) ≤ i2 then
          f190_b83 kad N Z a0 a1 i3 I
        else
          (f125 kad N Z a0 I).bind fun r73_1 =>
          if r73_1.1 ≤ (i2 - i2 / (100 : Int32) * (100 : Int32)) then
            f190_b83 kad N Z a0 a1 i3 r73_1.2
          else
            f190_b79 kad N Z a0 a1 i3 r73_1.2
set_option maxRecDepth 20000 in
theorem Tf190_b48 {kad : Nat → Nat} {N : Nat} {Z : AZ} {d : Nat} {t : Option Nat × (Nat × Nat)} (hd : 22 ≤ d) : ∀ (a0 : Nat) (ha0 : sh10 kad Z a0) (a1 : Nat) (ha1 : sh10 kad Z a1) (i2 : Int32) (i3 : Int32) (s0 : Int32) (s1 : Int32) (I : AI) (r : (Int32 ⊕ String) × AI), f190_b48 kad N Z a0 a1 i2 i3 s0 s1 I = some r → aGo kad d 190 (48, ([(0, .ref a0), (2, .int i2), (3, .int i3)], [.int s0, .int s1])) (aMem Z I, t) (qLx (1) tvI Z t r) := by
  intro a0 ha0 a1 ha1 i2 i3 s0 s1 I r h
  unfold f190_b48 at h
  refine gg_br (b := decide (¬ s1 = s0)) (tg := 83) (off := 35) aMi190 rfl rfl rfl rfl (fun hb => ?_) (fun hb => ?_)
  · rw [if_pos (of_decide_eq_true hb)] at h
    refine go_le (lv1 := [(0, .ref a0), (3, .int i3)]) (aLe_of (show (List.map (fun q => q.1) ([(0, .ref a0), (3, .int i3)] : ALv)).Nodup from (by show ([0, 3] : List Nat).Nodup; decide)) (aSubL_cons rfl (aSubL_cons rfl aSubL_nil))) ?_
    exact (Tf190_b83 hd a0 ha0 a1 ha1 i3 I _ h).mono (fun _ _ hq => qLx_tr tB.refl (by omega) hq)
  · rw [if_neg (of_decide_eq_false hb)] at h
    refine go_ops aMi190 1 _ (f1 := (52, ([(0, .ref a0), (2, .int i2), (3, .int i3)], [.int i2]))) rfl ?_
    refine gg_br (b := decide (i2 = 0)) (tg := 79) (off := 27) aMi190 rfl rfl rfl rfl (fun hb => ?_) (fun hb => ?_)
    · rw [if_pos (of_decide_eq_true hb)] at h
      refine go_le (lv1 := [(0, .ref a0), (3, .int i3)]) (aLe_of (show (List.map (fun q => q.1) ([(0, .ref a0), (3, .int i3)] : ALv)).Nodup from (by show ([0, 3] : List Nat).Nodup; decide)) (aSubL_cons rfl (aSubL_cons rfl aSubL_nil))) ?_
      exact (Tf190_b79 hd a0 ha0 a1 ha1 i3 I _ h).mono (fun _ _ hq => qLx_tr tB.refl (by omega) hq)
    · rw [if_neg (of_decide_eq_false hb)] at h
      refine go_ops aMi190 2 _ (f1 := (58, ([(0, .ref a0), (2, .int i2), (3, .int i3)], [.int (100 : Int32), .int i2]))) rfl ?_
      refine gg_br (b := decide (i2 < (100 : Int32))) (tg := 83) (off := 25) aMi190 rfl rfl rfl rfl (fun hb => ?_) (fun hb => ?_)
      · rw [if_pos (of_decide_eq_true hb)] at h
        refine go_le (lv1 := [(0, .ref a0), (3, .int i3)]) (aLe_of (show (List.map (fun q => q.1) ([(0, .ref a0), (3, .int i3)] : ALv)).Nodup from (by show ([0, 3] : List Nat).Nodup; decide)) (aSubL_cons rfl (aSubL_cons rfl aSubL_nil))) ?_
        exact (Tf190_b83 hd a0 ha0 a1 ha1 i3 I _ h).mono (fun _ _ hq => qLx_tr tB.refl (by omega) hq)
      · rw [if_neg (of_decide_eq_false hb)] at h
        refine go_ops aMi190 2 _ (f1 := (65, ([(0, .ref a0), (2, .int i2), (3, .int i3)], [.int (800 : Int32), .int i2]))) rfl ?_
        refine gg_br (b := decide ((800 : Int32) ≤ i2)) (tg := 83) (off := 18) aMi190 rfl rfl rfl rfl (fun hb => ?_) (fun hb => ?_)
        · rw [if_pos (of_decide_eq_true hb)] at h
          refine go_le (lv1 := [(0, .ref a0), (3, .int i3)]) (aLe_of (show (List.map (fun q => q.1) ([(0, .ref a0), (3, .int i3)] : ALv)).Nodup from (by show ([0, 3] : List Nat).Nodup; decide)) (aSubL_cons rfl (aSubL_cons rfl aSubL_nil))) ?_
          exact (Tf190_b83 hd a0 ha0 a1 ha1 i3 I _ h).mono (fun _ _ hq => qLx_tr tB.refl (by omega) hq)
        · rw [if_neg (of_decide_eq_false hb)] at h
          refine go_ops aMi190 4 _ (f1 := (73, ([(0, .ref a0), (2, .int i2), (3, .int i3)], [.ref a0, .int (i2 - i2 / (100 : Int32) * (100 : Int32))]))) rfl ?_
          obtain ⟨r73_1, hxr73_1, h⟩ := Option.bind_eq_some_iff.mp h
          refine gg_cv (as := []) (r := [.int (i2 - i2 / (100 : Int32) * (100 : Int32))]) aMi190 rfl rfl rfl aMi125 (Nat.le_of_ble_eq_true rfl) rfl (Nat.le_of_ble_eq_true rfl) (Nat.le_of_ble_eq_true rfl) (by omega) (isK_of (sh10_z ha0)) (Tf125 (by omega) a0 ha0 I _ hxr73_1) ?_
          show aGo kad d 190 (76, ([(0, .ref a0), (2, .int i2), (3, .int i3)], [.int r73_1.1, .int (i2 - i2 / (100 : Int32) * (100 : Int32))])) (aMem Z r73_1.2, t) _
          refine gg_br (b := decide (r73_1.1 ≤ (i2 - i2 / (100 : Int32) * (100 : Int32)))) (tg := 83) (off := 7) aMi190 rfl rfl rfl rfl (fun hb => ?_) (fun hb => ?_)
          · rw [if_pos (of_decide_eq_true hb)] at h
            refine go_le (lv1 := [(0, .ref a0), (3, .int i3)]) (aLe_of (show (List.map (fun q => q.1) ([(0, .ref a0), (3, .int i3)] : ALv)).Nodup from (by show ([0, 3] : List Nat).Nodup; decide)) (aSubL_cons rfl (aSubL_cons rfl aSubL_nil))) ?_
            exact (Tf190_b83 hd a0 ha0 a1 ha1 i3 r73_1.2 _ h).mono (fun _ _ hq => qLx_tr tB.refl (by omega) hq)
          · rw [if_neg (of_decide_eq_false hb)] at h
            refine go_le (lv1 := [(0, .ref a0), (3, .int i3)]) (aLe_of (show (List.map (fun q => q.1) ([(0, .ref a0), (3, .int i3)] : ALv)).Nodup from (by show ([0, 3] : List Nat).Nodup; decide)) (aSubL_cons rfl (aSubL_cons rfl aSubL_nil))) ?_
            exact (Tf190_b79 hd a0 ha0 a1 ha1 i3 r73_1.2 _ h).mono (fun _ _ hq => qLx_tr tB.refl (by omega) hq)
def f190_b39 (kad : Nat → Nat) (N : Nat) (Z : AZ) (a0 : Nat) (a1 : Nat) (i2 : Int32) (i3 : Int32) (s0 : Int32) (I : AI) : Option ((Int32 ⊕ String) × AI) :=
  if i2 ≤ 0 then
    f190_b48 kad N Z a0 a1 i2 i3 (0 : Int32) s0 I
  else
    f190_b48 kad N Z a0 a1 i2 i3 (1 : Int32) s0 I
set_option maxRecDepth 20000 in
theorem Tf190_b39 {kad : Nat → Nat} {N : Nat} {Z : AZ} {d : Nat} {t : Option Nat × (Nat × Nat)} (hd : 22 ≤ d) : ∀ (a0 : Nat) (ha0 : sh10 kad Z a0) (a1 : Nat) (ha1 : sh10 kad Z a1) (i2 : Int32) (i3 : Int32) (s0 : Int32) (I : AI) (r : (Int32 ⊕ String) × AI), f190_b39 kad N Z a0 a1 i2 i3 s0 I = some r → aGo kad d 190 (39, ([(0, .ref a0), (2, .int i2), (3, .int i3)], [.int s0])) (aMem Z I, t) (qLx (1) tvI Z t r) := by
  intro a0 ha0 a1 ha1 i2 i3 s0 I r h
  unfold f190_b39 at h
  refine go_ops aMi190 1 _ (f1 := (40, ([(0, .ref a0), (2, .int i2), (3, .int i3)], [.int i2, .int s0]))) rfl ?_
  refine gg_br (b := decide (i2 ≤ 0)) (tg := 47) (off := 7) aMi190 rfl rfl rfl rfl (fun hb => ?_) (fun hb => ?_)
  · rw [if_pos (of_decide_eq_true hb)] at h
    refine go_ops aMi190 1 _ (f1 := (48, ([(0, .ref a0), (2, .int i2), (3, .int i3)], [.int (0 : Int32), .int s0]))) rfl ?_
    exact (Tf190_b48 hd a0 ha0 a1 ha1 i2 i3 (0 : Int32) s0 I _ h).mono (fun _ _ hq => qLx_tr tB.refl (by omega) hq)
  · rw [if_neg (of_decide_eq_false hb)] at h
    refine go_ops aMi190 2 _ (f1 := (48, ([(0, .ref a0), (2, .int i2), (3, .int i3)], [.int (1 : Int32), .int s0]))) rfl ?_
    exact (Tf190_b48 hd a0 ha0 a1 ha1 i2 i3 (1 : Int32) s0 I _ h).mono (fun _ _ hq => qLx_tr tB.refl (by omega) hq)
def f190 (kad : Nat → Nat) (N : Nat) (Z : AZ) (a0 : Nat) (a1 : Nat) (I : AI) : Option ((Int32 ⊕ String) × AI) :=
  (f135 kad N Z a0 I).bind fun r1_1 =>
  (fH1 kad N Z a0 (0 : Int32) (0 : Int32) (0 : Int32) (0 : Int32) (0 : Int32) r1_1.2).bind fun r11_2 =>
  (fH1 kad N Z a1 (0 : Int32) (0 : Int32) (0 : Int32) (0 : Int32) (0 : Int32) r11_2.2).bind fun r21_3 =>
  if ¬ r21_3.1 = r11_2.1 then
    f190_b83 kad N Z a0 a1 r11_2.1 r21_3.2
  else
    if ¬ r11_2.1 = (Int32.ofInt (-99999999)) then
      f190_b39 kad N Z a0 a1 r1_1.1 r11_2.1 (0 : Int32) r21_3.2
    else
      f190_b39 kad N Z a0 a1 r1_1.1 r11_2.1 (1 : Int32) r21_3.2
set_option maxRecDepth 20000 in
theorem Tf190 {kad : Nat → Nat} {N : Nat} {Z : AZ} {d : Nat} {t : Option Nat × (Nat × Nat)} (hd : 22 ≤ d) : ∀ (a0 : Nat) (ha0 : sh10 kad Z a0) (a1 : Nat) (ha1 : sh10 kad Z a1) (I : AI) (r : (Int32 ⊕ String) × AI), f190 kad N Z a0 a1 I = some r → aGo kad d 190 (0, ([(0, .ref a0), (1, .ref a1)], [])) (aMem Z I, t) (qLx (3) tvI Z t r) := by
  intro a0 ha0 a1 ha1 I r h
  unfold f190 at h
  refine go_ops aMi190 1 _ (f1 := (1, ([(0, .ref a0), (1, .ref a1)], [.ref a0]))) rfl ?_
  obtain ⟨r1_1, hxr1_1, h⟩ := Option.bind_eq_some_iff.mp h
  refine gg_cv (as := []) (r := []) aMi190 rfl rfl rfl aMi135 (Nat.le_of_ble_eq_true rfl) rfl (Nat.le_of_ble_eq_true rfl) (Nat.le_of_ble_eq_true rfl) (by omega) (isK_of (sh10_z ha0)) (Tf135 (by omega) a0 ha0 I _ hxr1_1) ?_
  show aGo kad d 190 (4, ([(0, .ref a0), (1, .ref a1)], [.int r1_1.1])) (aMem Z r1_1.2, t) _
  refine go_ops aMi190 7 _ (f1 := (11, ([(2, .int r1_1.1), (0, .ref a0), (1, .ref a1)], [.int (0 : Int32), .int (0 : Int32), .int (0 : Int32), .int (0 : Int32), .int (0 : Int32), .ref a0]))) rfl ?_
  obtain ⟨r11_2, hxr11_2, h⟩ := Option.bind_eq_some_iff.mp h
  refine gg_hl (as := [.ref a0, .int (0 : Int32), .int (0 : Int32), .int (0 : Int32), .int (0 : Int32), .int (0 : Int32)]) (r := []) aMi190 rfl rfl rfl rfl rfl (Nat.le_of_ble_eq_true rfl) (Nat.le_of_ble_eq_true rfl) (by omega) (TH1 (by omega) a0 ha0 (0 : Int32) (0 : Int32) (0 : Int32) (0 : Int32) (0 : Int32) r1_1.2 _ hxr11_2) (fun t11_2 ht11_2 => ?_)
  show aGo kad d 190 (14, ([(2, .int r1_1.1), (0, .ref a0), (1, .ref a1)], [.int r11_2.1])) (aMem Z r11_2.2, t11_2) _
  refine go_ops aMi190 7 _ (f1 := (21, ([(3, .int r11_2.1), (2, .int r1_1.1), (0, .ref a0), (1, .ref a1)], [.int (0 : Int32), .int (0 : Int32), .int (0 : Int32), .int (0 : Int32), .int (0 : Int32), .ref a1]))) rfl ?_
  obtain ⟨r21_3, hxr21_3, h⟩ := Option.bind_eq_some_iff.mp h
  refine gg_hl (as := [.ref a1, .int (0 : Int32), .int (0 : Int32), .int (0 : Int32), .int (0 : Int32), .int (0 : Int32)]) (r := []) aMi190 rfl rfl rfl rfl rfl (Nat.le_of_ble_eq_true rfl) (Nat.le_of_ble_eq_true rfl) (by omega) (TH1 (by omega) a1 ha1 (0 : Int32) (0 : Int32) (0 : Int32) (0 : Int32) (0 : Int32) r11_2.2 _ hxr21_3) (fun t21_3 ht21_3 => ?_)
  show aGo kad d 190 (24, ([(3, .int r11_2.1), (2, .int r1_1.1), (0, .ref a0), (1, .ref a1)], [.int r21_3.1])) (aMem Z r21_3.2, t21_3) _
  refine go_ops aMi190 1 _ (f1 := (25, ([(3, .int r11_2.1), (2, .int r1_1.1), (0, .ref a0), (1, .ref a1)], [.int r11_2.1, .int r21_3.1]))) rfl ?_
  refine gg_br (b := decide (¬ r21_3.1 = r11_2.1)) (tg := 83) (off := 58) aMi190 rfl rfl rfl rfl (fun hb => ?_) (fun hb => ?_)
  · rw [if_pos (of_decide_eq_true hb)] at h
    refine go_le (lv1 := [(0, .ref a0), (3, .int r11_2.1)]) (aLe_of (show (List.map (fun q => q.1) ([(0, .ref a0), (3, .int r11_2.1)] : ALv)).Nodup from (by show ([0, 3] : List Nat).Nodup; decide)) (aSubL_cons rfl (aSubL_cons rfl aSubL_nil))) ?_
    exact (Tf190_b83 hd a0 ha0 a1 ha1 r11_2.1 r21_3.2 _ h).mono (fun _ _ hq => qLx_tr ((tB.refl.tr ht11_2).tr ht21_3) (by omega) hq)
  · rw [if_neg (of_decide_eq_false hb)] at h
    refine go_ops aMi190 1 _ (f1 := (29, ([(3, .int r11_2.1), (2, .int r1_1.1), (0, .ref a0), (1, .ref a1)], [.int r11_2.1]))) rfl ?_
    refine gg_kI (Or.inl ⟨rfl, rfl⟩) aMi190 rfl rfl ?_
    refine gg_br (b := decide (¬ r11_2.1 = (Int32.ofInt (-99999999)))) (tg := 38) (off := 7) aMi190 rfl rfl rfl rfl (fun hb => ?_) (fun hb => ?_)
    · rw [if_pos (of_decide_eq_true hb)] at h
      refine go_ops aMi190 1 _ (f1 := (39, ([(3, .int r11_2.1), (2, .int r1_1.1), (0, .ref a0), (1, .ref a1)], [.int (0 : Int32)]))) rfl ?_
      refine go_le (lv1 := [(0, .ref a0), (2, .int r1_1.1), (3, .int r11_2.1)]) (aLe_of (show (List.map (fun q => q.1) ([(0, .ref a0), (2, .int r1_1.1), (3, .int r11_2.1)] : ALv)).Nodup from (by show ([0, 2, 3] : List Nat).Nodup; decide)) (aSubL_cons rfl (aSubL_cons rfl (aSubL_cons rfl aSubL_nil)))) ?_
      exact (Tf190_b39 hd a0 ha0 a1 ha1 r1_1.1 r11_2.1 (0 : Int32) r21_3.2 _ h).mono (fun _ _ hq => qLx_tr ((tB.refl.tr ht11_2).tr ht21_3) (by omega) hq)
    · rw [if_neg (of_decide_eq_false hb)] at h
      refine go_ops aMi190 2 _ (f1 := (39, ([(3, .int r11_2.1), (2, .int r1_1.1), (0, .ref a0), (1, .ref a1)], [.int (1 : Int32)]))) rfl ?_
      refine go_le (lv1 := [(0, .ref a0), (2, .int r1_1.1), (3, .int r11_2.1)]) (aLe_of (show (List.map (fun q => q.1) ([(0, .ref a0), (2, .int r1_1.1), (3, .int r11_2.1)] : ALv)).Nodup from (by show ([0, 2, 3] : List Nat).Nodup; decide)) (aSubL_cons rfl (aSubL_cons rfl (aSubL_cons rfl aSubL_nil)))) ?_
      exact (Tf190_b39 hd a0 ha0 a1 ha1 r1_1.1 r11_2.1 (1 : Int32) r21_3.2 _ h).mono (fun _ _ hq => qLx_tr ((tB.refl.tr ht11_2).tr ht21_3) (by omega) hq)
