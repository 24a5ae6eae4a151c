-- KernelGymModel.formats ()V
def f254_b2 (kad : Nat → Nat) (N : Nat) (Z : AZ) : Nat → Nat → Int32 → AI → Option (Unit × AI)
  | 0, _, _, _ => none
  | F + 1, a0, i1, I =>
    if (256 : Int32) ≤ i1 then
      (ixA 256 (32 : Int32)).bind fun j31_2 =>
      (wI I (a0 + 24) j31_2 (255 : Int32)).bind fun I31_1 =>
      (wI I31_1 a0 52 (0 : Int32)).bind fun I34_3 =>
      some ((), I34_3)
    else
      (ixA 256 i1).bind fun j15_5 =>
      (wI I (a0 + 24) j15_5 (0 : Int32)).bind fun I15_4 =>
      f254_b2 kad N Z F a0 (i1 + (1 : Int32)) I15_4
set_option maxRecDepth 20000 in
theorem Tf254_b2 {kad : Nat → Nat} {N : Nat} {Z : AZ} {d : Nat} {t : Option Nat × (Nat × Nat)} (hd : 0 ≤ d) : ∀ (F : Nat) (a0 : Nat) (ha0 : sh11 kad Z a0) (i1 : Int32) (I : AI) (r : Unit × AI), f254_b2 kad N Z F a0 i1 I = some r → aGo kad d 254 (2, ([(0, .ref a0), (1, .int i1)], [])) (aMem Z I, t) (qV Z t r) := by
  intro F
  induction F with
  | zero => intro a0 ha0 i1 I r h; cases h
  | succ F ih =>
    intro a0 ha0 i1 I r h
    unfold f254_b2 at h
    refine go_ops aMi254 2 _ (f1 := (6, ([(0, .ref a0), (1, .int i1)], [.int (256 : Int32), .int i1]))) rfl ?_
    refine gg_br (b := decide ((256 : Int32) ≤ i1)) (tg := 22) (off := 16) aMi254 rfl rfl rfl rfl (fun hb => ?_) (fun hb => ?_)
    · rw [if_pos (of_decide_eq_true hb)] at h
      refine go_ops aMi254 1 _ (f1 := (23, ([(0, .ref a0), (1, .int i1)], [.ref a0]))) rfl ?_
      refine gg_gR (b := (a0 + 24)) aMi254 rfl rfl rfl (gR_of (sh11_z ha0) (sh11_r50 ha0)) ?_
      refine go_ops aMi254 2 _ (f1 := (31, ([(0, .ref a0), (1, .int i1)], [.int (255 : Int32), .int (32 : Int32), .ref (a0 + 24)]))) rfl ?_
      obtain ⟨j31_2, hxj31_2, h⟩ := Option.bind_eq_some_iff.mp h
      obtain ⟨I31_1, hxI31_1, h⟩ := Option.bind_eq_some_iff.mp h
      refine gg_sI (Or.inl ⟨rfl, rfl⟩) aMi254 rfl (sI_of (sh11_a50 ha0) hxj31_2 hxI31_1) ?_
      refine go_ops aMi254 2 _ (f1 := (34, ([(0, .ref a0), (1, .int i1)], [.int (0 : Int32), .ref a0]))) rfl ?_
      obtain ⟨I34_3, hxI34_3, h⟩ := Option.bind_eq_some_iff.mp h
      refine gg_pI aMi254 rfl rfl rfl rfl (by decide) (pI_of (sh11_z ha0) hxI34_3) ?_
      cases h
      exact go_ret aMi254 rfl rfl ⟨rfl, rfl⟩
    · rw [if_neg (of_decide_eq_false hb)] at h
      refine go_ops aMi254 1 _ (f1 := (10, ([(0, .ref a0), (1, .int i1)], [.ref a0]))) rfl ?_
      refine gg_gR (b := (a0 + 24)) aMi254 rfl rfl rfl (gR_of (sh11_z ha0) (sh11_r50 ha0)) ?_
      refine go_ops aMi254 2 _ (f1 := (15, ([(0, .ref a0), (1, .int i1)], [.int (0 : Int32), .int i1, .ref (a0 + 24)]))) rfl ?_
      obtain ⟨j15_5, hxj15_5, h⟩ := Option.bind_eq_some_iff.mp h
      obtain ⟨I15_4, hxI15_4, h⟩ := Option.bind_eq_some_iff.mp h
      refine gg_sI (Or.inl ⟨rfl, rfl⟩) aMi254 rfl (sI_of (sh11_a50 ha0) hxj15_5 hxI15_4) ?_
      refine go_ops aMi254 2 _ (f1 := (2, ([(1, .int (i1 + (1 : Int32))), (0, .ref a0)], []))) rfl ?_
      refine go_le (lv1 := [(0, .ref a0), (1, .int (i1 + (1 : Int32)))]) (aLe_of (show (List.map (fun q => q.1) ([(0, .ref a0), (1, .int (i1 + (1 : Int32)))] : ALv)).Nodup from (by show ([0, 1] : List Nat).Nodup; decide)) (aSubL_cons rfl (aSubL_cons rfl aSubL_nil))) ?_
      exact ih a0 ha0 (i1 + (1 : Int32)) I15_4 _ h
def f254 (kad : Nat → Nat) (N : Nat) (Z : AZ) (a0 : Nat) (I : AI) : Option (Unit × AI) :=
  f254_b2 kad N Z N a0 (0 : Int32) I
set_option maxRecDepth 20000 in
theorem Tf254 {kad : Nat → Nat} {N : Nat} {Z : AZ} {d : Nat} {t : Option Nat × (Nat × Nat)} (hd : 0 ≤ d) : ∀ (a0 : Nat) (ha0 : sh11 kad Z a0) (I : AI) (r : Unit × AI), f254 kad N Z a0 I = some r → aGo kad d 254 (0, ([(0, .ref a0)], [])) (aMem Z I, t) (qV Z t r) := by
  intro a0 ha0 I r h
  unfold f254 at h
  refine go_ops aMi254 2 _ (f1 := (2, ([(1, .int (0 : Int32)), (0, .ref a0)], []))) rfl ?_
  refine go_le (lv1 := [(0, .ref a0), (1, .int (0 : Int32))]) (aLe_of (show (List.map (fun q => q.1) ([(0, .ref a0), (1, .int (0 : Int32))] : ALv)).Nodup from (by show ([0, 1] : List Nat).Nodup; decide)) (aSubL_cons rfl (aSubL_cons rfl aSubL_nil))) ?_
  exact Tf254_b2 hd N a0 ha0 (0 : Int32) I _ h
-- KernelGymModel.copies ([I[I)V
def f255_b2 (kad : Nat → Nat) (N : Nat) (Z : AZ) : Nat → Nat → Nat → Int32 → AI → Option (Unit × AI)
  | 0, _, _, _, _ => none
  | F + 1, b0, b1, i2, I =>
    if (256 : Int32) ≤ i2 then
      some ((), I)
    else
      (lI Z I 100 b0 i2).bind fun x13_1 =>
      (sI Z I 100 b1 i2 x13_1).bind fun I14_2 =>
      f255_b2 kad N Z F b0 b1 (i2 + (1 : Int32)) I14_2
set_option maxRecDepth 20000 in
theorem Tf255_b2 {kad : Nat → Nat} {N : Nat} {Z : AZ} {d : Nat} {t : Option Nat × (Nat × Nat)} (hd : 0 ≤ d) : ∀ (F : Nat) (b0 : Nat) (b1 : Nat) (i2 : Int32) (I : AI) (r : Unit × AI), f255_b2 kad N Z F b0 b1 i2 I = some r → aGo kad d 255 (2, ([(0, .ref b0), (1, .ref b1), (2, .int i2)], [])) (aMem Z I, t) (qV Z t r) := by
  intro F
  induction F with
  | zero => intro b0 b1 i2 I r h; cases h
  | succ F ih =>
    intro b0 b1 i2 I r h
    unfold f255_b2 at h
    refine go_ops aMi255 2 _ (f1 := (6, ([(0, .ref b0), (1, .ref b1), (2, .int i2)], [.int (256 : Int32), .int i2]))) rfl ?_
    refine gg_br (b := decide ((256 : Int32) ≤ i2)) (tg := 21) (off := 15) aMi255 rfl rfl rfl rfl (fun hb => ?_) (fun hb => ?_)
    · rw [if_pos (of_decide_eq_true hb)] at h
      cases h
      exact go_ret aMi255 rfl rfl ⟨rfl, rfl⟩
    · rw [if_neg (of_decide_eq_false hb)] at h
      refine go_ops aMi255 4 _ (f1 := (13, ([(0, .ref b0), (1, .ref b1), (2, .int i2)], [.int i2, .ref b0, .int i2, .ref b1]))) rfl ?_
      obtain ⟨x13_1, hxx13_1, h⟩ := Option.bind_eq_some_iff.mp h
      refine gg_lI (Or.inl ⟨rfl, rfl⟩) aMi255 rfl hxx13_1 ?_
      obtain ⟨I14_2, hxI14_2, h⟩ := Option.bind_eq_some_iff.mp h
      refine gg_sI (Or.inl ⟨rfl, rfl⟩) aMi255 rfl hxI14_2 ?_
      refine go_ops aMi255 2 _ (f1 := (2, ([(2, .int (i2 + (1 : Int32))), (0, .ref b0), (1, .ref b1)], []))) rfl ?_
      refine go_le (lv1 := [(0, .ref b0), (1, .ref b1), (2, .int (i2 + (1 : Int32)))]) (aLe_of (show (List.map (fun q => q.1) ([(0, .ref b0), (1, .ref b1), (2, .int (i2 + (1 : Int32)))] : ALv)).Nodup from (by show ([0, 1, 2] : List Nat).Nodup; decide)) (aSubL_cons rfl (aSubL_cons rfl (aSubL_cons rfl aSubL_nil)))) ?_
      exact ih b0 b1 (i2 + (1 : Int32)) I14_2 _ h
def f255 (kad : Nat → Nat) (N : Nat) (Z : AZ) (b0 : Nat) (b1 : Nat) (I : AI) : Option (Unit × AI) :=
  f255_b2 kad N Z N b0 b1 (0 : Int32) I
set_option maxRecDepth 20000 in
theorem Tf255 {kad : Nat → Nat} {N : Nat} {Z : AZ} {d : Nat} {t : Option Nat × (Nat × Nat)} (hd : 0 ≤ d) : ∀ (b0 : Nat) (b1 : Nat) (I : AI) (r : Unit × AI), f255 kad N Z b0 b1 I = some r → aGo kad d 255 (0, ([(0, .ref b0), (1, .ref b1)], [])) (aMem Z I, t) (qV Z t r) := by
  intro b0 b1 I r h
  unfold f255 at h
  refine go_ops aMi255 2 _ (f1 := (2, ([(2, .int (0 : Int32)), (0, .ref b0), (1, .ref b1)], []))) rfl ?_
  refine go_le (lv1 := [(0, .ref b0), (1, .ref b1), (2, .int (0 : Int32))]) (aLe_of (show (List.map (fun q => q.1) ([(0, .ref b0), (1, .ref b1), (2, .int (0 : Int32))] : ALv)).Nodup from (by show ([0, 1, 2] : List Nat).Nodup; decide)) (aSubL_cons rfl (aSubL_cons rfl (aSubL_cons rfl aSubL_nil)))) ?_
  exact Tf255_b2 hd N b0 b1 (0 : Int32) I _ h
-- KernelGymModel.makesAnew (I)V
def f256_b33 (kad : Nat → Nat) (N : Nat) (Z : AZ) : Nat → Nat → Int32 → Int32 → AI → Option (Unit × AI)
  | 0, _, _, _, _ => none
  | F + 1, a0, i1, i2, I =>
    if i1 ≤ i2 then
      some ((), I)
    else
      (f234 kad N Z a0 I).bind fun r39_1 =>
      f256_b33 kad N Z F a0 i1 (i2 + (1 : Int32)) r39_1.2
set_option maxRecDepth 20000 in
theorem Tf256_b33 {kad : Nat → Nat} {N : Nat} {Z : AZ} {d : Nat} {t : Option Nat × (Nat × Nat)} (hd : 7 ≤ d) : ∀ (F : Nat) (a0 : Nat) (ha0 : sh11 kad Z a0) (i1 : Int32) (i2 : Int32) (I : AI) (r : Unit × AI), f256_b33 kad N Z F a0 i1 i2 I = some r → aGo kad d 256 (33, ([(0, .ref a0), (1, .int i1), (2, .int i2)], [])) (aMem Z I, t) (qV Z t r) := by
  intro F
  induction F with
  | zero => intro a0 ha0 i1 i2 I r h; cases h
  | succ F ih =>
    intro a0 ha0 i1 i2 I r h
    unfold f256_b33 at h
    refine go_ops aMi256 2 _ (f1 := (35, ([(0, .ref a0), (1, .int i1), (2, .int i2)], [.int i1, .int i2]))) rfl ?_
    refine gg_br (b := decide (i1 ≤ i2)) (tg := 48) (off := 13) aMi256 rfl rfl rfl rfl (fun hb => ?_) (fun hb => ?_)
    · rw [if_pos (of_decide_eq_true hb)] at h
      cases h
      exact go_ret aMi256 rfl rfl ⟨rfl, rfl⟩
    · rw [if_neg (of_decide_eq_false hb)] at h
      refine go_ops aMi256 1 _ (f1 := (39, ([(0, .ref a0), (1, .int i1), (2, .int i2)], [.ref a0]))) rfl ?_
      obtain ⟨r39_1, hxr39_1, h⟩ := Option.bind_eq_some_iff.mp h
      refine gg_cv (as := []) (r := []) aMi256 rfl rfl rfl aMi234 (Nat.le_of_ble_eq_true rfl) rfl (Nat.le_of_ble_eq_true rfl) (Nat.le_of_ble_eq_true rfl) (by omega) (isK_of (sh11_z ha0)) (Tf234 (by omega) a0 ha0 I _ hxr39_1) ?_
      show aGo kad d 256 (42, ([(0, .ref a0), (1, .int i1), (2, .int i2)], [])) (aMem Z r39_1.2, t) _
      refine go_ops aMi256 2 _ (f1 := (33, ([(2, .int (i2 + (1 : Int32))), (0, .ref a0), (1, .int i1)], []))) rfl ?_
      refine go_le (lv1 := [(0, .ref a0), (1, .int i1), (2, .int (i2 + (1 : Int32)))]) (aLe_of (show (List.map (fun q => q.1) ([(0, .ref a0), (1, .int i1), (2, .int (i2 + (1 : Int32)))] : ALv)).Nodup from (by show ([0, 1, 2] : List Nat).Nodup; decide)) (aSubL_cons rfl (aSubL_cons rfl (aSubL_cons rfl aSubL_nil)))) ?_
      exact ih a0 ha0 i1 (i2 + (1 : Int32)) r39_1.2 _ h
def f256 (kad : Nat → Nat) (N : Nat) (Z : AZ) (a0 : Nat) (i1 : Int32) (I : AI) : Option (Unit × AI) :=
  (f255 kad N Z (a0 + 27) (a0 + 24) I).bind fun r8_1 =>
  (wI r8_1.2 a0 52 ((r8_1.2) a0 55)).bind fun I16_2 =>
  (f222 kad N Z a0 (a0 + 26) I16_2).bind fun r24_3 =>
  (f224 kad N Z a0 r24_3.2).bind fun r28_4 =>
  f256_b33 kad N Z N a0 i1 (0 : Int32) r28_4.2
set_option maxRecDepth 20000 in
theorem Tf256 {kad : Nat → Nat} {N : Nat} {Z : AZ} {d : Nat} {t : Option Nat × (Nat × Nat)} (hd : 7 ≤ d) : ∀ (a0 : Nat) (ha0 : sh11 kad Z a0) (i1 : Int32) (I : AI) (r : Unit × AI), f256 kad N Z a0 i1 I = some r → aGo kad d 256 (0, ([(0, .ref a0), (1, .int i1)], [])) (aMem Z I, t) (qV Z t r) := by
  intro a0 ha0 i1 I r h
  unfold f256 at h
  refine go_ops aMi256 1 _ (f1 := (1, ([(0, .ref a0), (1, .int i1)], [.ref a0]))) rfl ?_
  refine gg_gR (b := (a0 + 27)) aMi256 rfl rfl rfl (gR_of (sh11_z ha0) (sh11_r54 ha0)) ?_
  refine go_ops aMi256 1 _ (f1 := (5, ([(0, .ref a0), (1, .int i1)], [.ref a0, .ref (a0 + 27)]))) rfl ?_
  refine gg_gR (b := (a0 + 24)) aMi256 rfl rfl rfl (gR_of (sh11_z ha0) (sh11_r50 ha0)) ?_
  obtain ⟨r8_1, hxr8_1, h⟩ := Option.bind_eq_some_iff.mp h
  refine gg_cs (as := [.ref (a0 + 27), .ref (a0 + 24)]) (r := []) aMi256 rfl rfl rfl aMi255 rfl (Nat.le_of_ble_eq_true rfl) (Nat.le_of_ble_eq_true rfl) (by omega) (Tf255 (by omega) (a0 + 27) (a0 + 24) I _ hxr8_1) ?_
  show aGo kad d 256 (11, ([(0, .ref a0), (1, .int i1)], [])) (aMem Z r8_1.2, t) _
  refine go_ops aMi256 2 _ (f1 := (13, ([(0, .ref a0), (1, .int i1)], [.ref a0, .ref a0]))) rfl ?_
  refine gg_gI aMi256 rfl rfl rfl (gI_of (sh11_z ha0)) ?_
  obtain ⟨I16_2, hxI16_2, h⟩ := Option.bind_eq_some_iff.mp h
  refine gg_pI aMi256 rfl rfl rfl rfl (by decide) (pI_of (sh11_z ha0) hxI16_2) ?_
  refine go_ops aMi256 2 _ (f1 := (21, ([(0, .ref a0), (1, .int i1)], [.ref a0, .ref a0]))) rfl ?_
  refine gg_gR (b := (a0 + 26)) aMi256 rfl rfl rfl (gR_of (sh11_z ha0) (sh11_r53 ha0)) ?_
  obtain ⟨r24_3, hxr24_3, h⟩ := Option.bind_eq_some_iff.mp h
  refine gg_cv (as := [.ref (a0 + 26)]) (r := []) aMi256 rfl rfl rfl aMi222 (Nat.le_of_ble_eq_true rfl) rfl (Nat.le_of_ble_eq_true rfl) (Nat.le_of_ble_eq_true rfl) (by omega) (isK_of (sh11_z ha0)) (Tf222 (by omega) a0 ha0 (a0 + 26) I16_2 _ hxr24_3) ?_
  show aGo kad d 256 (27, ([(0, .ref a0), (1, .int i1)], [])) (aMem Z r24_3.2, t) _
  refine go_ops aMi256 1 _ (f1 := (28, ([(0, .ref a0), (1, .int i1)], [.ref a0]))) rfl ?_
  obtain ⟨r28_4, hxr28_4, h⟩ := Option.bind_eq_some_iff.mp h
  refine gg_cv (as := []) (r := []) aMi256 rfl rfl rfl aMi224 (Nat.le_of_ble_eq_true rfl) rfl (Nat.le_of_ble_eq_true rfl) (Nat.le_of_ble_eq_true rfl) (by omega) (isK_of (sh11_z ha0)) (Tf224 (by omega) a0 ha0 r24_3.2 _ hxr28_4) ?_
  show aGo kad d 256 (31, ([(0, .ref a0), (1, .int i1)], [])) (aMem Z r28_4.2, t) _
  refine go_ops aMi256 2 _ (f1 := (33, ([(2, .int (0 : Int32)), (0, .ref a0), (1, .int i1)], []))) rfl ?_
  refine go_le (lv1 := [(0, .ref a0), (1, .int i1), (2, .int (0 : Int32))]) (aLe_of (show (List.map (fun q => q.1) ([(0, .ref a0), (1, .int i1), (2, .int (0 : Int32))] : ALv)).Nodup from (by show ([0, 1, 2] : List Nat).Nodup; decide)) (aSubL_cons rfl (aSubL_cons rfl (aSubL_cons rfl aSubL_nil)))) ?_
  exact Tf256_b33 hd N a0 ha0 i1 (0 : Int32) r28_4.2 _ h
-- KernelGymModel.start ()I
def f257_b20 (kad : Nat → Nat) (N : Nat) (Z : AZ) (a0 : Nat) (s0 : Int32) (I : AI) : Option (Int32 × AI) :=
  (f185 kad N Z a0 s0 I).bind fun r20_1 =>
  if ¬ r20_1.1 = 0 then
    (f253 kad N Z a0 r20_1.2).bind fun r29_2 =>
    (f255 kad N Z (a0 + 24) (a0 + 27) r29_2.2).bind fun r41_3 =>
    (f255 kad N Z (a0 + 14) (a0 + 26) r41_3.2).bind fun r52_4 =>
    (wI r52_4.2 a0 55 ((r52_4.2) a0 52)).bind fun I60_5 =>
    (wI I60_5 a0 43 (0 : Int32)).bind fun I65_6 =>
    (wI I65_6 a0 40 (0 : Int32)).bind fun I70_7 =>
    (f222 kad N Z a0 (a0 + 26) I70_7).bind fun r78_8 =>
    some (r29_2.1, r78_8.2)
  else
    some ((0 : Int32), r20_1.2)
set_option maxRecDepth 20000 in
theorem Tf257_b20 {kad : Nat → Nat} {N : Nat} {Z : AZ} {d : Nat} {t : Option Nat × (Nat × Nat)} (hd : 2 ≤ d) : ∀ (a0 : Nat) (ha0 : sh11 kad Z a0) (s0 : Int32) (I : AI) (r : Int32 × AI), f257_b20 kad N Z a0 s0 I = some r → aGo kad d 257 (20, ([(0, .ref a0)], [.int s0, .ref a0])) (aMem Z I, t) (qI Z t r) := by
  intro a0 ha0 s0 I r h
  unfold f257_b20 at h
  obtain ⟨r20_1, hxr20_1, h⟩ := Option.bind_eq_some_iff.mp h
  refine gg_cv (as := [.int s0]) (r := []) aMi257 rfl rfl rfl aMi185 (Nat.le_of_ble_eq_true rfl) rfl (Nat.le_of_ble_eq_true rfl) (Nat.le_of_ble_eq_true rfl) (by omega) (isK_of (sh11_z ha0)) (Tf185 (by omega) a0 ha0 s0 I _ hxr20_1) ?_
  show aGo kad d 257 (23, ([(0, .ref a0)], [.int r20_1.1])) (aMem Z r20_1.2, t) _
  refine gg_br (b := decide (¬ r20_1.1 = 0)) (tg := 28) (off := 5) aMi257 rfl rfl rfl rfl (fun hb => ?_) (fun hb => ?_)
  · rw [if_pos (of_decide_eq_true hb)] at h
    refine go_ops aMi257 1 _ (f1 := (29, ([(0, .ref a0)], [.ref a0]))) rfl ?_
    obtain ⟨r29_2, hxr29_2, h⟩ := Option.bind_eq_some_iff.mp h
    refine gg_cv (as := []) (r := []) aMi257 rfl rfl rfl aMi253 (Nat.le_of_ble_eq_true rfl) rfl (Nat.le_of_ble_eq_true rfl) (Nat.le_of_ble_eq_true rfl) (by omega) (isK_of (sh11_z ha0)) (Tf253 (by omega) a0 ha0 r20_1.2 _ hxr29_2) ?_
    show aGo kad d 257 (32, ([(0, .ref a0)], [.int r29_2.1])) (aMem Z r29_2.2, t) _
    refine go_ops aMi257 2 _ (f1 := (34, ([(1, .int r29_2.1), (0, .ref a0)], [.ref a0]))) rfl ?_
    refine gg_gR (b := (a0 + 24)) aMi257 rfl rfl rfl (gR_of (sh11_z ha0) (sh11_r50 ha0)) ?_
    refine go_ops aMi257 1 _ (f1 := (38, ([(1, .int r29_2.1), (0, .ref a0)], [.ref a0, .ref (a0 + 24)]))) rfl ?_
    refine gg_gR (b := (a0 + 27)) aMi257 rfl rfl rfl (gR_of (sh11_z ha0) (sh11_r54 ha0)) ?_
    obtain ⟨r41_3, hxr41_3, h⟩ := Option.bind_eq_some_iff.mp h
    refine gg_cs (as := [.ref (a0 + 24), .ref (a0 + 27)]) (r := []) aMi257 rfl rfl rfl aMi255 rfl (Nat.le_of_ble_eq_true rfl) (Nat.le_of_ble_eq_true rfl) (by omega) (Tf255 (by omega) (a0 + 24) (a0 + 27) r29_2.2 _ hxr41_3) ?_
    show aGo kad d 257 (44, ([(1, .int r29_2.1), (0, .ref a0)], [])) (aMem Z r41_3.2, t) _
    refine go_ops aMi257 1 _ (f1 := (45, ([(1, .int r29_2.1), (0, .ref a0)], [.ref a0]))) rfl ?_
    refine gg_gR (b := (a0 + 14)) aMi257 rfl rfl rfl (gR_of (sh11_z ha0) (sh11_r21 ha0)) ?_
    refine go_ops aMi257 1 _ (f1 := (49, ([(1, .int r29_2.1), (0, .ref a0)], [.ref a0, .ref (a0 + 14)]))) rfl ?_
    refine gg_gR (b := (a0 + 26)) aMi257 rfl rfl rfl (gR_of (sh11_z ha0) (sh11_r53 ha0)) ?_
    obtain ⟨r52_4, hxr52_4, h⟩ := Option.bind_eq_some_iff.mp h
    refine gg_cs (as := [.ref (a0 + 14), .ref (a0 + 26)]) (r := []) aMi257 rfl rfl rfl aMi255 rfl (Nat.le_of_ble_eq_true rfl) (Nat.le_of_ble_eq_true rfl) (by omega) (Tf255 (by omega) (a0 + 14) (a0 + 26) r41_3.2 _ hxr52_4) ?_
    show aGo kad d 257 (55, ([(1, .int r29_2.1), (0, .ref a0)], [])) (aMem Z r52_4.2, t) _
    refine go_ops aMi257 2 _ (f1 := (57, ([(1, .int r29_2.1), (0, .ref a0)], [.ref a0, .ref a0]))) rfl ?_
    refine gg_gI aMi257 rfl rfl rfl (gI_of (sh11_z ha0)) ?_
    obtain ⟨I60_5, hxI60_5, h⟩ := Option.bind_eq_some_iff.mp h
    refine gg_pI aMi257 rfl rfl rfl rfl (by decide) (pI_of (sh11_z ha0) hxI60_5) ?_
    refine go_ops aMi257 2 _ (f1 := (65, ([(1, .int r29_2.1), (0, .ref a0)], [.int (0 : Int32), .ref a0]))) rfl ?_
    obtain ⟨I65_6, hxI65_6, h⟩ := Option.bind_eq_some_iff.mp h
    refine gg_pI aMi257 rfl rfl rfl rfl (by decide) (pI_of (sh11_z ha0) hxI65_6) ?_
    refine go_ops aMi257 2 _ (f1 := (70, ([(1, .int r29_2.1), (0, .ref a0)], [.int (0 : Int32), .ref a0]))) rfl ?_
    obtain ⟨I70_7, hxI70_7, h⟩ := Option.bind_eq_some_iff.mp h
    refine gg_pI aMi257 rfl rfl rfl rfl (by decide) (pI_of (sh11_z ha0) hxI70_7) ?_
    refine go_ops aMi257 2 _ (f1 := (75, ([(1, .int r29_2.1), (0, .ref a0)], [.ref a0, .ref a0]))) rfl ?_
    refine gg_gR (b := (a0 + 26)) aMi257 rfl rfl rfl (gR_of (sh11_z ha0) (sh11_r53 ha0)) ?_
    obtain ⟨r78_8, hxr78_8, h⟩ := Option.bind_eq_some_iff.mp h
    refine gg_cv (as := [.ref (a0 + 26)]) (r := []) aMi257 rfl rfl rfl aMi222 (Nat.le_of_ble_eq_true rfl) rfl (Nat.le_of_ble_eq_true rfl) (Nat.le_of_ble_eq_true rfl) (by omega) (isK_of (sh11_z ha0)) (Tf222 (by omega) a0 ha0 (a0 + 26) I70_7 _ hxr78_8) ?_
    show aGo kad d 257 (81, ([(1, .int r29_2.1), (0, .ref a0)], [])) (aMem Z r78_8.2, t) _
    refine go_ops aMi257 1 _ (f1 := (82, ([(1, .int r29_2.1), (0, .ref a0)], [.int r29_2.1]))) rfl ?_
    cases h
    exact go_ret aMi257 rfl aRetI ⟨rfl, rfl⟩
  · rw [if_neg (of_decide_eq_false hb)] at h
    refine go_ops aMi257 1 _ (f1 := (27, ([(0, .ref a0)], [.int (0 : Int32)]))) rfl ?_
    cases h
    exact go_ret aMi257 rfl aRetI ⟨rfl, rfl⟩
def f257_b15 (kad : Nat → Nat) (N : Nat) (Z : AZ) (a0 : Nat) (I : AI) : Option (Int32 × AI) :=
  f257_b20 kad N Z a0 (1 : Int32) I
set_option maxRecDepth 20000 in
theorem Tf257_b15 {kad : Nat → Nat} {N : Nat} {Z : AZ} {d : Nat} {t : Option Nat × (Nat × Nat)} (hd : 2 ≤ d) : ∀ (a0 : Nat) (ha0 : sh11 kad Z a0) (I : AI) (r : Int32 × AI), f257_b15 kad N Z a0 I = some r → aGo kad d 257 (15, ([(0, .ref a0)], [.ref a0])) (aMem Z I, t) (qI Z t r) := by
  intro a0 ha0 I r h
  unfold f257_b15 at h
  refine go_ops aMi257 2 _ (f1 := (20, ([(0, .ref a0)], [.int (1 : Int32), .ref a0]))) rfl ?_
  exact Tf257_b20 hd a0 ha0 (1 : Int32) I _ h
def f257 (kad : Nat → Nat) (N : Nat) (Z : AZ) (a0 : Nat) (I : AI) : Option (Int32 × AI) :=
  (f216 kad N Z a0 I).bind fun r2_1 =>
  if ¬ r2_1.1 = 0 then
    f257_b15 kad N Z a0 r2_1.2
  else
    if ¬ ((r2_1.2) a0 22) = 0 then
      f257_b20 kad N Z a0 (0 : Int32) r2_1.2
    else
      f257_b15 kad N Z a0 r2_1.2
set_option maxRecDepth 20000 in
theorem Tf257 {kad : Nat → Nat} {N : Nat} {Z : AZ} {d : Nat} {t : Option Nat × (Nat × Nat)} (hd : 2 ≤ d) : ∀ (a0 : Nat) (ha0 : sh11 kad Z a0) (I : AI) (r : Int32 × AI), f257 kad N Z a0 I = some r → aGo kad d 257 (0, ([(0, .ref a0)], [])) (aMem Z I, t) (qI Z t r) := by
  intro a0 ha0 I r h
  unfold f257 at h
  refine go_ops aMi257 2 _ (f1 := (2, ([(0, .ref a0)], [.ref a0, .ref a0]))) rfl ?_
  obtain ⟨r2_1, hxr2_1, h⟩ := Option.bind_eq_some_iff.mp h
  refine gg_cv (as := []) (r := [.ref a0]) aMi257 rfl rfl rfl aMi216 (Nat.le_of_ble_eq_true rfl) rfl (Nat.le_of_ble_eq_true rfl) (Nat.le_of_ble_eq_true rfl) (by omega) (isK_of (sh11_z ha0)) (Tf216 (by omega) a0 ha0 I _ hxr2_1) ?_
  show aGo kad d 257 (5, ([(0, .ref a0)], [.int r2_1.1, .ref a0])) (aMem Z r2_1.2, t) _
  refine gg_br (b := decide (¬ r2_1.1 = 0)) (tg := 15) (off := 10) aMi257 rfl rfl rfl rfl (fun hb => ?_) (fun hb => ?_)
  · rw [if_pos (of_decide_eq_true hb)] at h
    exact Tf257_b15 hd a0 ha0 r2_1.2 _ h
  · rw [if_neg (of_decide_eq_false hb)] at h
    refine go_ops aMi257 1 _ (f1 := (9, ([(0, .ref a0)], [.ref a0, .ref a0]))) rfl ?_
    refine gg_gI aMi257 rfl rfl rfl (gI_of (sh11_z ha0)) ?_
    refine gg_br (b := decide (¬ ((r2_1.2) a0 22) = 0)) (tg := 19) (off := 7) aMi257 rfl rfl rfl rfl (fun hb => ?_) (fun hb => ?_)
    · rw [if_pos (of_decide_eq_true hb)] at h
      refine go_ops aMi257 1 _ (f1 := (20, ([(0, .ref a0)], [.int (0 : Int32), .ref a0]))) rfl ?_
      exact Tf257_b20 hd a0 ha0 (0 : Int32) r2_1.2 _ h
    · rw [if_neg (of_decide_eq_false hb)] at h
      exact Tf257_b15 hd a0 ha0 r2_1.2 _ h
-- KernelGymModel.crash ()I
def f258_b13 (kad : Nat → Nat) (N : Nat) (Z : AZ) (a0 : Nat) (s0 : Int32) (I : AI) : Option (Int32 × AI) :=
  (f185 kad N Z a0 s0 I).bind fun r13_1 =>
  if ¬ r13_1.1 = 0 then
    (wI r13_1.2 a0 40 (0 : Int32)).bind fun I28_2 =>
    (f223 kad N Z a0 I28_2).bind fun r32_3 =>
    some (((r13_1.2) a0 38), r32_3.2)
  else
    some ((0 : Int32), r13_1.2)
set_option maxRecDepth 20000 in
theorem Tf258_b13 {kad : Nat → Nat} {N : Nat} {Z : AZ} {d : Nat} {t : Option Nat × (Nat × Nat)} (hd : 1 ≤ d) : ∀ (a0 : Nat) (ha0 : sh11 kad Z a0) (s0 : Int32) (I : AI) (r : Int32 × AI), f258_b13 kad N Z a0 s0 I = some r → aGo kad d 258 (13, ([(0, .ref a0)], [.int s0, .ref a0])) (aMem Z I, t) (qI Z t r) := by
  intro a0 ha0 s0 I r h
  unfold f258_b13 at h
  obtain ⟨r13_1, hxr13_1, h⟩ := Option.bind_eq_some_iff.mp h
  refine gg_cv (as := [.int s0]) (r := []) aMi258 rfl rfl rfl aMi185 (Nat.le_of_ble_eq_true rfl) rfl (Nat.le_of_ble_eq_true rfl) (Nat.le_of_ble_eq_true rfl) (by omega) (isK_of (sh11_z ha0)) (Tf185 (by omega) a0 ha0 s0 I _ hxr13_1) ?_
  show aGo kad d 258 (16, ([(0, .ref a0)], [.int r13_1.1])) (aMem Z r13_1.2, t) _
  refine gg_br (b := decide (¬ r13_1.1 = 0)) (tg := 21) (off := 5) aMi258 rfl rfl rfl rfl (fun hb => ?_) (fun hb => ?_)
  · rw [if_pos (of_decide_eq_true hb)] at h
    refine go_ops aMi258 1 _ (f1 := (22, ([(0, .ref a0)], [.ref a0]))) rfl ?_
    refine gg_gI aMi258 rfl rfl rfl (gI_of (sh11_z ha0)) ?_
    refine go_ops aMi258 3 _ (f1 := (28, ([(1, .int ((r13_1.2) a0 38)), (0, .ref a0)], [.int (0 : Int32), .ref a0]))) rfl ?_
    obtain ⟨I28_2, hxI28_2, h⟩ := Option.bind_eq_some_iff.mp h
    refine gg_pI aMi258 rfl rfl rfl rfl (by decide) (pI_of (sh11_z ha0) hxI28_2) ?_
    refine go_ops aMi258 1 _ (f1 := (32, ([(1, .int ((r13_1.2) a0 38)), (0, .ref a0)], [.ref a0]))) rfl ?_
    obtain ⟨r32_3, hxr32_3, h⟩ := Option.bind_eq_some_iff.mp h
    refine gg_cv (as := []) (r := []) aMi258 rfl rfl rfl aMi223 (Nat.le_of_ble_eq_true rfl) rfl (Nat.le_of_ble_eq_true rfl) (Nat.le_of_ble_eq_true rfl) (by omega) (isK_of (sh11_z ha0)) (Tf223 (by omega) a0 ha0 I28_2 _ hxr32_3) ?_
    show aGo kad d 258 (35, ([(1, .int ((r13_1.2) a0 38)), (0, .ref a0)], [])) (aMem Z r32_3.2, t) _
    refine go_ops aMi258 1 _ (f1 := (36, ([(1, .int ((r13_1.2) a0 38)), (0, .ref a0)], [.int ((r13_1.2) a0 38)]))) rfl ?_
    cases h
    exact go_ret aMi258 rfl aRetI ⟨rfl, rfl⟩
  · rw [if_neg (of_decide_eq_false hb)] at h
    refine go_ops aMi258 1 _ (f1 := (20, ([(0, .ref a0)], [.int (0 : Int32)]))) rfl ?_
    cases h
    exact go_ret aMi258 rfl aRetI ⟨rfl, rfl⟩
def f258 (kad : Nat → Nat) (N : Nat) (Z : AZ) (a0 : Nat) (I : AI) : Option (Int32 × AI) :=
  (f216 kad N Z a0 I).bind fun r2_1 =>
  if r2_1.1 = 0 then
    f258_b13 kad N Z a0 (1 : Int32) r2_1.2
  else
    f258_b13 kad N Z a0 (0 : Int32) r2_1.2
set_option maxRecDepth 20000 in
theorem Tf258 {kad : Nat → Nat} {N : Nat} {Z : AZ} {d : Nat} {t : Option Nat × (Nat × Nat)} (hd : 1 ≤ d) : ∀ (a0 : Nat) (ha0 : sh11 kad Z a0) (I : AI) (r : Int32 × AI), f258 kad N Z a0 I = some r → aGo kad d 258 (0, ([(0, .ref a0)], [])) (aMem Z I, t) (qI Z t r) := by
  intro a0 ha0 I r h
  unfold f258 at h
  refine go_ops aMi258 2 _ (f1 := (2, ([(0, .ref a0)], [.ref a0, .ref a0]))) rfl ?_
  obtain ⟨r2_1, hxr2_1, h⟩ := Option.bind_eq_some_iff.mp h
  refine gg_cv (as := []) (r := [.ref a0]) aMi258 rfl rfl rfl aMi216 (Nat.le_of_ble_eq_true rfl) rfl (Nat.le_of_ble_eq_true rfl) (Nat.le_of_ble_eq_true rfl) (by omega) (isK_of (sh11_z ha0)) (Tf216 (by omega) a0 ha0 I _ hxr2_1) ?_
  show aGo kad d 258 (5, ([(0, .ref a0)], [.int r2_1.1, .ref a0])) (aMem Z r2_1.2, t) _
  refine gg_br (b := decide (r2_1.1 = 0)) (tg := 12) (off := 7) aMi258 rfl rfl rfl rfl (fun hb => ?_) (fun hb => ?_)
  · rw [if_pos (of_decide_eq_true hb)] at h
    refine go_ops aMi258 1 _ (f1 := (13, ([(0, .ref a0)], [.int (1 : Int32), .ref a0]))) rfl ?_
    exact Tf258_b13 hd a0 ha0 (1 : Int32) r2_1.2 _ h
  · rw [if_neg (of_decide_eq_false hb)] at h
    refine go_ops aMi258 2 _ (f1 := (13, ([(0, .ref a0)], [.int (0 : Int32), .ref a0]))) rfl ?_
    exact Tf258_b13 hd a0 ha0 (0 : Int32) r2_1.2 _ h
-- KernelGymModel.filesOf ()I
def f285_b28 (kad : Nat → Nat) (N : Nat) (Z : AZ) (k4 : Nat → Int32 → Int32 → AI → Option (Int32 × AI)) (a0 : Nat) (i2 : Int32) (s0 : Int32) (s1 : Int32) (I : AI) : Option (Int32 × AI) :=
  k4 a0 (s1 + s0) (i2 + (1 : Int32)) I
set_option maxRecDepth 20000 in
theorem Tf285_b28 {kad : Nat → Nat} {N : Nat} {Z : AZ} {d : Nat} {t : Option Nat × (Nat × Nat)} (hd : 1 ≤ d) (k4 : Nat → Int32 → Int32 → AI → Option (Int32 × AI))  (hk4 : ∀ (a0 : Nat) (ha0 : sh11 kad Z a0) (i1 : Int32) (i2 : Int32) (I : AI) (r : Int32 × AI), k4 a0 i1 i2 I = some r → aGo kad d 285 (4, ([(0, .ref a0), (1, .int i1), (2, .int i2)], [])) (aMem Z I, t) (qI Z t r)) : ∀ (a0 : Nat) (ha0 : sh11 kad Z a0) (i2 : Int32) (s0 : Int32) (s1 : Int32) (I : AI) (r : Int32 × AI), f285_b28 kad N Z k4 a0 i2 s0 s1 I = some r → aGo kad d 285 (28, ([(0, .ref a0), (2, .int i2)], [.int s0, .int s1])) (aMem Z I, t) (qI Z t r) := by
  intro a0 ha0 i2 s0 s1 I r h
  unfold f285_b28 at h
  refine go_ops aMi285 4 _ (f1 := (4, ([(2, .int (i2 + (1 : Int32))), (1, .int (s1 + s0)), (0, .ref a0)], []))) rfl ?_
  refine go_le (lv1 := [(0, .ref a0), (1, .int (s1 + s0)), (2, .int (i2 + (1 : Int32)))]) (aLe_of (show (List.map (fun q => q.1) ([(0, .ref a0), (1, .int (s1 + s0)), (2, .int (i2 + (1 : Int32)))] : ALv)).Nodup from (by show ([0, 1, 2] : List Nat).Nodup; decide)) (aSubL_cons rfl (aSubL_cons rfl (aSubL_cons rfl aSubL_nil)))) ?_
  exact hk4 a0 ha0 (s1 + s0) (i2 + (1 : Int32)) I _ h
def f285_b4 (kad : Nat → Nat) (N : Nat) (Z : AZ) : Nat → Nat → Int32 → Int32 → AI → Option (Int32 × AI)
  | 0, _, _, _, _ => none
  | F + 1, a0, i1, i2, I =>
    if (6 : Int32) ≤ i2 then
      some (i1, I)
    else
      (f235 kad N Z i2 I).bind fun r16_1 =>
      (ixA 256 r16_1.1).bind fun j19_2 =>
      if ¬ (r16_1.2 (a0 + 24) j19_2) = 0 then
        f285_b28 kad N Z (fun p0 p1 p2 I => f285_b4 kad N Z F p0 p1 p2 I) a0 i2 (1 : Int32) i1 r16_1.2
      else
        f285_b28 kad N Z (fun p0 p1 p2 I => f285_b4 kad N Z F p0 p1 p2 I) a0 i2 (0 : Int32) i1 r16_1.2
set_option maxRecDepth 20000 in
theorem Tf285_b4 {kad : Nat → Nat} {N : Nat} {Z : AZ} {d : Nat} {t : Option Nat × (Nat × Nat)} (hd : 1 ≤ d) : ∀ (F : Nat) (a0 : Nat) (ha0 : sh11 kad Z a0) (i1 : Int32) (i2 : Int32) (I : AI) (r : Int32 × AI), f285_b4 kad N Z F a0 i1 i2 I = some r → aGo kad d 285 (4, ([(0, .ref a0), (1, .int i1), (2, .int i2)], [])) (aMem Z I, t) (qI Z t r) := by
  intro F
  induction F with
  | zero => intro a0 ha0 i1 i2 I r h; cases h
  | succ F ih =>
    intro a0 ha0 i1 i2 I r h
    unfold f285_b4 at h
    refine go_ops aMi285 2 _ (f1 := (7, ([(0, .ref a0), (1, .int i1), (2, .int i2)], [.int (6 : Int32), .int i2]))) rfl ?_
    refine gg_br (b := decide ((6 : Int32) ≤ i2)) (tg := 36) (off := 29) aMi285 rfl rfl rfl rfl (fun hb => ?_) (fun hb => ?_)
    · rw [if_pos (of_decide_eq_true hb)] at h
      refine go_ops aMi285 1 _ (f1 := (37, ([(0, .ref a0), (1, .int i1), (2, .int i2)], [.int i1]))) rfl ?_
      cases h
      exact go_ret aMi285 rfl aRetI ⟨rfl, rfl⟩
    · rw [if_neg (of_decide_eq_false hb)] at h
      refine go_ops aMi285 2 _ (f1 := (12, ([(0, .ref a0), (1, .int i1), (2, .int i2)], [.ref a0, .int i1]))) rfl ?_
      refine gg_gR (b := (a0 + 24)) aMi285 rfl rfl rfl (gR_of (sh11_z ha0) (sh11_r50 ha0)) ?_
      refine go_ops aMi285 1 _ (f1 := (16, ([(0, .ref a0), (1, .int i1), (2, .int i2)], [.int i2, .ref (a0 + 24), .int i1]))) rfl ?_
      obtain ⟨r16_1, hxr16_1, h⟩ := Option.bind_eq_some_iff.mp h
      refine gg_cs (as := [.int i2]) (r := [.ref (a0 + 24), .int i1]) aMi285 rfl rfl rfl aMi235 rfl (Nat.le_of_ble_eq_true rfl) (Nat.le_of_ble_eq_true rfl) (by omega) (Tf235 (by omega) i2 I _ hxr16_1) ?_
      show aGo kad d 285 (19, ([(0, .ref a0), (1, .int i1), (2, .int i2)], [.int r16_1.1, .ref (a0 + 24), .int i1])) (aMem Z r16_1.2, t) _
      obtain ⟨j19_2, hxj19_2, h⟩ := Option.bind_eq_some_iff.mp h
      refine gg_lI (Or.inl ⟨rfl, rfl⟩) aMi285 rfl (lI_of (sh11_a50 ha0) hxj19_2) ?_
      refine gg_br (b := decide (¬ (r16_1.2 (a0 + 24) j19_2) = 0)) (tg := 27) (off := 7) aMi285 rfl rfl rfl rfl (fun hb => ?_) (fun hb => ?_)
      · rw [if_pos (of_decide_eq_true hb)] at h
        refine go_ops aMi285 1 _ (f1 := (28, ([(0, .ref a0), (1, .int i1), (2, .int i2)], [.int (1 : Int32), .int i1]))) rfl ?_
        refine go_le (lv1 := [(0, .ref a0), (2, .int i2)]) (aLe_of (show (List.map (fun q => q.1) ([(0, .ref a0), (2, .int i2)] : ALv)).Nodup from (by show ([0, 2] : List Nat).Nodup; decide)) (aSubL_cons rfl (aSubL_cons rfl aSubL_nil))) ?_
        exact Tf285_b28 hd (fun p0 p1 p2 I => f285_b4 kad N Z F p0 p1 p2 I) (fun p0 q0 p1 p2 I r hh => ih p0 q0 p1 p2 I r hh) a0 ha0 i2 (1 : Int32) i1 r16_1.2 _ h
      · rw [if_neg (of_decide_eq_false hb)] at h
        refine go_ops aMi285 2 _ (f1 := (28, ([(0, .ref a0), (1, .int i1), (2, .int i2)], [.int (0 : Int32), .int i1]))) rfl ?_
        refine go_le (lv1 := [(0, .ref a0), (2, .int i2)]) (aLe_of (show (List.map (fun q => q.1) ([(0, .ref a0), (2, .int i2)] : ALv)).Nodup from (by show ([0, 2] : List Nat).Nodup; decide)) (aSubL_cons rfl (aSubL_cons rfl aSubL_nil))) ?_
        exact Tf285_b28 hd (fun p0 p1 p2 I => f285_b4 kad N Z F p0 p1 p2 I) (fun p0 q0 p1 p2 I r hh => ih p0 q0 p1 p2 I r hh) a0 ha0 i2 (0 : Int32) i1 r16_1.2 _ h
def f285 (kad : Nat → Nat) (N : Nat) (Z : AZ) (a0 : Nat) (I : AI) : Option (Int32 × AI) :=
  f285_b4 kad N Z N a0 (0 : Int32) (0 : Int32) I
set_option maxRecDepth 20000 in
theorem Tf285 {kad : Nat → Nat} {N : Nat} {Z : AZ} {d : Nat} {t : Option Nat × (Nat × Nat)} (hd : 1 ≤ d) : ∀ (a0 : Nat) (ha0 : sh11 kad Z a0) (I : AI) (r : Int32 × AI), f285 kad N Z a0 I = some r → aGo kad d 285 (0, ([(0, .ref a0)], [])) (aMem Z I, t) (qI Z t r) := by
  intro a0 ha0 I r h
  unfold f285 at h
  refine go_ops aMi285 4 _ (f1 := (4, ([(2, .int (0 : Int32)), (1, .int (0 : Int32)), (0, .ref a0)], []))) rfl ?_
  refine go_le (lv1 := [(0, .ref a0), (1, .int (0 : Int32)), (2, .int (0 : Int32))]) (aLe_of (show (List.map (fun q => q.1) ([(0, .ref a0), (1, .int (0 : Int32)), (2, .int (0 : Int32))] : ALv)).Nodup from (by show ([0, 1, 2] : List Nat).Nodup; decide)) (aSubL_cons rfl (aSubL_cons rfl (aSubL_cons rfl aSubL_nil)))) ?_
  exact Tf285_b4 hd N a0 ha0 (0 : Int32) (0 : Int32) I _ h
-- KernelGymModel.format ()I
def f259_b13 (kad : Nat → Nat) (N : Nat) (Z : AZ) (a0 : Nat) (s0 : Int32) (I : AI) : Option (Int32 × AI) :=
  (f185 kad N Z a0 s0 I).bind fun r13_1 =>
  if ¬ r13_1.1 = 0 then
    (f285 kad N Z a0 r13_1.2).bind fun r22_2 =>
    (f254 kad N Z a0 r22_2.2).bind fun r27_3 =>
    some (r22_2.1, r27_3.2)
  else
    some ((0 : Int32), r13_1.2)
set_option maxRecDepth 20000 in
theorem Tf259_b13 {kad : Nat → Nat} {N : Nat} {Z : AZ} {d : Nat} {t : Option Nat × (Nat × Nat)} (hd : 2 ≤ d) : ∀ (a0 : Nat) (ha0 : sh11 kad Z a0) (s0 : Int32) (I : AI) (r : Int32 × AI), f259_b13 kad N Z a0 s0 I = some r → aGo kad d 259 (13, ([(0, .ref a0)], [.int s0, .ref a0])) (aMem Z I, t) (qI Z t r) := by
  intro a0 ha0 s0 I r h
  unfold f259_b13 at h
  obtain ⟨r13_1, hxr13_1, h⟩ := Option.bind_eq_some_iff.mp h
  refine gg_cv (as := [.int s0]) (r := []) aMi259 rfl rfl rfl aMi185 (Nat.le_of_ble_eq_true rfl) rfl (Nat.le_of_ble_eq_true rfl) (Nat.le_of_ble_eq_true rfl) (by omega) (isK_of (sh11_z ha0)) (Tf185 (by omega) a0 ha0 s0 I _ hxr13_1) ?_
  show aGo kad d 259 (16, ([(0, .ref a0)], [.int r13_1.1])) (aMem Z r13_1.2, t) _
  refine gg_br (b := decide (¬ r13_1.1 = 0)) (tg := 21) (off := 5) aMi259 rfl rfl rfl rfl (fun hb => ?_) (fun hb => ?_)
  · rw [if_pos (of_decide_eq_true hb)] at h
    refine go_ops aMi259 1 _ (f1 := (22, ([(0, .ref a0)], [.ref a0]))) rfl ?_
    obtain ⟨r22_2, hxr22_2, h⟩ := Option.bind_eq_some_iff.mp h
    refine gg_cv (as := []) (r := []) aMi259 rfl rfl rfl aMi285 (Nat.le_of_ble_eq_true rfl) rfl (Nat.le_of_ble_eq_true rfl) (Nat.le_of_ble_eq_true rfl) (by omega) (isK_of (sh11_z ha0)) (Tf285 (by omega) a0 ha0 r13_1.2 _ hxr22_2) ?_
    show aGo kad d 259 (25, ([(0, .ref a0)], [.int r22_2.1])) (aMem Z r22_2.2, t) _
    refine go_ops aMi259 2 _ (f1 := (27, ([(1, .int r22_2.1), (0, .ref a0)], [.ref a0]))) rfl ?_
    obtain ⟨r27_3, hxr27_3, h⟩ := Option.bind_eq_some_iff.mp h
    refine gg_cv (as := []) (r := []) aMi259 rfl rfl rfl aMi254 (Nat.le_of_ble_eq_true rfl) rfl (Nat.le_of_ble_eq_true rfl) (Nat.le_of_ble_eq_true rfl) (by omega) (isK_of (sh11_z ha0)) (Tf254 (by omega) a0 ha0 r22_2.2 _ hxr27_3) ?_
    show aGo kad d 259 (30, ([(1, .int r22_2.1), (0, .ref a0)], [])) (aMem Z r27_3.2, t) _
    refine go_ops aMi259 1 _ (f1 := (31, ([(1, .int r22_2.1), (0, .ref a0)], [.int r22_2.1]))) rfl ?_
    cases h
    exact go_ret aMi259 rfl aRetI ⟨rfl, rfl⟩
  · rw [if_neg (of_decide_eq_false hb)] at h
    refine go_ops aMi259 1 _ (f1 := (20, ([(0, .ref a0)], [.int (0 : Int32)]))) rfl ?_
    cases h
    exact go_ret aMi259 rfl aRetI ⟨rfl, rfl⟩
def f259 (kad : Nat → Nat) (N : Nat) (Z : AZ) (a0 : Nat) (I : AI) : Option (Int32 × AI) :=
  (f216 kad N Z a0 I).bind fun r2_1 =>
  if r2_1.1 = 0 then
    f259_b13 kad N Z a0 (0 : Int32) r2_1.2
  else
    f259_b13 kad N Z a0 (1 : Int32) r2_1.2
set_option maxRecDepth 20000 in
theorem Tf259 {kad : Nat → Nat} {N : Nat} {Z : AZ} {d : Nat} {t : Option Nat × (Nat × Nat)} (hd : 2 ≤ d) : ∀ (a0 : Nat) (ha0 : sh11 kad Z a0) (I : AI) (r : Int32 × AI), f259 kad N Z a0 I = some r → aGo kad d 259 (0, ([(0, .ref a0)], [])) (aMem Z I, t) (qI Z t r) := by
  intro a0 ha0 I r h
  unfold f259 at h
  refine go_ops aMi259 2 _ (f1 := (2, ([(0, .ref a0)], [.ref a0, .ref a0]))) rfl ?_
  obtain ⟨r2_1, hxr2_1, h⟩ := Option.bind_eq_some_iff.mp h
  refine gg_cv (as := []) (r := [.ref a0]) aMi259 rfl rfl rfl aMi216 (Nat.le_of_ble_eq_true rfl) rfl (Nat.le_of_ble_eq_true rfl) (Nat.le_of_ble_eq_true rfl) (by omega) (isK_of (sh11_z ha0)) (Tf216 (by omega) a0 ha0 I _ hxr2_1) ?_
  show aGo kad d 259 (5, ([(0, .ref a0)], [.int r2_1.1, .ref a0])) (aMem Z r2_1.2, t) _
  refine gg_br (b := decide (r2_1.1 = 0)) (tg := 12) (off := 7) aMi259 rfl rfl rfl rfl (fun hb => ?_) (fun hb => ?_)
  · rw [if_pos (of_decide_eq_true hb)] at h
    refine go_ops aMi259 1 _ (f1 := (13, ([(0, .ref a0)], [.int (0 : Int32), .ref a0]))) rfl ?_
    exact Tf259_b13 hd a0 ha0 (0 : Int32) r2_1.2 _ h
  · rw [if_neg (of_decide_eq_false hb)] at h
    refine go_ops aMi259 2 _ (f1 := (13, ([(0, .ref a0)], [.int (1 : Int32), .ref a0]))) rfl ?_
    exact Tf259_b13 hd a0 ha0 (1 : Int32) r2_1.2 _ h
-- KernelGymModel.canStep ()Z
def f260_b23 (kad : Nat → Nat) (N : Nat) (Z : AZ) (a0 : Nat) (s0 : Int32) (I : AI) : Option (Int32 × AI) :=
  if s0 = 0 ∨ s0 = 1 then some (s0, I) else none
set_option maxRecDepth 20000 in
theorem Tf260_b23 {kad : Nat → Nat} {N : Nat} {Z : AZ} {d : Nat} {t : Option Nat × (Nat × Nat)} (hd : 0 ≤ d) : ∀ (a0 : Nat) (ha0 : sh11 kad Z a0) (s0 : Int32) (I : AI) (r : Int32 × AI), f260_b23 kad N Z a0 s0 I = some r → aGo kad d 260 (23, ([], [.int s0])) (aMem Z I, t) (qI Z t r) := by
  intro a0 ha0 s0 I r h
  unfold f260_b23 at h
  split at h
  · rename_i hz
    cases h
    exact go_ret aMi260 rfl (aRetZ hz) ⟨rfl, rfl⟩
  · cases h
def f260_b22 (kad : Nat → Nat) (N : Nat) (Z : AZ) (a0 : Nat) (I : AI) : Option (Int32 × AI) :=
  f260_b23 kad N Z a0 (0 : Int32) I
set_option maxRecDepth 20000 in
theorem Tf260_b22 {kad : Nat → Nat} {N : Nat} {Z : AZ} {d : Nat} {t : Option Nat × (Nat × Nat)} (hd : 0 ≤ d) : ∀ (a0 : Nat) (ha0 : sh11 kad Z a0) (I : AI) (r : Int32 × AI), f260_b22 kad N Z a0 I = some r → aGo kad d 260 (22, ([], [])) (aMem Z I, t) (qI Z t r) := by
  intro a0 ha0 I r h
  unfold f260_b22 at h
  refine go_ops aMi260 1 _ (f1 := (23, ([], [.int (0 : Int32)]))) rfl ?_
  exact Tf260_b23 hd a0 ha0 (0 : Int32) I _ h
def f260 (kad : Nat → Nat) (N : Nat) (Z : AZ) (a0 : Nat) (I : AI) : Option (Int32 × AI) :=
  if ¬ (I a0 23) = (1 : Int32) then
    f260_b22 kad N Z a0 I
  else
    if (1000 : Int32) ≤ (I a0 38) then
      f260_b22 kad N Z a0 I
    else
      f260_b23 kad N Z a0 (1 : Int32) I
set_option maxRecDepth 20000 in
theorem Tf260 {kad : Nat → Nat} {N : Nat} {Z : AZ} {d : Nat} {t : Option Nat × (Nat × Nat)} (hd : 0 ≤ d) : ∀ (a0 : Nat) (ha0 : sh11 kad Z a0) (I : AI) (r : Int32 × AI), f260 kad N Z a0 I = some r → aGo kad d 260 (0, ([(0, .ref a0)], [])) (aMem Z I, t) (qI Z t r) := by
  intro a0 ha0 I r h
  unfold f260 at h
  refine go_ops aMi260 1 _ (f1 := (1, ([(0, .ref a0)], [.ref a0]))) rfl ?_
  refine gg_gI aMi260 rfl rfl rfl (gI_of (sh11_z ha0)) ?_
  refine go_ops aMi260 1 _ (f1 := (5, ([(0, .ref a0)], [.int (1 : Int32), .int (I a0 23)]))) rfl ?_
  refine gg_br (b := decide (¬ (I a0 23) = (1 : Int32))) (tg := 22) (off := 17) aMi260 rfl rfl rfl rfl (fun hb => ?_) (fun hb => ?_)
  · rw [if_pos (of_decide_eq_true hb)] at h
    refine go_le (lv1 := []) (aLe_of (show (List.map (fun q => q.1) ([] : ALv)).Nodup from (by show ([] : List Nat).Nodup; decide)) aSubL_nil) ?_
    exact Tf260_b22 hd a0 ha0 I _ h
  · rw [if_neg (of_decide_eq_false hb)] at h
    refine go_ops aMi260 1 _ (f1 := (9, ([(0, .ref a0)], [.ref a0]))) rfl ?_
    refine gg_gI aMi260 rfl rfl rfl (gI_of (sh11_z ha0)) ?_
    refine go_ops aMi260 1 _ (f1 := (15, ([(0, .ref a0)], [.int (1000 : Int32), .int (I a0 38)]))) rfl ?_
    refine gg_br (b := decide ((1000 : Int32) ≤ (I a0 38))) (tg := 22) (off := 7) aMi260 rfl rfl rfl rfl (fun hb => ?_) (fun hb => ?_)
    · rw [if_pos (of_decide_eq_true hb)] at h
      refine go_le (lv1 := []) (aLe_of (show (List.map (fun q => q.1) ([] : ALv)).Nodup from (by show ([] : List Nat).Nodup; decide)) aSubL_nil) ?_
      exact Tf260_b22 hd a0 ha0 I _ h
    · rw [if_neg (of_decide_eq_false hb)] at h
      refine go_ops aMi260 2 _ (f1 := (23, ([(0, .ref a0)], [.int (1 : Int32)]))) rfl ?_
      refine go_le (lv1 := []) (aLe_of (show (List.map (fun q => q.1) ([] : ALv)).Nodup from (by show ([] : List Nat).Nodup; decide)) aSubL_nil) ?_
      exact Tf260_b23 hd a0 ha0 (1 : Int32) I _ h
-- KernelGymModel.stepsAndKeeps ()V
def f261_b24 (kad : Nat → Nat) (N : Nat) (Z : AZ) (a0 : Nat) (s0 : Int32) (s1 : Int32) (I : AI) : Option (Unit × AI) :=
  (wI I a0 40 (s1 + s0)).bind fun I25_1 =>
  some ((), I25_1)
set_option maxRecDepth 20000 in
theorem Tf261_b24 {kad : Nat → Nat} {N : Nat} {Z : AZ} {d : Nat} {t : Option Nat × (Nat × Nat)} (hd : 7 ≤ d) : ∀ (a0 : Nat) (ha0 : sh11 kad Z a0) (s0 : Int32) (s1 : Int32) (I : AI) (r : Unit × AI), f261_b24 kad N Z a0 s0 s1 I = some r → aGo kad d 261 (24, ([], [.int s0, .int s1, .ref a0])) (aMem Z I, t) (qV Z t r) := by
  intro a0 ha0 s0 s1 I r h
  unfold f261_b24 at h
  refine go_ops aMi261 1 _ (f1 := (25, ([], [.int (s1 + s0), .ref a0]))) rfl ?_
  obtain ⟨I25_1, hxI25_1, h⟩ := Option.bind_eq_some_iff.mp h
  refine gg_pI aMi261 rfl rfl rfl rfl (by decide) (pI_of (sh11_z ha0) hxI25_1) ?_
  cases h
  exact go_ret aMi261 rfl rfl ⟨rfl, rfl⟩
def f261 (kad : Nat → Nat) (N : Nat) (Z : AZ) (a0 : Nat) (I : AI) : Option (Unit × AI) :=
  (f234 kad N Z a0 I).bind fun r1_1 =>
  if (200 : Int32) ≤ ((r1_1.2) a0 40) then
    f261_b24 kad N Z a0 (0 : Int32) ((r1_1.2) a0 40) r1_1.2
  else
    f261_b24 kad N Z a0 (1 : Int32) ((r1_1.2) a0 40) r1_1.2
set_option maxRecDepth 20000 in
theorem Tf261 {kad : Nat → Nat} {N : Nat} {Z : AZ} {d : Nat} {t : Option Nat × (Nat × Nat)} (hd : 7 ≤ d) : ∀ (a0 : Nat) (ha0 : sh11 kad Z a0) (I : AI) (r : Unit × AI), f261 kad N Z a0 I = some r → aGo kad d 261 (0, ([(0, .ref a0)], [])) (aMem Z I, t) (qV Z t r) := by
  intro a0 ha0 I r h
  unfold f261 at h
  refine go_ops aMi261 1 _ (f1 := (1, ([(0, .ref a0)], [.ref a0]))) rfl ?_
  obtain ⟨r1_1, hxr1_1, h⟩ := Option.bind_eq_some_iff.mp h
  refine gg_cv (as := []) (r := []) aMi261 rfl rfl rfl aMi234 (Nat.le_of_ble_eq_true rfl) rfl (Nat.le_of_ble_eq_true rfl) (Nat.le_of_ble_eq_true rfl) (by omega) (isK_of (sh11_z ha0)) (Tf234 (by omega) a0 ha0 I _ hxr1_1) ?_
  show aGo kad d 261 (4, ([(0, .ref a0)], [])) (aMem Z r1_1.2, t) _
  refine go_ops aMi261 2 _ (f1 := (6, ([(0, .ref a0)], [.ref a0, .ref a0]))) rfl ?_
  refine gg_gI aMi261 rfl rfl rfl (gI_of (sh11_z ha0)) ?_
  refine go_ops aMi261 1 _ (f1 := (10, ([(0, .ref a0)], [.ref a0, .int ((r1_1.2) a0 40), .ref a0]))) rfl ?_
  refine gg_gI aMi261 rfl rfl rfl (gI_of (sh11_z ha0)) ?_
  refine go_ops aMi261 1 _ (f1 := (16, ([(0, .ref a0)], [.int (200 : Int32), .int ((r1_1.2) a0 40), .int ((r1_1.2) a0 40), .ref a0]))) rfl ?_
  refine gg_br (b := decide ((200 : Int32) ≤ ((r1_1.2) a0 40))) (tg := 23) (off := 7) aMi261 rfl rfl rfl rfl (fun hb => ?_) (fun hb => ?_)
  · rw [if_pos (of_decide_eq_true hb)] at h
    refine go_ops aMi261 1 _ (f1 := (24, ([(0, .ref a0)], [.int (0 : Int32), .int ((r1_1.2) a0 40), .ref a0]))) rfl ?_
    refine go_le (lv1 := []) (aLe_of (show (List.map (fun q => q.1) ([] : ALv)).Nodup from (by show ([] : List Nat).Nodup; decide)) aSubL_nil) ?_
    exact Tf261_b24 hd a0 ha0 (0 : Int32) ((r1_1.2) a0 40) r1_1.2 _ h
  · rw [if_neg (of_decide_eq_false hb)] at h
    refine go_ops aMi261 2 _ (f1 := (24, ([(0, .ref a0)], [.int (1 : Int32), .int ((r1_1.2) a0 40), .ref a0]))) rfl ?_
    refine go_le (lv1 := []) (aLe_of (show (List.map (fun q => q.1) ([] : ALv)).Nodup from (by show ([] : List Nat).Nodup; decide)) aSubL_nil) ?_
    exact Tf261_b24 hd a0 ha0 (1 : Int32) ((r1_1.2) a0 40) r1_1.2 _ h
-- KernelGymModel.step (I)I
def f262_b59 (kad : Nat → Nat) (N : Nat) (Z : AZ) (a0 : Nat) (i2 : Int32) (I : AI) : Option (Int32 × AI) :=
  some (i2, I)
set_option maxRecDepth 20000 in
theorem Tf262_b59 {kad : Nat → Nat} {N : Nat} {Z : AZ} {d : Nat} {t : Option Nat × (Nat × Nat)} (hd : 8 ≤ d) : ∀ (a0 : Nat) (ha0 : sh11 kad Z a0) (i2 : Int32) (I : AI) (r : Int32 × AI), f262_b59 kad N Z a0 i2 I = some r → aGo kad d 262 (59, ([(2, .int i2)], [])) (aMem Z I, t) (qI Z t r) := by
  intro a0 ha0 i2 I r h
  unfold f262_b59 at h
  refine go_ops aMi262 1 _ (f1 := (60, ([(2, .int i2)], [.int i2]))) rfl ?_
  cases h
  exact go_ret aMi262 rfl aRetI ⟨rfl, rfl⟩
def f262_b37 (kad : Nat → Nat) (N : Nat) (Z : AZ) : Nat → Nat → Int32 → Int32 → AI → Option (Int32 × AI)
  | 0, _, _, _, _ => none
  | F + 1, a0, i1, i2, I =>
    if i1 ≤ i2 then
      f262_b59 kad N Z a0 i2 I
    else
      (f260 kad N Z a0 I).bind fun r43_1 =>
      if r43_1.1 = 0 then
        f262_b59 kad N Z a0 i2 r43_1.2
      else
        (f261 kad N Z a0 r43_1.2).bind fun r50_2 =>
        f262_b37 kad N Z F a0 i1 (i2 + (1 : Int32)) r50_2.2
set_option maxRecDepth 20000 in
theorem Tf262_b37 {kad : Nat → Nat} {N : Nat} {Z : AZ} {d : Nat} {t : Option Nat × (Nat × Nat)} (hd : 8 ≤ d) : ∀ (F : Nat) (a0 : Nat) (ha0 : sh11 kad Z a0) (i1 : Int32) (i2 : Int32) (I : AI) (r : Int32 × AI), f262_b37 kad N Z F a0 i1 i2 I = some r → aGo kad d 262 (37, ([(0, .ref a0), (1, .int i1), (2, .int i2)], [])) (aMem Z I, t) (qI Z t r) := by
  intro F
  induction F with
  | zero => intro a0 ha0 i1 i2 I r h; cases h
  | succ F ih =>
    intro a0 ha0 i1 i2 I r h
    unfold f262_b37 at h
    refine go_ops aMi262 2 _ (f1 := (39, ([(0, .ref a0), (1, .int i1), (2, .int i2)], [.int i1, .int i2]))) rfl ?_
    refine gg_br (b := decide (i1 ≤ i2)) (tg := 59) (off := 20) aMi262 rfl rfl rfl rfl (fun hb => ?_) (fun hb => ?_)
    · rw [if_pos (of_decide_eq_true hb)] at h
      refine go_le (lv1 := [(2, .int i2)]) (aLe_of (show (List.map (fun q => q.1) ([(2, .int i2)] : ALv)).Nodup from (by show ([2] : List Nat).Nodup; decide)) (aSubL_cons rfl aSubL_nil)) ?_
      exact Tf262_b59 hd a0 ha0 i2 I _ h
    · rw [if_neg (of_decide_eq_false hb)] at h
      refine go_ops aMi262 1 _ (f1 := (43, ([(0, .ref a0), (1, .int i1), (2, .int i2)], [.ref a0]))) rfl ?_
      obtain ⟨r43_1, hxr43_1, h⟩ := Option.bind_eq_some_iff.mp h
      refine gg_cv (as := []) (r := []) aMi262 rfl rfl rfl aMi260 (Nat.le_of_ble_eq_true rfl) rfl (Nat.le_of_ble_eq_true rfl) (Nat.le_of_ble_eq_true rfl) (by omega) (isK_of (sh11_z ha0)) (Tf260 (by omega) a0 ha0 I _ hxr43_1) ?_
      show aGo kad d 262 (46, ([(0, .ref a0), (1, .int i1), (2, .int i2)], [.int r43_1.1])) (aMem Z r43_1.2, t) _
      refine gg_br (b := decide (r43_1.1 = 0)) (tg := 59) (off := 13) aMi262 rfl rfl rfl rfl (fun hb => ?_) (fun hb => ?_)
      · rw [if_pos (of_decide_eq_true hb)] at h
        refine go_le (lv1 := [(2, .int i2)]) (aLe_of (show (List.map (fun q => q.1) ([(2, .int i2)] : ALv)).Nodup from (by show ([2] : List Nat).Nodup; decide)) (aSubL_cons rfl aSubL_nil)) ?_
        exact Tf262_b59 hd a0 ha0 i2 r43_1.2 _ h
      · rw [if_neg (of_decide_eq_false hb)] at h
        refine go_ops aMi262 1 _ (f1 := (50, ([(0, .ref a0), (1, .int i1), (2, .int i2)], [.ref a0]))) rfl ?_
        obtain ⟨r50_2, hxr50_2, h⟩ := Option.bind_eq_some_iff.mp h
        refine gg_cv (as := []) (r := []) aMi262 rfl rfl rfl aMi261 (Nat.le_of_ble_eq_true rfl) rfl (Nat.le_of_ble_eq_true rfl) (Nat.le_of_ble_eq_true rfl) (by omega) (isK_of (sh11_z ha0)) (Tf261 (by omega) a0 ha0 r43_1.2 _ hxr50_2) ?_
        show aGo kad d 262 (53, ([(0, .ref a0), (1, .int i1), (2, .int i2)], [])) (aMem Z r50_2.2, t) _
        refine go_ops aMi262 2 _ (f1 := (37, ([(2, .int (i2 + (1 : Int32))), (0, .ref a0), (1, .int i1)], []))) rfl ?_
        refine go_le (lv1 := [(0, .ref a0), (1, .int i1), (2, .int (i2 + (1 : Int32)))]) (aLe_of (show (List.map (fun q => q.1) ([(0, .ref a0), (1, .int i1), (2, .int (i2 + (1 : Int32)))] : ALv)).Nodup from (by show ([0, 1, 2] : List Nat).Nodup; decide)) (aSubL_cons rfl (aSubL_cons rfl (aSubL_cons rfl aSubL_nil)))) ?_
        exact ih a0 ha0 i1 (i2 + (1 : Int32)) r50_2.2 _ h
def f262_b27 (kad : Nat → Nat) (N : Nat) (Z : AZ) (a0 : Nat) (i1 : Int32) (s0 : Int32) (I : AI) : Option (Int32 × AI) :=
  (f185 kad N Z a0 s0 I).bind fun r27_1 =>
  if ¬ r27_1.1 = 0 then
    f262_b37 kad N Z N a0 i1 (0 : Int32) r27_1.2
  else
    some ((0 : Int32), r27_1.2)
set_option maxRecDepth 20000 in
theorem Tf262_b27 {kad : Nat → Nat} {N : Nat} {Z : AZ} {d : Nat} {t : Option Nat × (Nat × Nat)} (hd : 8 ≤ d) : ∀ (a0 : Nat) (ha0 : sh11 kad Z a0) (i1 : Int32) (s0 : Int32) (I : AI) (r : Int32 × AI), f262_b27 kad N Z a0 i1 s0 I = some r → aGo kad d 262 (27, ([(0, .ref a0), (1, .int i1)], [.int s0, .ref a0])) (aMem Z I, t) (qI Z t r) := by
  intro a0 ha0 i1 s0 I r h
  unfold f262_b27 at h
  obtain ⟨r27_1, hxr27_1, h⟩ := Option.bind_eq_some_iff.mp h
  refine gg_cv (as := [.int s0]) (r := []) aMi262 rfl rfl rfl aMi185 (Nat.le_of_ble_eq_true rfl) rfl (Nat.le_of_ble_eq_true rfl) (Nat.le_of_ble_eq_true rfl) (by omega) (isK_of (sh11_z ha0)) (Tf185 (by omega) a0 ha0 s0 I _ hxr27_1) ?_
  show aGo kad d 262 (30, ([(0, .ref a0), (1, .int i1)], [.int r27_1.1])) (aMem Z r27_1.2, t) _
  refine gg_br (b := decide (¬ r27_1.1 = 0)) (tg := 35) (off := 5) aMi262 rfl rfl rfl rfl (fun hb => ?_) (fun hb => ?_)
  · rw [if_pos (of_decide_eq_true hb)] at h
    refine go_ops aMi262 2 _ (f1 := (37, ([(2, .int (0 : Int32)), (0, .ref a0), (1, .int i1)], []))) rfl ?_
    refine go_le (lv1 := [(0, .ref a0), (1, .int i1), (2, .int (0 : Int32))]) (aLe_of (show (List.map (fun q => q.1) ([(0, .ref a0), (1, .int i1), (2, .int (0 : Int32))] : ALv)).Nodup from (by show ([0, 1, 2] : List Nat).Nodup; decide)) (aSubL_cons rfl (aSubL_cons rfl (aSubL_cons rfl aSubL_nil)))) ?_
    exact Tf262_b37 hd N a0 ha0 i1 (0 : Int32) r27_1.2 _ h
  · rw [if_neg (of_decide_eq_false hb)] at h
    refine go_ops aMi262 1 _ (f1 := (34, ([(0, .ref a0), (1, .int i1)], [.int (0 : Int32)]))) rfl ?_
    cases h
    exact go_ret aMi262 rfl aRetI ⟨rfl, rfl⟩
def f262 (kad : Nat → Nat) (N : Nat) (Z : AZ) (a0 : Nat) (i1 : Int32) (I : AI) : Option (Int32 × AI) :=
  (f186 kad N Z i1 (1 : Int32) (100 : Int32) I).bind fun r5_1 =>
  if ¬ r5_1.1 = 0 then
    (f216 kad N Z a0 r5_1.2).bind fun r16_2 =>
    if r16_2.1 = 0 then
      f262_b27 kad N Z a0 i1 (2 : Int32) r16_2.2
    else
      f262_b27 kad N Z a0 i1 (0 : Int32) r16_2.2
  else
    f262_b27 kad N Z a0 i1 (1 : Int32) r5_1.2
set_option maxRecDepth 20000 in
theorem Tf262 {kad : Nat → Nat} {N : Nat} {Z : AZ} {d : Nat} {t : Option Nat × (Nat × Nat)} (hd : 8 ≤ d) : ∀ (a0 : Nat) (ha0 : sh11 kad Z a0) (i1 : Int32) (I : AI) (r : Int32 × AI), f262 kad N Z a0 i1 I = some r → aGo kad d 262 (0, ([(0, .ref a0), (1, .int i1)], [])) (aMem Z I, t) (qI Z t r) := by
  intro a0 ha0 i1 I r h
  unfold f262 at h
  refine go_ops aMi262 4 _ (f1 := (5, ([(0, .ref a0), (1, .int i1)], [.int (100 : Int32), .int (1 : Int32), .int i1, .ref a0]))) rfl ?_
  obtain ⟨r5_1, hxr5_1, h⟩ := Option.bind_eq_some_iff.mp h
  refine gg_cs (as := [.int i1, .int (1 : Int32), .int (100 : Int32)]) (r := [.ref a0]) aMi262 rfl rfl rfl aMi186 rfl (Nat.le_of_ble_eq_true rfl) (Nat.le_of_ble_eq_true rfl) (by omega) (Tf186 (by omega) i1 (1 : Int32) (100 : Int32) I _ hxr5_1) ?_
  show aGo kad d 262 (8, ([(0, .ref a0), (1, .int i1)], [.int r5_1.1, .ref a0])) (aMem Z r5_1.2, t) _
  refine gg_br (b := decide (¬ r5_1.1 = 0)) (tg := 15) (off := 7) aMi262 rfl rfl rfl rfl (fun hb => ?_) (fun hb => ?_)
  · rw [if_pos (of_decide_eq_true hb)] at h
    refine go_ops aMi262 1 _ (f1 := (16, ([(0, .ref a0), (1, .int i1)], [.ref a0, .ref a0]))) rfl ?_
    obtain ⟨r16_2, hxr16_2, h⟩ := Option.bind_eq_some_iff.mp h
    refine gg_cv (as := []) (r := [.ref a0]) aMi262 rfl rfl rfl aMi216 (Nat.le_of_ble_eq_true rfl) rfl (Nat.le_of_ble_eq_true rfl) (Nat.le_of_ble_eq_true rfl) (by omega) (isK_of (sh11_z ha0)) (Tf216 (by omega) a0 ha0 r5_1.2 _ hxr16_2) ?_
    show aGo kad d 262 (19, ([(0, .ref a0), (1, .int i1)], [.int r16_2.1, .ref a0])) (aMem Z r16_2.2, t) _
    refine gg_br (b := decide (r16_2.1 = 0)) (tg := 26) (off := 7) aMi262 rfl rfl rfl rfl (fun hb => ?_) (fun hb => ?_)
    · rw [if_pos (of_decide_eq_true hb)] at h
      refine go_ops aMi262 1 _ (f1 := (27, ([(0, .ref a0), (1, .int i1)], [.int (2 : Int32), .ref a0]))) rfl ?_
      exact Tf262_b27 hd a0 ha0 i1 (2 : Int32) r16_2.2 _ h
    · rw [if_neg (of_decide_eq_false hb)] at h
      refine go_ops aMi262 2 _ (f1 := (27, ([(0, .ref a0), (1, .int i1)], [.int (0 : Int32), .ref a0]))) rfl ?_
      exact Tf262_b27 hd a0 ha0 i1 (0 : Int32) r16_2.2 _ h
  · rw [if_neg (of_decide_eq_false hb)] at h
    refine go_ops aMi262 2 _ (f1 := (27, ([(0, .ref a0), (1, .int i1)], [.int (1 : Int32), .ref a0]))) rfl ?_
    exact Tf262_b27 hd a0 ha0 i1 (1 : Int32) r5_1.2 _ h
-- KernelGymModel.runTo (II)I
def f263_b95 (kad : Nat → Nat) (N : Nat) (Z : AZ) (k51 : Nat → Int32 → Int32 → Int32 → Int32 → AI → Option (Int32 × AI)) (a0 : Nat) (i1 : Int32) (i2 : Int32) (i3 : Int32) (s0 : Int32) (I : AI) : Option (Int32 × AI) :=
  k51 a0 i1 i2 i3 s0 I
set_option maxRecDepth 20000 in
theorem Tf263_b95 {kad : Nat → Nat} {N : Nat} {Z : AZ} {d : Nat} {t : Option Nat × (Nat × Nat)} (hd : 8 ≤ d) (k51 : Nat → Int32 → Int32 → Int32 → Int32 → AI → Option (Int32 × AI))  (hk51 : ∀ (a0 : Nat) (ha0 : sh11 kad Z a0) (i1 : Int32) (i2 : Int32) (i3 : Int32) (i4 : Int32) (I : AI) (r : Int32 × AI), k51 a0 i1 i2 i3 i4 I = some r → aGo kad d 263 (51, ([(0, .ref a0), (1, .int i1), (2, .int i2), (3, .int i3), (4, .int i4)], [])) (aMem Z I, t) (qI Z t r)) : ∀ (a0 : Nat) (ha0 : sh11 kad Z a0) (i1 : Int32) (i2 : Int32) (i3 : Int32) (s0 : Int32) (I : AI) (r : Int32 × AI), f263_b95 kad N Z k51 a0 i1 i2 i3 s0 I = some r → aGo kad d 263 (95, ([(0, .ref a0), (1, .int i1), (2, .int i2), (3, .int i3)], [.int s0])) (aMem Z I, t) (qI Z t r) := by
  intro a0 ha0 i1 i2 i3 s0 I r h
  unfold f263_b95 at h
  refine go_ops aMi263 2 _ (f1 := (51, ([(4, .int s0), (0, .ref a0), (1, .int i1), (2, .int i2), (3, .int i3)], []))) rfl ?_
  refine go_le (lv1 := [(0, .ref a0), (1, .int i1), (2, .int i2), (3, .int i3), (4, .int s0)]) (aLe_of (show (List.map (fun q => q.1) ([(0, .ref a0), (1, .int i1), (2, .int i2), (3, .int i3), (4, .int s0)] : ALv)).Nodup from (by show ([0, 1, 2, 3, 4] : List Nat).Nodup; decide)) (aSubL_cons rfl (aSubL_cons rfl (aSubL_cons rfl (aSubL_cons rfl (aSubL_cons rfl aSubL_nil)))))) ?_
  exact hk51 a0 ha0 i1 i2 i3 s0 I _ h
def f263_b94 (kad : Nat → Nat) (N : Nat) (Z : AZ) (k51 : Nat → Int32 → Int32 → Int32 → Int32 → AI → Option (Int32 × AI)) (a0 : Nat) (i1 : Int32) (i2 : Int32) (i3 : Int32) (I : AI) : Option (Int32 × AI) :=
  f263_b95 kad N Z k51 a0 i1 i2 i3 (0 : Int32) I
set_option maxRecDepth 20000 in
theorem Tf263_b94 {kad : Nat → Nat} {N : Nat} {Z : AZ} {d : Nat} {t : Option Nat × (Nat × Nat)} (hd : 8 ≤ d) (k51 : Nat → Int32 → Int32 → Int32 → Int32 → AI → Option (Int32 × AI))  (hk51 : ∀ (a0 : Nat) (ha0 : sh11 kad Z a0) (i1 : Int32) (i2 : Int32) (i3 : Int32) (i4 : Int32) (I : AI) (r : Int32 × AI), k51 a0 i1 i2 i3 i4 I = some r → aGo kad d 263 (51, ([(0, .ref a0), (1, .int i1), (2, .int i2), (3, .int i3), (4, .int i4)], [])) (aMem Z I, t) (qI Z t r)) : ∀ (a0 : Nat) (ha0 : sh11 kad Z a0) (i1 : Int32) (i2 : Int32) (i3 : Int32) (I : AI) (r : Int32 × AI), f263_b94 kad N Z k51 a0 i1 i2 i3 I = some r → aGo kad d 263 (94, ([(0, .ref a0), (1, .int i1), (2, .int i2), (3, .int i3)], [])) (aMem Z I, t) (qI Z t r) := by
  intro a0 ha0 i1 i2 i3 I r h
  unfold f263_b94 at h
  refine go_ops aMi263 1 _ (f1 := (95, ([(0, .ref a0), (1, .int i1), (2, .int i2), (3, .int i3)], [.int (0 : Int32)]))) rfl ?_
  exact Tf263_b95 hd k51 hk51 a0 ha0 i1 i2 i3 (0 : Int32) I _ h
def f263_b100 (kad : Nat → Nat) (N : Nat) (Z : AZ) (a0 : Nat) (i3 : Int32) (I : AI) : Option (Int32 × AI) :=
  some (i3, I)
set_option maxRecDepth 20000 in
theorem Tf263_b100 {kad : Nat → Nat} {N : Nat} {Z : AZ} {d : Nat} {t : Option Nat × (Nat × Nat)} (hd : 8 ≤ d) : ∀ (a0 : Nat) (ha0 : sh11 kad Z a0) (i3 : Int32) (I : AI) (r : Int32 × AI), f263_b100 kad N Z a0 i3 I = some r → aGo kad d 263 (100, ([(3, .int i3)], [])) (aMem Z I, t) (qI Z t r) := by
  intro a0 ha0 i3 I r h
  unfold f263_b100 at h
  refine go_ops aMi263 1 _ (f1 := (101, ([(3, .int i3)], [.int i3]))) rfl ?_
  cases h
  exact go_ret aMi263 rfl aRetI ⟨rfl, rfl⟩
def f263_b51 (kad : Nat → Nat) (N : Nat) (Z : AZ) : Nat → Nat → Int32 → Int32 → Int32 → Int32 → AI → Option (Int32 × AI)
  | 0, _, _, _, _, _, _ => none
  | F + 1, a0, i1, i2, i3, i4, I =>
    if i2 ≤ i3 then
      f263_b100 kad N Z a0 i3 I
    else
      if ¬ i4 = 0 then
        f263_b100 kad N Z a0 i3 I
      else
        (f260 kad N Z a0 I).bind fun r62_1 =>
        if r62_1.1 = 0 then
          f263_b100 kad N Z a0 i3 r62_1.2
        else
          (f261 kad N Z a0 r62_1.2).bind fun r69_2 =>
          if ¬ ((r69_2.2) a0 27) = i1 then
            f263_b94 kad N Z (fun p0 p1 p2 p3 p4 I => f263_b51 kad N Z F p0 p1 p2 p3 p4 I) a0 i1 i2 (i3 + (1 : Int32)) r69_2.2
          else
            if ¬ ((r69_2.2) a0 46) = 0 then
              f263_b94 kad N Z (fun p0 p1 p2 p3 p4 I => f263_b51 kad N Z F p0 p1 p2 p3 p4 I) a0 i1 i2 (i3 + (1 : Int32)) r69_2.2
            else
              f263_b95 kad N Z (fun p0 p1 p2 p3 p4 I => f263_b51 kad N Z F p0 p1 p2 p3 p4 I) a0 i1 i2 (i3 + (1 : Int32)) (1 : Int32) r69_2.2
set_option maxRecDepth 20000 in
theorem Tf263_b51 {kad : Nat → Nat} {N : Nat} {Z : AZ} {d : Nat} {t : Option Nat × (Nat × Nat)} (hd : 8 ≤ d) : ∀ (F : Nat) (a0 : Nat) (ha0 : sh11 kad Z a0) (i1 : Int32) (i2 : Int32) (i3 : Int32) (i4 : Int32) (I : AI) (r : Int32 × AI), f263_b51 kad N Z F a0 i1 i2 i3 i4 I = some r → aGo kad d 263 (51, ([(0, .ref a0), (1, .int i1), (2, .int i2), (3, .int i3), (4, .int i4)], [])) (aMem Z I, t) (qI Z t r) := by
  intro F
  induction F with
  | zero => intro a0 ha0 i1 i2 i3 i4 I r h; cases h
  | succ F ih =>
    intro a0 ha0 i1 i2 i3 i4 I r h
    unfold f263_b51 at h
    refine go_ops aMi263 2 _ (f1 := (53, ([(0, .ref a0), (1, .int i1), (2, .int i2), (3, .int i3), (4, .int i4)], [.int i2, .int i3]))) rfl ?_
    refine gg_br (b := decide (i2 ≤ i3)) (tg := 100) (off := 47) aMi263 rfl rfl rfl rfl (fun hb => ?_) (fun hb => ?_)
    · rw [if_pos (of_decide_eq_true hb)] at h
      refine go_le (lv1 := [(3, .int i3)]) (aLe_of (show (List.map (fun q => q.1) ([(3, .int i3)] : ALv)).Nodup from (by show ([3] : List Nat).Nodup; decide)) (aSubL_cons rfl aSubL_nil)) ?_
      exact Tf263_b100 hd a0 ha0 i3 I _ h
    · rw [if_neg (of_decide_eq_false hb)] at h
      refine go_ops aMi263 1 _ (f1 := (58, ([(0, .ref a0), (1, .int i1), (2, .int i2), (3, .int i3), (4, .int i4)], [.int i4]))) rfl ?_
      refine gg_br (b := decide (¬ i4 = 0)) (tg := 100) (off := 42) aMi263 rfl rfl rfl rfl (fun hb => ?_) (fun hb => ?_)
      · rw [if_pos (of_decide_eq_true hb)] at h
        refine go_le (lv1 := [(3, .int i3)]) (aLe_of (show (List.map (fun q => q.1) ([(3, .int i3)] : ALv)).Nodup from (by show ([3] : List Nat).Nodup; decide)) (aSubL_cons rfl aSubL_nil)) ?_
        exact Tf263_b100 hd a0 ha0 i3 I _ h
      · rw [if_neg (of_decide_eq_false hb)] at h
        refine go_ops aMi263 1 _ (f1 := (62, ([(0, .ref a0), (1, .int i1), (2, .int i2), (3, .int i3), (4, .int i4)], [.ref a0]))) rfl ?_
        obtain ⟨r62_1, hxr62_1, h⟩ := Option.bind_eq_some_iff.mp h
        refine gg_cv (as := []) (r := []) aMi263 rfl rfl rfl aMi260 (Nat.le_of_ble_eq_true rfl) rfl (Nat.le_of_ble_eq_true rfl) (Nat.le_of_ble_eq_true rfl) (by omega) (isK_of (sh11_z ha0)) (Tf260 (by omega) a0 ha0 I _ hxr62_1) ?_
        show aGo kad d 263 (65, ([(0, .ref a0), (1, .int i1), (2, .int i2), (3, .int i3), (4, .int i4)], [.int r62_1.1])) (aMem Z r62_1.2, t) _
        refine gg_br (b := decide (r62_1.1 = 0)) (tg := 100) (off := 35) aMi263 rfl rfl rfl rfl (fun hb => ?_) (fun hb => ?_)
        · rw [if_pos (of_decide_eq_true hb)] at h
          refine go_le (lv1 := [(3, .int i3)]) (aLe_of (show (List.map (fun q => q.1) ([(3, .int i3)] : ALv)).Nodup from (by show ([3] : List Nat).Nodup; decide)) (aSubL_cons rfl aSubL_nil)) ?_
          exact Tf263_b100 hd a0 ha0 i3 r62_1.2 _ h
        · rw [if_neg (of_decide_eq_false hb)] at h
          refine go_ops aMi263 1 _ (f1 := (69, ([(0, .ref a0), (1, .int i1), (2, .int i2), (3, .int i3), (4, .int i4)], [.ref a0]))) rfl ?_
          obtain ⟨r69_2, hxr69_2, h⟩ := Option.bind_eq_some_iff.mp h
          refine gg_cv (as := []) (r := []) aMi263 rfl rfl rfl aMi261 (Nat.le_of_ble_eq_true rfl) rfl (Nat.le_of_ble_eq_true rfl) (Nat.le_of_ble_eq_true rfl) (by omega) (isK_of (sh11_z ha0)) (Tf261 (by omega) a0 ha0 r62_1.2 _ hxr69_2) ?_
          show aGo kad d 263 (72, ([(0, .ref a0), (1, .int i1), (2, .int i2), (3, .int i3), (4, .int i4)], [])) (aMem Z r69_2.2, t) _
          refine go_ops aMi263 2 _ (f1 := (76, ([(3, .int (i3 + (1 : Int32))), (0, .ref a0), (1, .int i1), (2, .int i2), (4, .int i4)], [.ref a0]))) rfl ?_
          refine gg_gI aMi263 rfl rfl rfl (gI_of (sh11_z ha0)) ?_
          refine go_ops aMi263 1 _ (f1 := (80, ([(3, .int (i3 + (1 : Int32))), (0, .ref a0), (1, .int i1), (2, .int i2), (4, .int i4)], [.int i1, .int ((r69_2.2) a0 27)]))) rfl ?_
          refine gg_br (b := decide (¬ ((r69_2.2) a0 27) = i1)) (tg := 94) (off := 14) aMi263 rfl rfl rfl rfl (fun hb => ?_) (fun hb => ?_)
          · rw [if_pos (of_decide_eq_true hb)] at h
            refine go_le (lv1 := [(0, .ref a0), (1, .int i1), (2, .int i2), (3, .int (i3 + (1 : Int32)))]) (aLe_of (show (List.map (fun q => q.1) ([(0, .ref a0), (1, .int i1), (2, .int i2), (3, .int (i3 + (1 : Int32)))] : ALv)).Nodup from (by show ([0, 1, 2, 3] : List Nat).Nodup; decide)) (aSubL_cons rfl (aSubL_cons rfl (aSubL_cons rfl (aSubL_cons rfl aSubL_nil))))) ?_
            exact Tf263_b94 hd (fun p0 p1 p2 p3 p4 I => f263_b51 kad N Z F p0 p1 p2 p3 p4 I) (fun p0 q0 p1 p2 p3 p4 I r hh => ih p0 q0 p1 p2 p3 p4 I r hh) a0 ha0 i1 i2 (i3 + (1 : Int32)) r69_2.2 _ h
          · rw [if_neg (of_decide_eq_false hb)] at h
            refine go_ops aMi263 1 _ (f1 := (84, ([(3, .int (i3 + (1 : Int32))), (0, .ref a0), (1, .int i1), (2, .int i2), (4, .int i4)], [.ref a0]))) rfl ?_
            refine gg_gI aMi263 rfl rfl rfl (gI_of (sh11_z ha0)) ?_
            refine gg_br (b := decide (¬ ((r69_2.2) a0 46) = 0)) (tg := 94) (off := 7) aMi263 rfl rfl rfl rfl (fun hb => ?_) (fun hb => ?_)
            · rw [if_pos (of_decide_eq_true hb)] at h
              refine go_le (lv1 := [(0, .ref a0), (1, .int i1), (2, .int i2), (3, .int (i3 + (1 : Int32)))]) (aLe_of (show (List.map (fun q => q.1) ([(0, .ref a0), (1, .int i1), (2, .int i2), (3, .int (i3 + (1 : Int32)))] : ALv)).Nodup from (by show ([0, 1, 2, 3] : List Nat).Nodup; decide)) (aSubL_cons rfl (aSubL_cons rfl (aSubL_cons rfl (aSubL_cons rfl aSubL_nil))))) ?_
              exact Tf263_b94 hd (fun p0 p1 p2 p3 p4 I => f263_b51 kad N Z F p0 p1 p2 p3 p4 I) (fun p0 q0 p1 p2 p3 p4 I r hh => ih p0 q0 p1 p2 p3 p4 I r hh) a0 ha0 i1 i2 (i3 + (1 : Int32)) r69_2.2 _ h
            · rw [if_neg (of_decide_eq_false hb)] at h
              refine go_ops aMi263 2 _ (f1 := (95, ([(3, .int (i3 + (1 : Int32))), (0, .ref a0), (1, .int i1), (2, .int i2), (4, .int i4)], [.int (1 : Int32)]))) rfl ?_
              refine go_le (lv1 := [(0, .ref a0), (1, .int i1), (2, .int i2), (3, .int (i3 + (1 : Int32)))]) (aLe_of (show (List.map (fun q => q.1) ([(0, .ref a0), (1, .int i1), (2, .int i2), (3, .int (i3 + (1 : Int32)))] : ALv)).Nodup from (by show ([0, 1, 2, 3] : List Nat).Nodup; decide)) (aSubL_cons rfl (aSubL_cons rfl (aSubL_cons rfl (aSubL_cons rfl aSubL_nil))))) ?_
              exact Tf263_b95 hd (fun p0 p1 p2 p3 p4 I => f263_b51 kad N Z F p0 p1 p2 p3 p4 I) (fun p0 q0 p1 p2 p3 p4 I r hh => ih p0 q0 p1 p2 p3 p4 I r hh) a0 ha0 i1 i2 (i3 + (1 : Int32)) (1 : Int32) r69_2.2 _ h
def f263_b38 (kad : Nat → Nat) (N : Nat) (Z : AZ) (a0 : Nat) (i1 : Int32) (i2 : Int32) (s0 : Int32) (I : AI) : Option (Int32 × AI) :=
  (f185 kad N Z a0 s0 I).bind fun r38_1 =>
  if ¬ r38_1.1 = 0 then
    f263_b51 kad N Z N a0 i1 i2 (0 : Int32) (0 : Int32) r38_1.2
  else
    some ((0 : Int32), r38_1.2)
set_option maxRecDepth 20000 in
theorem Tf263_b38 {kad : Nat → Nat} {N : Nat} {Z : AZ} {d : Nat} {t : Option Nat × (Nat × Nat)} (hd : 8 ≤ d) : ∀ (a0 : Nat) (ha0 : sh11 kad Z a0) (i1 : Int32) (i2 : Int32) (s0 : Int32) (I : AI) (r : Int32 × AI), f263_b38 kad N Z a0 i1 i2 s0 I = some r → aGo kad d 263 (38, ([(0, .ref a0), (1, .int i1), (2, .int i2)], [.int s0, .ref a0])) (aMem Z I, t) (qI Z t r) := by
  intro a0 ha0 i1 i2 s0 I r h
  unfold f263_b38 at h
  obtain ⟨r38_1, hxr38_1, h⟩ := Option.bind_eq_some_iff.mp h
  refine gg_cv (as := [.int s0]) (r := []) aMi263 rfl rfl rfl aMi185 (Nat.le_of_ble_eq_true rfl) rfl (Nat.le_of_ble_eq_true rfl) (Nat.le_of_ble_eq_true rfl) (by omega) (isK_of (sh11_z ha0)) (Tf185 (by omega) a0 ha0 s0 I _ hxr38_1) ?_
  show aGo kad d 263 (41, ([(0, .ref a0), (1, .int i1), (2, .int i2)], [.int r38_1.1])) (aMem Z r38_1.2, t) _
  refine gg_br (b := decide (¬ r38_1.1 = 0)) (tg := 46) (off := 5) aMi263 rfl rfl rfl rfl (fun hb => ?_) (fun hb => ?_)
  · rw [if_pos (of_decide_eq_true hb)] at h
    refine go_ops aMi263 4 _ (f1 := (51, ([(4, .int (0 : Int32)), (3, .int (0 : Int32)), (0, .ref a0), (1, .int i1), (2, .int i2)], []))) rfl ?_
    refine go_le (lv1 := [(0, .ref a0), (1, .int i1), (2, .int i2), (3, .int (0 : Int32)), (4, .int (0 : Int32))]) (aLe_of (show (List.map (fun q => q.1) ([(0, .ref a0), (1, .int i1), (2, .int i2), (3, .int (0 : Int32)), (4, .int (0 : Int32))] : ALv)).Nodup from (by show ([0, 1, 2, 3, 4] : List Nat).Nodup; decide)) (aSubL_cons rfl (aSubL_cons rfl (aSubL_cons rfl (aSubL_cons rfl (aSubL_cons rfl aSubL_nil)))))) ?_
    exact Tf263_b51 hd N a0 ha0 i1 i2 (0 : Int32) (0 : Int32) r38_1.2 _ h
  · rw [if_neg (of_decide_eq_false hb)] at h
    refine go_ops aMi263 1 _ (f1 := (45, ([(0, .ref a0), (1, .int i1), (2, .int i2)], [.int (0 : Int32)]))) rfl ?_
    cases h
    exact go_ret aMi263 rfl aRetI ⟨rfl, rfl⟩
def f263_b22 (kad : Nat → Nat) (N : Nat) (Z : AZ) (a0 : Nat) (i1 : Int32) (i2 : Int32) (I : AI) : Option (Int32 × AI) :=
  f263_b38 kad N Z a0 i1 i2 (1 : Int32) I
set_option maxRecDepth 20000 in
theorem Tf263_b22 {kad : Nat → Nat} {N : Nat} {Z : AZ} {d : Nat} {t : Option Nat × (Nat × Nat)} (hd : 8 ≤ d) : ∀ (a0 : Nat) (ha0 : sh11 kad Z a0) (i1 : Int32) (i2 : Int32) (I : AI) (r : Int32 × AI), f263_b22 kad N Z a0 i1 i2 I = some r → aGo kad d 263 (22, ([(0, .ref a0), (1, .int i1), (2, .int i2)], [.ref a0])) (aMem Z I, t) (qI Z t r) := by
  intro a0 ha0 i1 i2 I r h
  unfold f263_b22 at h
  refine go_ops aMi263 2 _ (f1 := (38, ([(0, .ref a0), (1, .int i1), (2, .int i2)], [.int (1 : Int32), .ref a0]))) rfl ?_
  exact Tf263_b38 hd a0 ha0 i1 i2 (1 : Int32) I _ h
def f263 (kad : Nat → Nat) (N : Nat) (Z : AZ) (a0 : Nat) (i1 : Int32) (i2 : Int32) (I : AI) : Option (Int32 × AI) :=
  (f186 kad N Z i1 (0 : Int32) (255 : Int32) I).bind fun r6_1 =>
  if r6_1.1 = 0 then
    f263_b22 kad N Z a0 i1 i2 r6_1.2
  else
    (f186 kad N Z i2 (1 : Int32) (100 : Int32) r6_1.2).bind fun r16_2 =>
    if ¬ r16_2.1 = 0 then
      (f216 kad N Z a0 r16_2.2).bind fun r27_3 =>
      if r27_3.1 = 0 then
        f263_b38 kad N Z a0 i1 i2 (2 : Int32) r27_3.2
      else
        f263_b38 kad N Z a0 i1 i2 (0 : Int32) r27_3.2
    else
      f263_b22 kad N Z a0 i1 i2 r16_2.2
set_option maxRecDepth 20000 in
theorem Tf263 {kad : Nat → Nat} {N : Nat} {Z : AZ} {d : Nat} {t : Option Nat × (Nat × Nat)} (hd : 8 ≤ d) : ∀ (a0 : Nat) (ha0 : sh11 kad Z a0) (i1 : Int32) (i2 : Int32) (I : AI) (r : Int32 × AI), f263 kad N Z a0 i1 i2 I = some r → aGo kad d 263 (0, ([(0, .ref a0), (1, .int i1), (2, .int i2)], [])) (aMem Z I, t) (qI Z t r) := by
  intro a0 ha0 i1 i2 I r h
  unfold f263 at h
  refine go_ops aMi263 4 _ (f1 := (6, ([(0, .ref a0), (1, .int i1), (2, .int i2)], [.int (255 : Int32), .int (0 : Int32), .int i1, .ref a0]))) rfl ?_
  obtain ⟨r6_1, hxr6_1, h⟩ := Option.bind_eq_some_iff.mp h
  refine gg_cs (as := [.int i1, .int (0 : Int32), .int (255 : Int32)]) (r := [.ref a0]) aMi263 rfl rfl rfl aMi186 rfl (Nat.le_of_ble_eq_true rfl) (Nat.le_of_ble_eq_true rfl) (by omega) (Tf186 (by omega) i1 (0 : Int32) (255 : Int32) I _ hxr6_1) ?_
  show aGo kad d 263 (9, ([(0, .ref a0), (1, .int i1), (2, .int i2)], [.int r6_1.1, .ref a0])) (aMem Z r6_1.2, t) _
  refine gg_br (b := decide (r6_1.1 = 0)) (tg := 22) (off := 13) aMi263 rfl rfl rfl rfl (fun hb => ?_) (fun hb => ?_)
  · rw [if_pos (of_decide_eq_true hb)] at h
    exact Tf263_b22 hd a0 ha0 i1 i2 r6_1.2 _ h
  · rw [if_neg (of_decide_eq_false hb)] at h
    refine go_ops aMi263 3 _ (f1 := (16, ([(0, .ref a0), (1, .int i1), (2, .int i2)], [.int (100 : Int32), .int (1 : Int32), .int i2, .ref a0]))) rfl ?_
    obtain ⟨r16_2, hxr16_2, h⟩ := Option.bind_eq_some_iff.mp h
    refine gg_cs (as := [.int i2, .int (1 : Int32), .int (100 : Int32)]) (r := [.ref a0]) aMi263 rfl rfl rfl aMi186 rfl (Nat.le_of_ble_eq_true rfl) (Nat.le_of_ble_eq_true rfl) (by omega) (Tf186 (by omega) i2 (1 : Int32) (100 : Int32) r6_1.2 _ hxr16_2) ?_
    show aGo kad d 263 (19, ([(0, .ref a0), (1, .int i1), (2, .int i2)], [.int r16_2.1, .ref a0])) (aMem Z r16_2.2, t) _
    refine gg_br (b := decide (¬ r16_2.1 = 0)) (tg := 26) (off := 7) aMi263 rfl rfl rfl rfl (fun hb => ?_) (fun hb => ?_)
    · rw [if_pos (of_decide_eq_true hb)] at h
      refine go_ops aMi263 1 _ (f1 := (27, ([(0, .ref a0), (1, .int i1), (2, .int i2)], [.ref a0, .ref a0]))) rfl ?_
      obtain ⟨r27_3, hxr27_3, h⟩ := Option.bind_eq_some_iff.mp h
      refine gg_cv (as := []) (r := [.ref a0]) aMi263 rfl rfl rfl aMi216 (Nat.le_of_ble_eq_true rfl) rfl (Nat.le_of_ble_eq_true rfl) (Nat.le_of_ble_eq_true rfl) (by omega) (isK_of (sh11_z ha0)) (Tf216 (by omega) a0 ha0 r16_2.2 _ hxr27_3) ?_
      show aGo kad d 263 (30, ([(0, .ref a0), (1, .int i1), (2, .int i2)], [.int r27_3.1, .ref a0])) (aMem Z r27_3.2, t) _
      refine gg_br (b := decide (r27_3.1 = 0)) (tg := 37) (off := 7) aMi263 rfl rfl rfl rfl (fun hb => ?_) (fun hb => ?_)
      · rw [if_pos (of_decide_eq_true hb)] at h
        refine go_ops aMi263 1 _ (f1 := (38, ([(0, .ref a0), (1, .int i1), (2, .int i2)], [.int (2 : Int32), .ref a0]))) rfl ?_
        exact Tf263_b38 hd a0 ha0 i1 i2 (2 : Int32) r27_3.2 _ h
      · rw [if_neg (of_decide_eq_false hb)] at h
        refine go_ops aMi263 2 _ (f1 := (38, ([(0, .ref a0), (1, .int i1), (2, .int i2)], [.int (0 : Int32), .ref a0]))) rfl ?_
        exact Tf263_b38 hd a0 ha0 i1 i2 (0 : Int32) r27_3.2 _ h
    · rw [if_neg (of_decide_eq_false hb)] at h
      exact Tf263_b22 hd a0 ha0 i1 i2 r16_2.2 _ h
-- KernelGymModel.back (I)I
def f264_b52 (kad : Nat → Nat) (N : Nat) (Z : AZ) (a0 : Nat) (s0 : Int32) (I : AI) : Option (Int32 × AI) :=
  (wI I a0 40 ((I a0 40) - s0)).bind fun I67_1 =>
  (f256 kad N Z a0 ((I a0 38) - s0) I67_1).bind fun r72_2 =>
  some (s0, r72_2.2)
set_option maxRecDepth 20000 in
theorem Tf264_b52 {kad : Nat → Nat} {N : Nat} {Z : AZ} {d : Nat} {t : Option Nat × (Nat × Nat)} (hd : 8 ≤ d) : ∀ (a0 : Nat) (ha0 : sh11 kad Z a0) (s0 : Int32) (I : AI) (r : Int32 × AI), f264_b52 kad N Z a0 s0 I = some r → aGo kad d 264 (52, ([(0, .ref a0)], [.int s0])) (aMem Z I, t) (qI Z t r) := by
  intro a0 ha0 s0 I r h
  unfold f264_b52 at h
  refine go_ops aMi264 2 _ (f1 := (54, ([(2, .int s0), (0, .ref a0)], [.ref a0]))) rfl ?_
  refine gg_gI aMi264 rfl rfl rfl (gI_of (sh11_z ha0)) ?_
  refine go_ops aMi264 5 _ (f1 := (62, ([(3, .int ((I a0 38) - s0)), (2, .int s0), (0, .ref a0)], [.ref a0, .ref a0]))) rfl ?_
  refine gg_gI aMi264 rfl rfl rfl (gI_of (sh11_z ha0)) ?_
  refine go_ops aMi264 2 _ (f1 := (67, ([(3, .int ((I a0 38) - s0)), (2, .int s0), (0, .ref a0)], [.int ((I a0 40) - s0), .ref a0]))) rfl ?_
  obtain ⟨I67_1, hxI67_1, h⟩ := Option.bind_eq_some_iff.mp h
  refine gg_pI aMi264 rfl rfl rfl rfl (by decide) (pI_of (sh11_z ha0) hxI67_1) ?_
  refine go_ops aMi264 2 _ (f1 := (72, ([(3, .int ((I a0 38) - s0)), (2, .int s0), (0, .ref a0)], [.int ((I a0 38) - s0), .ref a0]))) rfl ?_
  obtain ⟨r72_2, hxr72_2, h⟩ := Option.bind_eq_some_iff.mp h
  refine gg_cv (as := [.int ((I a0 38) - s0)]) (r := []) aMi264 rfl rfl rfl aMi256 (Nat.le_of_ble_eq_true rfl) rfl (Nat.le_of_ble_eq_true rfl) (Nat.le_of_ble_eq_true rfl) (by omega) (isK_of (sh11_z ha0)) (Tf256 (by omega) a0 ha0 ((I a0 38) - s0) I67_1 _ hxr72_2) ?_
  show aGo kad d 264 (75, ([(3, .int ((I a0 38) - s0)), (2, .int s0), (0, .ref a0)], [])) (aMem Z r72_2.2, t) _
  refine go_ops aMi264 1 _ (f1 := (76, ([(3, .int ((I a0 38) - s0)), (2, .int s0), (0, .ref a0)], [.int s0]))) rfl ?_
  cases h
  exact go_ret aMi264 rfl aRetI ⟨rfl, rfl⟩
def f264_b28 (kad : Nat → Nat) (N : Nat) (Z : AZ) (a0 : Nat) (i1 : Int32) (s0 : Int32) (I : AI) : Option (Int32 × AI) :=
  (f185 kad N Z a0 s0 I).bind fun r28_1 =>
  if ¬ r28_1.1 = 0 then
    if ((r28_1.2) a0 40) ≤ i1 then
      f264_b52 kad N Z a0 ((r28_1.2) a0 40) r28_1.2
    else
      f264_b52 kad N Z a0 i1 r28_1.2
  else
    some ((0 : Int32), r28_1.2)
set_option maxRecDepth 20000 in
theorem Tf264_b28 {kad : Nat → Nat} {N : Nat} {Z : AZ} {d : Nat} {t : Option Nat × (Nat × Nat)} (hd : 8 ≤ d) : ∀ (a0 : Nat) (ha0 : sh11 kad Z a0) (i1 : Int32) (s0 : Int32) (I : AI) (r : Int32 × AI), f264_b28 kad N Z a0 i1 s0 I = some r → aGo kad d 264 (28, ([(0, .ref a0), (1, .int i1)], [.int s0, .ref a0])) (aMem Z I, t) (qI Z t r) := by
  intro a0 ha0 i1 s0 I r h
  unfold f264_b28 at h
  obtain ⟨r28_1, hxr28_1, h⟩ := Option.bind_eq_some_iff.mp h
  refine gg_cv (as := [.int s0]) (r := []) aMi264 rfl rfl rfl aMi185 (Nat.le_of_ble_eq_true rfl) rfl (Nat.le_of_ble_eq_true rfl) (Nat.le_of_ble_eq_true rfl) (by omega) (isK_of (sh11_z ha0)) (Tf185 (by omega) a0 ha0 s0 I _ hxr28_1) ?_
  show aGo kad d 264 (31, ([(0, .ref a0), (1, .int i1)], [.int r28_1.1])) (aMem Z r28_1.2, t) _
  refine gg_br (b := decide (¬ r28_1.1 = 0)) (tg := 36) (off := 5) aMi264 rfl rfl rfl rfl (fun hb => ?_) (fun hb => ?_)
  · rw [if_pos (of_decide_eq_true hb)] at h
    refine go_ops aMi264 2 _ (f1 := (38, ([(0, .ref a0), (1, .int i1)], [.ref a0, .int i1]))) rfl ?_
    refine gg_gI aMi264 rfl rfl rfl (gI_of (sh11_z ha0)) ?_
    refine gg_br (b := decide (((r28_1.2) a0 40) ≤ i1)) (tg := 48) (off := 7) aMi264 rfl rfl rfl rfl (fun hb => ?_) (fun hb => ?_)
    · rw [if_pos (of_decide_eq_true hb)] at h
      refine go_ops aMi264 1 _ (f1 := (49, ([(0, .ref a0), (1, .int i1)], [.ref a0]))) rfl ?_
      refine gg_gI aMi264 rfl rfl rfl (gI_of (sh11_z ha0)) ?_
      refine go_le (lv1 := [(0, .ref a0)]) (aLe_of (show (List.map (fun q => q.1) ([(0, .ref a0)] : ALv)).Nodup from (by show ([0] : List Nat).Nodup; decide)) (aSubL_cons rfl aSubL_nil)) ?_
      exact Tf264_b52 hd a0 ha0 ((r28_1.2) a0 40) r28_1.2 _ h
    · rw [if_neg (of_decide_eq_false hb)] at h
      refine go_ops aMi264 2 _ (f1 := (52, ([(0, .ref a0), (1, .int i1)], [.int i1]))) rfl ?_
      refine go_le (lv1 := [(0, .ref a0)]) (aLe_of (show (List.map (fun q => q.1) ([(0, .ref a0)] : ALv)).Nodup from (by show ([0] : List Nat).Nodup; decide)) (aSubL_cons rfl aSubL_nil)) ?_
      exact Tf264_b52 hd a0 ha0 i1 r28_1.2 _ h
  · rw [if_neg (of_decide_eq_false hb)] at h
    refine go_ops aMi264 1 _ (f1 := (35, ([(0, .ref a0), (1, .int i1)], [.int (0 : Int32)]))) rfl ?_
    cases h
    exact go_ret aMi264 rfl aRetI ⟨rfl, rfl⟩
def f264 (kad : Nat → Nat) (N : Nat) (Z : AZ) (a0 : Nat) (i1 : Int32) (I : AI) : Option (Int32 × AI) :=
  (f186 kad N Z i1 (1 : Int32) (200 : Int32) I).bind fun r6_1 =>
  if ¬ r6_1.1 = 0 then
    (f216 kad N Z a0 r6_1.2).bind fun r17_2 =>
    if r17_2.1 = 0 then
      f264_b28 kad N Z a0 i1 (2 : Int32) r17_2.2
    else
      f264_b28 kad N Z a0 i1 (0 : Int32) r17_2.2
  else
    f264_b28 kad N Z a0 i1 (1 : Int32) r6_1.2
set_option maxRecDepth 20000 in
theorem Tf264 {kad : Nat → Nat} {N : Nat} {Z : AZ} {d : Nat} {t : Option Nat × (Nat × Nat)} (hd : 8 ≤ d) : ∀ (a0 : Nat) (ha0 : sh11 kad Z a0) (i1 : Int32) (I : AI) (r : Int32 × AI), f264 kad N Z a0 i1 I = some r → aGo kad d 264 (0, ([(0, .ref a0), (1, .int i1)], [])) (aMem Z I, t) (qI Z t r) := by
  intro a0 ha0 i1 I r h
  unfold f264 at h
  refine go_ops aMi264 4 _ (f1 := (6, ([(0, .ref a0), (1, .int i1)], [.int (200 : Int32), .int (1 : Int32), .int i1, .ref a0]))) rfl ?_
  obtain ⟨r6_1, hxr6_1, h⟩ := Option.bind_eq_some_iff.mp h
  refine gg_cs (as := [.int i1, .int (1 : Int32), .int (200 : Int32)]) (r := [.ref a0]) aMi264 rfl rfl rfl aMi186 rfl (Nat.le_of_ble_eq_true rfl) (Nat.le_of_ble_eq_true rfl) (by omega) (Tf186 (by omega) i1 (1 : Int32) (200 : Int32) I _ hxr6_1) ?_
  show aGo kad d 264 (9, ([(0, .ref a0), (1, .int i1)], [.int r6_1.1, .ref a0])) (aMem Z r6_1.2, t) _
  refine gg_br (b := decide (¬ r6_1.1 = 0)) (tg := 16) (off := 7) aMi264 rfl rfl rfl rfl (fun hb => ?_) (fun hb => ?_)
  · rw [if_pos (of_decide_eq_true hb)] at h
    refine go_ops aMi264 1 _ (f1 := (17, ([(0, .ref a0), (1, .int i1)], [.ref a0, .ref a0]))) rfl ?_
    obtain ⟨r17_2, hxr17_2, h⟩ := Option.bind_eq_some_iff.mp h
    refine gg_cv (as := []) (r := [.ref a0]) aMi264 rfl rfl rfl aMi216 (Nat.le_of_ble_eq_true rfl) rfl (Nat.le_of_ble_eq_true rfl) (Nat.le_of_ble_eq_true rfl) (by omega) (isK_of (sh11_z ha0)) (Tf216 (by omega) a0 ha0 r6_1.2 _ hxr17_2) ?_
    show aGo kad d 264 (20, ([(0, .ref a0), (1, .int i1)], [.int r17_2.1, .ref a0])) (aMem Z r17_2.2, t) _
    refine gg_br (b := decide (r17_2.1 = 0)) (tg := 27) (off := 7) aMi264 rfl rfl rfl rfl (fun hb => ?_) (fun hb => ?_)
    · rw [if_pos (of_decide_eq_true hb)] at h
      refine go_ops aMi264 1 _ (f1 := (28, ([(0, .ref a0), (1, .int i1)], [.int (2 : Int32), .ref a0]))) rfl ?_
      exact Tf264_b28 hd a0 ha0 i1 (2 : Int32) r17_2.2 _ h
    · rw [if_neg (of_decide_eq_false hb)] at h
      refine go_ops aMi264 2 _ (f1 := (28, ([(0, .ref a0), (1, .int i1)], [.int (0 : Int32), .ref a0]))) rfl ?_
      exact Tf264_b28 hd a0 ha0 i1 (0 : Int32) r17_2.2 _ h
  · rw [if_neg (of_decide_eq_false hb)] at h
    refine go_ops aMi264 2 _ (f1 := (28, ([(0, .ref a0), (1, .int i1)], [.int (1 : Int32), .ref a0]))) rfl ?_
    exact Tf264_b28 hd a0 ha0 i1 (1 : Int32) r6_1.2 _ h
-- KernelGymModel.press (I)I
def f265_b103 (kad : Nat → Nat) (N : Nat) (Z : AZ) (a0 : Nat) (i1 : Int32) (i2 : Int32) (I : AI) : Option (Int32 × AI) :=
  (ixA 20 i2).bind fun j112_2 =>
  (wI I (a0 + 18) j112_2 (I a0 38)).bind fun I112_1 =>
  (ixA 20 i2).bind fun j119_4 =>
  (wI I112_1 (a0 + 19) j119_4 i1).bind fun I119_3 =>
  (wI I119_3 a0 43 ((I119_3 a0 43) + (1 : Int32))).bind fun I127_5 =>
  (wI I127_5 a0 33 (1 : Int32)).bind fun I132_6 =>
  some ((I132_6 a0 43), I132_6)
set_option maxRecDepth 20000 in
theorem Tf265_b103 {kad : Nat → Nat} {N : Nat} {Z : AZ} {d : Nat} {t : Option Nat × (Nat × Nat)} (hd : 1 ≤ d) : ∀ (a0 : Nat) (ha0 : sh11 kad Z a0) (i1 : Int32) (i2 : Int32) (I : AI) (r : Int32 × AI), f265_b103 kad N Z a0 i1 i2 I = some r → aGo kad d 265 (103, ([(0, .ref a0), (1, .int i1), (2, .int i2)], [])) (aMem Z I, t) (qI Z t r) := by
  intro a0 ha0 i1 i2 I r h
  unfold f265_b103 at h
  refine go_ops aMi265 1 _ (f1 := (104, ([(0, .ref a0), (1, .int i1), (2, .int i2)], [.ref a0]))) rfl ?_
  refine gg_gR (b := (a0 + 18)) aMi265 rfl rfl rfl (gR_of (sh11_z ha0) (sh11_r41 ha0)) ?_
  refine go_ops aMi265 2 _ (f1 := (109, ([(0, .ref a0), (1, .int i1), (2, .int i2)], [.ref a0, .int i2, .ref (a0 + 18)]))) rfl ?_
  refine gg_gI aMi265 rfl rfl rfl (gI_of (sh11_z ha0)) ?_
  obtain ⟨j112_2, hxj112_2, h⟩ := Option.bind_eq_some_iff.mp h
  obtain ⟨I112_1, hxI112_1, h⟩ := Option.bind_eq_some_iff.mp h
  refine gg_sI (Or.inl ⟨rfl, rfl⟩) aMi265 rfl (sI_of (sh11_a41 ha0) hxj112_2 hxI112_1) ?_
  refine go_ops aMi265 1 _ (f1 := (114, ([(0, .ref a0), (1, .int i1), (2, .int i2)], [.ref a0]))) rfl ?_
  refine gg_gR (b := (a0 + 19)) aMi265 rfl rfl rfl (gR_of (sh11_z ha0) (sh11_r42 ha0)) ?_
  refine go_ops aMi265 2 _ (f1 := (119, ([(0, .ref a0), (1, .int i1), (2, .int i2)], [.int i1, .int i2, .ref (a0 + 19)]))) rfl ?_
  obtain ⟨j119_4, hxj119_4, h⟩ := Option.bind_eq_some_iff.mp h
  obtain ⟨I119_3, hxI119_3, h⟩ := Option.bind_eq_some_iff.mp h
  refine gg_sI (Or.inl ⟨rfl, rfl⟩) aMi265 rfl (sI_of (sh11_a42 ha0) hxj119_4 hxI119_3) ?_
  refine go_ops aMi265 2 _ (f1 := (122, ([(0, .ref a0), (1, .int i1), (2, .int i2)], [.ref a0, .ref a0]))) rfl ?_
  refine gg_gI aMi265 rfl rfl rfl (gI_of (sh11_z ha0)) ?_
  refine go_ops aMi265 2 _ (f1 := (127, ([(0, .ref a0), (1, .int i1), (2, .int i2)], [.int ((I119_3 a0 43) + (1 : Int32)), .ref a0]))) rfl ?_
  obtain ⟨I127_5, hxI127_5, h⟩ := Option.bind_eq_some_iff.mp h
  refine gg_pI aMi265 rfl rfl rfl rfl (by decide) (pI_of (sh11_z ha0) hxI127_5) ?_
  refine go_ops aMi265 2 _ (f1 := (132, ([(0, .ref a0), (1, .int i1), (2, .int i2)], [.int (1 : Int32), .ref a0]))) rfl ?_
  obtain ⟨I132_6, hxI132_6, h⟩ := Option.bind_eq_some_iff.mp h
  refine gg_pB aMi265 rfl rfl rfl rfl (by decide) (pB_lit (sh11_z ha0) (Or.inr rfl) hxI132_6) ?_
  refine go_ops aMi265 1 _ (f1 := (136, ([(0, .ref a0), (1, .int i1), (2, .int i2)], [.ref a0]))) rfl ?_
  refine gg_gI aMi265 rfl rfl rfl (gI_of (sh11_z ha0)) ?_
  cases h
  exact go_ret aMi265 rfl aRetI ⟨rfl, rfl⟩
def f265_b50 (kad : Nat → Nat) (N : Nat) (Z : AZ) : Nat → Nat → Int32 → Int32 → AI → Option (Int32 × AI)
  | 0, _, _, _, _ => none
  | F + 1, a0, i1, i2, I =>
    if i2 ≤ 0 then
      f265_b103 kad N Z a0 i1 i2 I
    else
      (ixA 20 (i2 - (1 : Int32))).bind fun j61_1 =>
      if (I (a0 + 18) j61_1) ≤ (I a0 38) then
        f265_b103 kad N Z a0 i1 i2 I
      else
        (ixA 20 (i2 - (1 : Int32))).bind fun j81_2 =>
        (ixA 20 i2).bind fun j82_4 =>
        (wI I (a0 + 18) j82_4 (I (a0 + 18) j81_2)).bind fun I82_3 =>
        (ixA 20 (i2 - (1 : Int32))).bind fun j95_5 =>
        (ixA 20 i2).bind fun j96_7 =>
        (wI I82_3 (a0 + 19) j96_7 (I82_3 (a0 + 19) j95_5)).bind fun I96_6 =>
        f265_b50 kad N Z F a0 i1 (i2 + (Int32.ofInt (-1))) I96_6
set_option maxRecDepth 20000 in
theorem Tf265_b50 {kad : Nat → Nat} {N : Nat} {Z : AZ} {d : Nat} {t : Option Nat × (Nat × Nat)} (hd : 1 ≤ d) : ∀ (F : Nat) (a0 : Nat) (ha0 : sh11 kad Z a0) (i1 : Int32) (i2 : Int32) (I : AI) (r : Int32 × AI), f265_b50 kad N Z F a0 i1 i2 I = some r → aGo kad d 265 (50, ([(0, .ref a0), (1, .int i1), (2, .int i2)], [])) (aMem Z I, t) (qI Z t r) := by
  intro F
  induction F with
  | zero => intro a0 ha0 i1 i2 I r h; cases h
  | succ F ih =>
    intro a0 ha0 i1 i2 I r h
    unfold f265_b50 at h
    refine go_ops aMi265 1 _ (f1 := (51, ([(0, .ref a0), (1, .int i1), (2, .int i2)], [.int i2]))) rfl ?_
    refine gg_br (b := decide (i2 ≤ 0)) (tg := 103) (off := 52) aMi265 rfl rfl rfl rfl (fun hb => ?_) (fun hb => ?_)
    · rw [if_pos (of_decide_eq_true hb)] at h
      exact Tf265_b103 hd a0 ha0 i1 i2 I _ h
    · rw [if_neg (of_decide_eq_false hb)] at h
      refine go_ops aMi265 1 _ (f1 := (55, ([(0, .ref a0), (1, .int i1), (2, .int i2)], [.ref a0]))) rfl ?_
      refine gg_gR (b := (a0 + 18)) aMi265 rfl rfl rfl (gR_of (sh11_z ha0) (sh11_r41 ha0)) ?_
      refine go_ops aMi265 3 _ (f1 := (61, ([(0, .ref a0), (1, .int i1), (2, .int i2)], [.int (i2 - (1 : Int32)), .ref (a0 + 18)]))) rfl ?_
      obtain ⟨j61_1, hxj61_1, h⟩ := Option.bind_eq_some_iff.mp h
      refine gg_lI (Or.inl ⟨rfl, rfl⟩) aMi265 rfl (lI_of (sh11_a41 ha0) hxj61_1) ?_
      refine go_ops aMi265 1 _ (f1 := (63, ([(0, .ref a0), (1, .int i1), (2, .int i2)], [.ref a0, .int (I (a0 + 18) j61_1)]))) rfl ?_
      refine gg_gI aMi265 rfl rfl rfl (gI_of (sh11_z ha0)) ?_
      refine gg_br (b := decide ((I (a0 + 18) j61_1) ≤ (I a0 38))) (tg := 103) (off := 37) aMi265 rfl rfl rfl rfl (fun hb => ?_) (fun hb => ?_)
      · rw [if_pos (of_decide_eq_true hb)] at h
        exact Tf265_b103 hd a0 ha0 i1 i2 I _ h
      · rw [if_neg (of_decide_eq_false hb)] at h
        refine go_ops aMi265 1 _ (f1 := (70, ([(0, .ref a0), (1, .int i1), (2, .int i2)], [.ref a0]))) rfl ?_
        refine gg_gR (b := (a0 + 18)) aMi265 rfl rfl rfl (gR_of (sh11_z ha0) (sh11_r41 ha0)) ?_
        refine go_ops aMi265 2 _ (f1 := (75, ([(0, .ref a0), (1, .int i1), (2, .int i2)], [.ref a0, .int i2, .ref (a0 + 18)]))) rfl ?_
        refine gg_gR (b := (a0 + 18)) aMi265 rfl rfl rfl (gR_of (sh11_z ha0) (sh11_r41 ha0)) ?_
        refine go_ops aMi265 3 _ (f1 := (81, ([(0, .ref a0), (1, .int i1), (2, .int i2)], [.int (i2 - (1 : Int32)), .ref (a0 + 18), .int i2, .ref (a0 + 18)]))) rfl ?_
        obtain ⟨j81_2, hxj81_2, h⟩ := Option.bind_eq_some_iff.mp h
        refine gg_lI (Or.inl ⟨rfl, rfl⟩) aMi265 rfl (lI_of (sh11_a41 ha0) hxj81_2) ?_
        obtain ⟨j82_4, hxj82_4, h⟩ := Option.bind_eq_some_iff.mp h
        obtain ⟨I82_3, hxI82_3, h⟩ := Option.bind_eq_some_iff.mp h
        refine gg_sI (Or.inl ⟨rfl, rfl⟩) aMi265 rfl (sI_of (sh11_a41 ha0) hxj82_4 hxI82_3) ?_
        refine go_ops aMi265 1 _ (f1 := (84, ([(0, .ref a0), (1, .int i1), (2, .int i2)], [.ref a0]))) rfl ?_
        refine gg_gR (b := (a0 + 19)) aMi265 rfl rfl rfl (gR_of (sh11_z ha0) (sh11_r42 ha0)) ?_
        refine go_ops aMi265 2 _ (f1 := (89, ([(0, .ref a0), (1, .int i1), (2, .int i2)], [.ref a0, .int i2, .ref (a0 + 19)]))) rfl ?_
        refine gg_gR (b := (a0 + 19)) aMi265 rfl rfl rfl (gR_of (sh11_z ha0) (sh11_r42 ha0)) ?_
        refine go_ops aMi265 3 _ (f1 := (95, ([(0, .ref a0), (1, .int i1), (2, .int i2)], [.int (i2 - (1 : Int32)), .ref (a0 + 19), .int i2, .ref (a0 + 19)]))) rfl ?_
        obtain ⟨j95_5, hxj95_5, h⟩ := Option.bind_eq_some_iff.mp h
        refine gg_lI (Or.inl ⟨rfl, rfl⟩) aMi265 rfl (lI_of (sh11_a42 ha0) hxj95_5) ?_
        obtain ⟨j96_7, hxj96_7, h⟩ := Option.bind_eq_some_iff.mp h
        obtain ⟨I96_6, hxI96_6, h⟩ := Option.bind_eq_some_iff.mp h
        refine gg_sI (Or.inl ⟨rfl, rfl⟩) aMi265 rfl (sI_of (sh11_a42 ha0) hxj96_7 hxI96_6) ?_
        refine go_ops aMi265 2 _ (f1 := (50, ([(2, .int (i2 + (Int32.ofInt (-1)))), (0, .ref a0), (1, .int i1)], []))) rfl ?_
        refine go_le (lv1 := [(0, .ref a0), (1, .int i1), (2, .int (i2 + (Int32.ofInt (-1))))]) (aLe_of (show (List.map (fun q => q.1) ([(0, .ref a0), (1, .int i1), (2, .int (i2 + (Int32.ofInt (-1))))] : ALv)).Nodup from (by show ([0, 1, 2] : List Nat).Nodup; decide)) (aSubL_cons rfl (aSubL_cons rfl (aSubL_cons rfl aSubL_nil)))) ?_
        exact ih a0 ha0 i1 (i2 + (Int32.ofInt (-1))) I96_6 _ h
def f265_b37 (kad : Nat → Nat) (N : Nat) (Z : AZ) (a0 : Nat) (i1 : Int32) (s0 : Int32) (I : AI) : Option (Int32 × AI) :=
  (f185 kad N Z a0 s0 I).bind fun r37_1 =>
  if ¬ r37_1.1 = 0 then
    f265_b50 kad N Z N a0 i1 ((r37_1.2) a0 43) r37_1.2
  else
    some ((0 : Int32), r37_1.2)
set_option maxRecDepth 20000 in
theorem Tf265_b37 {kad : Nat → Nat} {N : Nat} {Z : AZ} {d : Nat} {t : Option Nat × (Nat × Nat)} (hd : 1 ≤ d) : ∀ (a0 : Nat) (ha0 : sh11 kad Z a0) (i1 : Int32) (s0 : Int32) (I : AI) (r : Int32 × AI), f265_b37 kad N Z a0 i1 s0 I = some r → aGo kad d 265 (37, ([(0, .ref a0), (1, .int i1)], [.int s0, .ref a0])) (aMem Z I, t) (qI Z t r) := by
  intro a0 ha0 i1 s0 I r h
  unfold f265_b37 at h
  obtain ⟨r37_1, hxr37_1, h⟩ := Option.bind_eq_some_iff.mp h
  refine gg_cv (as := [.int s0]) (r := []) aMi265 rfl rfl rfl aMi185 (Nat.le_of_ble_eq_true rfl) rfl (Nat.le_of_ble_eq_true rfl) (Nat.le_of_ble_eq_true rfl) (by omega) (isK_of (sh11_z ha0)) (Tf185 (by omega) a0 ha0 s0 I _ hxr37_1) ?_
  show aGo kad d 265 (40, ([(0, .ref a0), (1, .int i1)], [.int r37_1.1])) (aMem Z r37_1.2, t) _
  refine gg_br (b := decide (¬ r37_1.1 = 0)) (tg := 45) (off := 5) aMi265 rfl rfl rfl rfl (fun hb => ?_) (fun hb => ?_)
  · rw [if_pos (of_decide_eq_true hb)] at h
    refine go_ops aMi265 1 _ (f1 := (46, ([(0, .ref a0), (1, .int i1)], [.ref a0]))) rfl ?_
    refine gg_gI aMi265 rfl rfl rfl (gI_of (sh11_z ha0)) ?_
    refine go_ops aMi265 1 _ (f1 := (50, ([(2, .int ((r37_1.2) a0 43)), (0, .ref a0), (1, .int i1)], []))) rfl ?_
    refine go_le (lv1 := [(0, .ref a0), (1, .int i1), (2, .int ((r37_1.2) a0 43))]) (aLe_of (show (List.map (fun q => q.1) ([(0, .ref a0), (1, .int i1), (2, .int ((r37_1.2) a0 43))] : ALv)).Nodup from (by show ([0, 1, 2] : List Nat).Nodup; decide)) (aSubL_cons rfl (aSubL_cons rfl (aSubL_cons rfl aSubL_nil)))) ?_
    exact Tf265_b50 hd N a0 ha0 i1 ((r37_1.2) a0 43) r37_1.2 _ h
  · rw [if_neg (of_decide_eq_false hb)] at h
    refine go_ops aMi265 1 _ (f1 := (44, ([(0, .ref a0), (1, .int i1)], [.int (0 : Int32)]))) rfl ?_
    cases h
    exact go_ret aMi265 rfl aRetI ⟨rfl, rfl⟩
def f265_b32 (kad : Nat → Nat) (N : Nat) (Z : AZ) (a0 : Nat) (i1 : Int32) (I : AI) : Option (Int32 × AI) :=
  f265_b37 kad N Z a0 i1 (2 : Int32) I
set_option maxRecDepth 20000 in
theorem Tf265_b32 {kad : Nat → Nat} {N : Nat} {Z : AZ} {d : Nat} {t : Option Nat × (Nat × Nat)} (hd : 1 ≤ d) : ∀ (a0 : Nat) (ha0 : sh11 kad Z a0) (i1 : Int32) (I : AI) (r : Int32 × AI), f265_b32 kad N Z a0 i1 I = some r → aGo kad d 265 (32, ([(0, .ref a0), (1, .int i1)], [.ref a0])) (aMem Z I, t) (qI Z t r) := by
  intro a0 ha0 i1 I r h
  unfold f265_b32 at h
  refine go_ops aMi265 2 _ (f1 := (37, ([(0, .ref a0), (1, .int i1)], [.int (2 : Int32), .ref a0]))) rfl ?_
  exact Tf265_b37 hd a0 ha0 i1 (2 : Int32) I _ h
def f265 (kad : Nat → Nat) (N : Nat) (Z : AZ) (a0 : Nat) (i1 : Int32) (I : AI) : Option (Int32 × AI) :=
  (f186 kad N Z i1 (0 : Int32) (65535 : Int32) I).bind fun r5_1 =>
  if ¬ r5_1.1 = 0 then
    if ¬ ((r5_1.2) a0 23) = (1 : Int32) then
      f265_b32 kad N Z a0 i1 r5_1.2
    else
      if ¬ ((r5_1.2) a0 43) = (20 : Int32) then
        f265_b37 kad N Z a0 i1 (0 : Int32) r5_1.2
      else
        f265_b32 kad N Z a0 i1 r5_1.2
  else
    f265_b37 kad N Z a0 i1 (1 : Int32) r5_1.2
set_option maxRecDepth 20000 in
theorem Tf265 {kad : Nat → Nat} {N : Nat} {Z : AZ} {d : Nat} {t : Option Nat × (Nat × Nat)} (hd : 1 ≤ d) : ∀ (a0 : Nat) (ha0 : sh11 kad Z a0) (i1 : Int32) (I : AI) (r : Int32 × AI), f265 kad N Z a0 i1 I = some r → aGo kad d 265 (0, ([(0, .ref a0), (1, .int i1)], [])) (aMem Z I, t) (qI Z t r) := by
  intro a0 ha0 i1 I r h
  unfold f265 at h
  refine go_ops aMi265 3 _ (f1 := (3, ([(0, .ref a0), (1, .int i1)], [.int (0 : Int32), .int i1, .ref a0]))) rfl ?_
  refine gg_kI (Or.inl ⟨rfl, rfl⟩) aMi265 rfl rfl ?_
  obtain ⟨r5_1, hxr5_1, h⟩ := Option.bind_eq_some_iff.mp h
  refine gg_cs (as := [.int i1, .int (0 : Int32), .int (65535 : Int32)]) (r := [.ref a0]) aMi265 rfl rfl rfl aMi186 rfl (Nat.le_of_ble_eq_true rfl) (Nat.le_of_ble_eq_true rfl) (by omega) (Tf186 (by omega) i1 (0 : Int32) (65535 : Int32) I _ hxr5_1) ?_
  show aGo kad d 265 (8, ([(0, .ref a0), (1, .int i1)], [.int r5_1.1, .ref a0])) (aMem Z r5_1.2, t) _
  refine gg_br (b := decide (¬ r5_1.1 = 0)) (tg := 15) (off := 7) aMi265 rfl rfl rfl rfl (fun hb => ?_) (fun hb => ?_)
  · rw [if_pos (of_decide_eq_true hb)] at h
    refine go_ops aMi265 1 _ (f1 := (16, ([(0, .ref a0), (1, .int i1)], [.ref a0, .ref a0]))) rfl ?_
    refine gg_gI aMi265 rfl rfl rfl (gI_of (sh11_z ha0)) ?_
    refine go_ops aMi265 1 _ (f1 := (20, ([(0, .ref a0), (1, .int i1)], [.int (1 : Int32), .int ((r5_1.2) a0 23), .ref a0]))) rfl ?_
    refine gg_br (b := decide (¬ ((r5_1.2) a0 23) = (1 : Int32))) (tg := 32) (off := 12) aMi265 rfl rfl rfl rfl (fun hb => ?_) (fun hb => ?_)
    · rw [if_pos (of_decide_eq_true hb)] at h
      exact Tf265_b32 hd a0 ha0 i1 r5_1.2 _ h
    · rw [if_neg (of_decide_eq_false hb)] at h
      refine go_ops aMi265 1 _ (f1 := (24, ([(0, .ref a0), (1, .int i1)], [.ref a0, .ref a0]))) rfl ?_
      refine gg_gI aMi265 rfl rfl rfl (gI_of (sh11_z ha0)) ?_
      refine go_ops aMi265 1 _ (f1 := (29, ([(0, .ref a0), (1, .int i1)], [.int (20 : Int32), .int ((r5_1.2) a0 43), .ref a0]))) rfl ?_
      refine gg_br (b := decide (¬ ((r5_1.2) a0 43) = (20 : Int32))) (tg := 36) (off := 7) aMi265 rfl rfl rfl rfl (fun hb => ?_) (fun hb => ?_)
      · rw [if_pos (of_decide_eq_true hb)] at h
        refine go_ops aMi265 1 _ (f1 := (37, ([(0, .ref a0), (1, .int i1)], [.int (0 : Int32), .ref a0]))) rfl ?_
        exact Tf265_b37 hd a0 ha0 i1 (0 : Int32) r5_1.2 _ h
      · rw [if_neg (of_decide_eq_false hb)] at h
        exact Tf265_b32 hd a0 ha0 i1 r5_1.2 _ h
  · rw [if_neg (of_decide_eq_false hb)] at h
    refine go_ops aMi265 2 _ (f1 := (37, ([(0, .ref a0), (1, .int i1)], [.int (1 : Int32), .ref a0]))) rfl ?_
    exact Tf265_b37 hd a0 ha0 i1 (1 : Int32) r5_1.2 _ h
-- KernelGymModel.state ()I
def f266 (kad : Nat → Nat) (N : Nat) (Z : AZ) (a0 : Nat) (I : AI) : Option (Int32 × AI) :=
  (wI I a0 0 (0 : Int32)).bind fun I2_1 =>
  some ((I2_1 a0 23), I2_1)
set_option maxRecDepth 20000 in
theorem Tf266 {kad : Nat → Nat} {N : Nat} {Z : AZ} {d : Nat} {t : Option Nat × (Nat × Nat)} (hd : 0 ≤ d) : ∀ (a0 : Nat) (ha0 : sh11 kad Z a0) (I : AI) (r : Int32 × AI), f266 kad N Z a0 I = some r → aGo kad d 266 (0, ([(0, .ref a0)], [])) (aMem Z I, t) (qI Z t r) := by
  intro a0 ha0 I r h
  unfold f266 at h
  refine go_ops aMi266 2 _ (f1 := (2, ([(0, .ref a0)], [.int (0 : Int32), .ref a0]))) rfl ?_
  obtain ⟨I2_1, hxI2_1, h⟩ := Option.bind_eq_some_iff.mp h
  refine gg_pI aMi266 rfl rfl rfl rfl (by decide) (pI_of (sh11_z ha0) hxI2_1) ?_
  refine go_ops aMi266 1 _ (f1 := (6, ([(0, .ref a0)], [.ref a0]))) rfl ?_
  refine gg_gI aMi266 rfl rfl rfl (gI_of (sh11_z ha0)) ?_
  cases h
  exact go_ret aMi266 rfl aRetI ⟨rfl, rfl⟩
-- KernelGymModel.fault ()I
def f267 (kad : Nat → Nat) (N : Nat) (Z : AZ) (a0 : Nat) (I : AI) : Option (Int32 × AI) :=
  (wI I a0 0 (0 : Int32)).bind fun I2_1 =>
  some ((I2_1 a0 24), I2_1)
set_option maxRecDepth 20000 in
theorem Tf267 {kad : Nat → Nat} {N : Nat} {Z : AZ} {d : Nat} {t : Option Nat × (Nat × Nat)} (hd : 0 ≤ d) : ∀ (a0 : Nat) (ha0 : sh11 kad Z a0) (I : AI) (r : Int32 × AI), f267 kad N Z a0 I = some r → aGo kad d 267 (0, ([(0, .ref a0)], [])) (aMem Z I, t) (qI Z t r) := by
  intro a0 ha0 I r h
  unfold f267 at h
  refine go_ops aMi267 2 _ (f1 := (2, ([(0, .ref a0)], [.int (0 : Int32), .ref a0]))) rfl ?_
  obtain ⟨I2_1, hxI2_1, h⟩ := Option.bind_eq_some_iff.mp h
  refine gg_pI aMi267 rfl rfl rfl rfl (by decide) (pI_of (sh11_z ha0) hxI2_1) ?_
  refine go_ops aMi267 1 _ (f1 := (6, ([(0, .ref a0)], [.ref a0]))) rfl ?_
  refine gg_gI aMi267 rfl rfl rfl (gI_of (sh11_z ha0)) ?_
  cases h
  exact go_ret aMi267 rfl aRetI ⟨rfl, rfl⟩
-- KernelGymModel.steps ()I
def f268 (kad : Nat → Nat) (N : Nat) (Z : AZ) (a0 : Nat) (I : AI) : Option (Int32 × AI) :=
  (wI I a0 0 (0 : Int32)).bind fun I2_1 =>
  some ((I2_1 a0 38), I2_1)
set_option maxRecDepth 20000 in
theorem Tf268 {kad : Nat → Nat} {N : Nat} {Z : AZ} {d : Nat} {t : Option Nat × (Nat × Nat)} (hd : 0 ≤ d) : ∀ (a0 : Nat) (ha0 : sh11 kad Z a0) (I : AI) (r : Int32 × AI), f268 kad N Z a0 I = some r → aGo kad d 268 (0, ([(0, .ref a0)], [])) (aMem Z I, t) (qI Z t r) := by
  intro a0 ha0 I r h
  unfold f268 at h
  refine go_ops aMi268 2 _ (f1 := (2, ([(0, .ref a0)], [.int (0 : Int32), .ref a0]))) rfl ?_
  obtain ⟨I2_1, hxI2_1, h⟩ := Option.bind_eq_some_iff.mp h
  refine gg_pI aMi268 rfl rfl rfl rfl (by decide) (pI_of (sh11_z ha0) hxI2_1) ?_
  refine go_ops aMi268 1 _ (f1 := (6, ([(0, .ref a0)], [.ref a0]))) rfl ?_
  refine gg_gI aMi268 rfl rfl rfl (gI_of (sh11_z ha0)) ?_
  cases h
  exact go_ret aMi268 rfl aRetI ⟨rfl, rfl⟩
-- KernelGymModel.kept ()I
def f269 (kad : Nat → Nat) (N : Nat) (Z : AZ) (a0 : Nat) (I : AI) : Option (Int32 × AI) :=
  (wI I a0 0 (0 : Int32)).bind fun I2_1 =>
  some ((I2_1 a0 40), I2_1)
set_option maxRecDepth 20000 in
theorem Tf269 {kad : Nat → Nat} {N : Nat} {Z : AZ} {d : Nat} {t : Option Nat × (Nat × Nat)} (hd : 0 ≤ d) : ∀ (a0 : Nat) (ha0 : sh11 kad Z a0) (I : AI) (r : Int32 × AI), f269 kad N Z a0 I = some r → aGo kad d 269 (0, ([(0, .ref a0)], [])) (aMem Z I, t) (qI Z t r) := by
  intro a0 ha0 I r h
  unfold f269 at h
  refine go_ops aMi269 2 _ (f1 := (2, ([(0, .ref a0)], [.int (0 : Int32), .ref a0]))) rfl ?_
  obtain ⟨I2_1, hxI2_1, h⟩ := Option.bind_eq_some_iff.mp h
  refine gg_pI aMi269 rfl rfl rfl rfl (by decide) (pI_of (sh11_z ha0) hxI2_1) ?_
  refine go_ops aMi269 1 _ (f1 := (6, ([(0, .ref a0)], [.ref a0]))) rfl ?_
  refine gg_gI aMi269 rfl rfl rfl (gI_of (sh11_z ha0)) ?_
  cases h
  exact go_ret aMi269 rfl aRetI ⟨rfl, rfl⟩
-- KernelGymModel.counter ()I
def f270 (kad : Nat → Nat) (N : Nat) (Z : AZ) (a0 : Nat) (I : AI) : Option (Int32 × AI) :=
  (wI I a0 0 (0 : Int32)).bind fun I2_1 =>
  some ((I2_1 a0 27), I2_1)
set_option maxRecDepth 20000 in
theorem Tf270 {kad : Nat → Nat} {N : Nat} {Z : AZ} {d : Nat} {t : Option Nat × (Nat × Nat)} (hd : 0 ≤ d) : ∀ (a0 : Nat) (ha0 : sh11 kad Z a0) (I : AI) (r : Int32 × AI), f270 kad N Z a0 I = some r → aGo kad d 270 (0, ([(0, .ref a0)], [])) (aMem Z I, t) (qI Z t r) := by
  intro a0 ha0 I r h
  unfold f270 at h
  refine go_ops aMi270 2 _ (f1 := (2, ([(0, .ref a0)], [.int (0 : Int32), .ref a0]))) rfl ?_
  obtain ⟨I2_1, hxI2_1, h⟩ := Option.bind_eq_some_iff.mp h
  refine gg_pI aMi270 rfl rfl rfl rfl (by decide) (pI_of (sh11_z ha0) hxI2_1) ?_
  refine go_ops aMi270 1 _ (f1 := (6, ([(0, .ref a0)], [.ref a0]))) rfl ?_
  refine gg_gI aMi270 rfl rfl rfl (gI_of (sh11_z ha0)) ?_
  cases h
  exact go_ret aMi270 rfl aRetI ⟨rfl, rfl⟩
-- KernelGymModel.stack ()I
def f271 (kad : Nat → Nat) (N : Nat) (Z : AZ) (a0 : Nat) (I : AI) : Option (Int32 × AI) :=
  (wI I a0 0 (0 : Int32)).bind fun I2_1 =>
  some ((I2_1 a0 28), I2_1)
set_option maxRecDepth 20000 in
theorem Tf271 {kad : Nat → Nat} {N : Nat} {Z : AZ} {d : Nat} {t : Option Nat × (Nat × Nat)} (hd : 0 ≤ d) : ∀ (a0 : Nat) (ha0 : sh11 kad Z a0) (I : AI) (r : Int32 × AI), f271 kad N Z a0 I = some r → aGo kad d 271 (0, ([(0, .ref a0)], [])) (aMem Z I, t) (qI Z t r) := by
  intro a0 ha0 I r h
  unfold f271 at h
  refine go_ops aMi271 2 _ (f1 := (2, ([(0, .ref a0)], [.int (0 : Int32), .ref a0]))) rfl ?_
  obtain ⟨I2_1, hxI2_1, h⟩ := Option.bind_eq_some_iff.mp h
  refine gg_pI aMi271 rfl rfl rfl rfl (by decide) (pI_of (sh11_z ha0) hxI2_1) ?_
  refine go_ops aMi271 1 _ (f1 := (6, ([(0, .ref a0)], [.ref a0]))) rfl ?_
  refine gg_gI aMi271 rfl rfl rfl (gI_of (sh11_z ha0)) ?_
  cases h
  exact go_ret aMi271 rfl aRetI ⟨rfl, rfl⟩
-- KernelGymModel.flagsOf ()I
def f272_b65 (kad : Nat → Nat) (N : Nat) (Z : AZ) (a0 : Nat) (s0 : Int32) (s1 : Int32) (I : AI) : Option (Int32 × AI) :=
  some ((s1 + s0), I)
set_option maxRecDepth 20000 in
theorem Tf272_b65 {kad : Nat → Nat} {N : Nat} {Z : AZ} {d : Nat} {t : Option Nat × (Nat × Nat)} (hd : 0 ≤ d) : ∀ (a0 : Nat) (ha0 : sh11 kad Z a0) (s0 : Int32) (s1 : Int32) (I : AI) (r : Int32 × AI), f272_b65 kad N Z a0 s0 s1 I = some r → aGo kad d 272 (65, ([], [.int s0, .int s1])) (aMem Z I, t) (qI Z t r) := by
  intro a0 ha0 s0 s1 I r h
  unfold f272_b65 at h
  refine go_ops aMi272 1 _ (f1 := (66, ([], [.int (s1 + s0)]))) rfl ?_
  cases h
  exact go_ret aMi272 rfl aRetI ⟨rfl, rfl⟩
def f272_b51 (kad : Nat → Nat) (N : Nat) (Z : AZ) (a0 : Nat) (s0 : Int32) (s1 : Int32) (I : AI) : Option (Int32 × AI) :=
  if (I a0 33) = 0 then
    f272_b65 kad N Z a0 (0 : Int32) (s1 + s0) I
  else
    f272_b65 kad N Z a0 (16 : Int32) (s1 + s0) I
set_option maxRecDepth 20000 in
theorem Tf272_b51 {kad : Nat → Nat} {N : Nat} {Z : AZ} {d : Nat} {t : Option Nat × (Nat × Nat)} (hd : 0 ≤ d) : ∀ (a0 : Nat) (ha0 : sh11 kad Z a0) (s0 : Int32) (s1 : Int32) (I : AI) (r : Int32 × AI), f272_b51 kad N Z a0 s0 s1 I = some r → aGo kad d 272 (51, ([(0, .ref a0)], [.int s0, .int s1])) (aMem Z I, t) (qI Z t r) := by
  intro a0 ha0 s0 s1 I r h
  unfold f272_b51 at h
  refine go_ops aMi272 2 _ (f1 := (53, ([(0, .ref a0)], [.ref a0, .int (s1 + s0)]))) rfl ?_
  refine gg_gI aMi272 rfl rfl rfl (gI_of (sh11_z ha0)) ?_
  refine gg_br (b := decide ((I a0 33) = 0)) (tg := 64) (off := 8) aMi272 rfl rfl rfl rfl (fun hb => ?_) (fun hb => ?_)
  · rw [if_pos (of_decide_eq_true hb)] at h
    refine go_ops aMi272 1 _ (f1 := (65, ([(0, .ref a0)], [.int (0 : Int32), .int (s1 + s0)]))) rfl ?_
    refine go_le (lv1 := []) (aLe_of (show (List.map (fun q => q.1) ([] : ALv)).Nodup from (by show ([] : List Nat).Nodup; decide)) aSubL_nil) ?_
    exact Tf272_b65 hd a0 ha0 (0 : Int32) (s1 + s0) I _ h
  · rw [if_neg (of_decide_eq_false hb)] at h
    refine go_ops aMi272 2 _ (f1 := (65, ([(0, .ref a0)], [.int (16 : Int32), .int (s1 + s0)]))) rfl ?_
    refine go_le (lv1 := []) (aLe_of (show (List.map (fun q => q.1) ([] : ALv)).Nodup from (by show ([] : List Nat).Nodup; decide)) aSubL_nil) ?_
    exact Tf272_b65 hd a0 ha0 (16 : Int32) (s1 + s0) I _ h
def f272_b37 (kad : Nat → Nat) (N : Nat) (Z : AZ) (a0 : Nat) (s0 : Int32) (s1 : Int32) (I : AI) : Option (Int32 × AI) :=
  if (I a0 32) = 0 then
    f272_b51 kad N Z a0 (0 : Int32) (s1 + s0) I
  else
    f272_b51 kad N Z a0 (8 : Int32) (s1 + s0) I
set_option maxRecDepth 20000 in
theorem Tf272_b37 {kad : Nat → Nat} {N : Nat} {Z : AZ} {d : Nat} {t : Option Nat × (Nat × Nat)} (hd : 0 ≤ d) : ∀ (a0 : Nat) (ha0 : sh11 kad Z a0) (s0 : Int32) (s1 : Int32) (I : AI) (r : Int32 × AI), f272_b37 kad N Z a0 s0 s1 I = some r → aGo kad d 272 (37, ([(0, .ref a0)], [.int s0, .int s1])) (aMem Z I, t) (qI Z t r) := by
  intro a0 ha0 s0 s1 I r h
  unfold f272_b37 at h
  refine go_ops aMi272 2 _ (f1 := (39, ([(0, .ref a0)], [.ref a0, .int (s1 + s0)]))) rfl ?_
  refine gg_gI aMi272 rfl rfl rfl (gI_of (sh11_z ha0)) ?_
  refine gg_br (b := decide ((I a0 32) = 0)) (tg := 50) (off := 8) aMi272 rfl rfl rfl rfl (fun hb => ?_) (fun hb => ?_)
  · rw [if_pos (of_decide_eq_true hb)] at h
    refine go_ops aMi272 1 _ (f1 := (51, ([(0, .ref a0)], [.int (0 : Int32), .int (s1 + s0)]))) rfl ?_
    exact Tf272_b51 hd a0 ha0 (0 : Int32) (s1 + s0) I _ h
  · rw [if_neg (of_decide_eq_false hb)] at h
    refine go_ops aMi272 2 _ (f1 := (51, ([(0, .ref a0)], [.int (8 : Int32), .int (s1 + s0)]))) rfl ?_
    exact Tf272_b51 hd a0 ha0 (8 : Int32) (s1 + s0) I _ h
def f272_b24 (kad : Nat → Nat) (N : Nat) (Z : AZ) (a0 : Nat) (s0 : Int32) (s1 : Int32) (I : AI) : Option (Int32 × AI) :=
  if (I a0 31) = 0 then
    f272_b37 kad N Z a0 (0 : Int32) (s1 + s0) I
  else
    f272_b37 kad N Z a0 (4 : Int32) (s1 + s0) I
set_option maxRecDepth 20000 in
theorem Tf272_b24 {kad : Nat → Nat} {N : Nat} {Z : AZ} {d : Nat} {t : Option Nat × (Nat × Nat)} (hd : 0 ≤ d) : ∀ (a0 : Nat) (ha0 : sh11 kad Z a0) (s0 : Int32) (s1 : Int32) (I : AI) (r : Int32 × AI), f272_b24 kad N Z a0 s0 s1 I = some r → aGo kad d 272 (24, ([(0, .ref a0)], [.int s0, .int s1])) (aMem Z I, t) (qI Z t r) := by
  intro a0 ha0 s0 s1 I r h
  unfold f272_b24 at h
  refine go_ops aMi272 2 _ (f1 := (26, ([(0, .ref a0)], [.ref a0, .int (s1 + s0)]))) rfl ?_
  refine gg_gI aMi272 rfl rfl rfl (gI_of (sh11_z ha0)) ?_
  refine gg_br (b := decide ((I a0 31) = 0)) (tg := 36) (off := 7) aMi272 rfl rfl rfl rfl (fun hb => ?_) (fun hb => ?_)
  · rw [if_pos (of_decide_eq_true hb)] at h
    refine go_ops aMi272 1 _ (f1 := (37, ([(0, .ref a0)], [.int (0 : Int32), .int (s1 + s0)]))) rfl ?_
    exact Tf272_b37 hd a0 ha0 (0 : Int32) (s1 + s0) I _ h
  · rw [if_neg (of_decide_eq_false hb)] at h
    refine go_ops aMi272 2 _ (f1 := (37, ([(0, .ref a0)], [.int (4 : Int32), .int (s1 + s0)]))) rfl ?_
    exact Tf272_b37 hd a0 ha0 (4 : Int32) (s1 + s0) I _ h
def f272_b12 (kad : Nat → Nat) (N : Nat) (Z : AZ) (a0 : Nat) (s0 : Int32) (I : AI) : Option (Int32 × AI) :=
  if (I a0 30) = 0 then
    f272_b24 kad N Z a0 (0 : Int32) s0 I
  else
    f272_b24 kad N Z a0 (2 : Int32) s0 I
set_option maxRecDepth 20000 in
theorem Tf272_b12 {kad : Nat → Nat} {N : Nat} {Z : AZ} {d : Nat} {t : Option Nat × (Nat × Nat)} (hd : 0 ≤ d) : ∀ (a0 : Nat) (ha0 : sh11 kad Z a0) (s0 : Int32) (I : AI) (r : Int32 × AI), f272_b12 kad N Z a0 s0 I = some r → aGo kad d 272 (12, ([(0, .ref a0)], [.int s0])) (aMem Z I, t) (qI Z t r) := by
  intro a0 ha0 s0 I r h
  unfold f272_b12 at h
  refine go_ops aMi272 1 _ (f1 := (13, ([(0, .ref a0)], [.ref a0, .int s0]))) rfl ?_
  refine gg_gI aMi272 rfl rfl rfl (gI_of (sh11_z ha0)) ?_
  refine gg_br (b := decide ((I a0 30) = 0)) (tg := 23) (off := 7) aMi272 rfl rfl rfl rfl (fun hb => ?_) (fun hb => ?_)
  · rw [if_pos (of_decide_eq_true hb)] at h
    refine go_ops aMi272 1 _ (f1 := (24, ([(0, .ref a0)], [.int (0 : Int32), .int s0]))) rfl ?_
    exact Tf272_b24 hd a0 ha0 (0 : Int32) s0 I _ h
  · rw [if_neg (of_decide_eq_false hb)] at h
    refine go_ops aMi272 2 _ (f1 := (24, ([(0, .ref a0)], [.int (2 : Int32), .int s0]))) rfl ?_
    exact Tf272_b24 hd a0 ha0 (2 : Int32) s0 I _ h
def f272 (kad : Nat → Nat) (N : Nat) (Z : AZ) (a0 : Nat) (I : AI) : Option (Int32 × AI) :=
  if (I a0 29) = 0 then
    f272_b12 kad N Z a0 (0 : Int32) I
  else
    f272_b12 kad N Z a0 (1 : Int32) I
set_option maxRecDepth 20000 in
theorem Tf272 {kad : Nat → Nat} {N : Nat} {Z : AZ} {d : Nat} {t : Option Nat × (Nat × Nat)} (hd : 0 ≤ d) : ∀ (a0 : Nat) (ha0 : sh11 kad Z a0) (I : AI) (r : Int32 × AI), f272 kad N Z a0 I = some r → aGo kad d 272 (0, ([(0, .ref a0)], [])) (aMem Z I, t) (qI Z t r) := by
  intro a0 ha0 I r h
  unfold f272 at h
  refine go_ops aMi272 1 _ (f1 := (1, ([(0, .ref a0)], [.ref a0]))) rfl ?_
  refine gg_gI aMi272 rfl rfl rfl (gI_of (sh11_z ha0)) ?_
  refine gg_br (b := decide ((I a0 29) = 0)) (tg := 11) (off := 7) aMi272 rfl rfl rfl rfl (fun hb => ?_) (fun hb => ?_)
  · rw [if_pos (of_decide_eq_true hb)] at h
    refine go_ops aMi272 1 _ (f1 := (12, ([(0, .ref a0)], [.int (0 : Int32)]))) rfl ?_
    exact Tf272_b12 hd a0 ha0 (0 : Int32) I _ h
  · rw [if_neg (of_decide_eq_false hb)] at h
    refine go_ops aMi272 2 _ (f1 := (12, ([(0, .ref a0)], [.int (1 : Int32)]))) rfl ?_
    exact Tf272_b12 hd a0 ha0 (1 : Int32) I _ h
-- KernelGymModel.flags ()I
def f273 (kad : Nat → Nat) (N : Nat) (Z : AZ) (a0 : Nat) (I : AI) : Option (Int32 × AI) :=
  (wI I a0 0 (0 : Int32)).bind fun I2_1 =>
  (f272 kad N Z a0 I2_1).bind fun r6_2 =>
  some (r6_2.1, r6_2.2)
set_option maxRecDepth 20000 in
theorem Tf273 {kad : Nat → Nat} {N : Nat} {Z : AZ} {d : Nat} {t : Option Nat × (Nat × Nat)} (hd : 1 ≤ d) : ∀ (a0 : Nat) (ha0 : sh11 kad Z a0) (I : AI) (r : Int32 × AI), f273 kad N Z a0 I = some r → aGo kad d 273 (0, ([(0, .ref a0)], [])) (aMem Z I, t) (qI Z t r) := by
  intro a0 ha0 I r h
  unfold f273 at h
  refine go_ops aMi273 2 _ (f1 := (2, ([(0, .ref a0)], [.int (0 : Int32), .ref a0]))) rfl ?_
  obtain ⟨I2_1, hxI2_1, h⟩ := Option.bind_eq_some_iff.mp h
  refine gg_pI aMi273 rfl rfl rfl rfl (by decide) (pI_of (sh11_z ha0) hxI2_1) ?_
  refine go_ops aMi273 1 _ (f1 := (6, ([(0, .ref a0)], [.ref a0]))) rfl ?_
  obtain ⟨r6_2, hxr6_2, h⟩ := Option.bind_eq_some_iff.mp h
  refine gg_cv (as := []) (r := []) aMi273 rfl rfl rfl aMi272 (Nat.le_of_ble_eq_true rfl) rfl (Nat.le_of_ble_eq_true rfl) (Nat.le_of_ble_eq_true rfl) (by omega) (isK_of (sh11_z ha0)) (Tf272 (by omega) a0 ha0 I2_1 _ hxr6_2) ?_
  show aGo kad d 273 (9, ([(0, .ref a0)], [.int r6_2.1])) (aMem Z r6_2.2, t) _
  cases h
  exact go_ret aMi273 rfl aRetI ⟨rfl, rfl⟩
-- KernelGymModel.writesLeft ()I
def f274 (kad : Nat → Nat) (N : Nat) (Z : AZ) (a0 : Nat) (I : AI) : Option (Int32 × AI) :=
  (wI I a0 0 (0 : Int32)).bind fun I2_1 =>
  some ((I2_1 a0 46), I2_1)
set_option maxRecDepth 20000 in
theorem Tf274 {kad : Nat → Nat} {N : Nat} {Z : AZ} {d : Nat} {t : Option Nat × (Nat × Nat)} (hd : 0 ≤ d) : ∀ (a0 : Nat) (ha0 : sh11 kad Z a0) (I : AI) (r : Int32 × AI), f274 kad N Z a0 I = some r → aGo kad d 274 (0, ([(0, .ref a0)], [])) (aMem Z I, t) (qI Z t r) := by
  intro a0 ha0 I r h
  unfold f274 at h
  refine go_ops aMi274 2 _ (f1 := (2, ([(0, .ref a0)], [.int (0 : Int32), .ref a0]))) rfl ?_
  obtain ⟨I2_1, hxI2_1, h⟩ := Option.bind_eq_some_iff.mp h
  refine gg_pI aMi274 rfl rfl rfl rfl (by decide) (pI_of (sh11_z ha0) hxI2_1) ?_
  refine go_ops aMi274 1 _ (f1 := (6, ([(0, .ref a0)], [.ref a0]))) rfl ?_
  refine gg_gI aMi274 rfl rfl rfl (gI_of (sh11_z ha0)) ?_
  cases h
  exact go_ret aMi274 rfl aRetI ⟨rfl, rfl⟩
-- KernelGymModel.register (I)I
def f275_b31 (kad : Nat → Nat) (N : Nat) (Z : AZ) (a0 : Nat) (s0 : Int32) (I : AI) : Option (Int32 × AI) :=
  some (s0, I)
set_option maxRecDepth 20000 in
theorem Tf275_b31 {kad : Nat → Nat} {N : Nat} {Z : AZ} {d : Nat} {t : Option Nat × (Nat × Nat)} (hd : 1 ≤ d) : ∀ (a0 : Nat) (ha0 : sh11 kad Z a0) (s0 : Int32) (I : AI) (r : Int32 × AI), f275_b31 kad N Z a0 s0 I = some r → aGo kad d 275 (31, ([], [.int s0])) (aMem Z I, t) (qI Z t r) := by
  intro a0 ha0 s0 I r h
  unfold f275_b31 at h
  cases h
  exact go_ret aMi275 rfl aRetI ⟨rfl, rfl⟩
def f275_b15 (kad : Nat → Nat) (N : Nat) (Z : AZ) (a0 : Nat) (i1 : Int32) (s0 : Int32) (I : AI) : Option (Int32 × AI) :=
  (f185 kad N Z a0 s0 I).bind fun r15_1 =>
  if r15_1.1 = 0 then
    f275_b31 kad N Z a0 (0 : Int32) r15_1.2
  else
    (ixA 4 i1).bind fun j26_2 =>
    f275_b31 kad N Z a0 (r15_1.2 (a0 + 16) j26_2) r15_1.2
set_option maxRecDepth 20000 in
theorem Tf275_b15 {kad : Nat → Nat} {N : Nat} {Z : AZ} {d : Nat} {t : Option Nat × (Nat × Nat)} (hd : 1 ≤ d) : ∀ (a0 : Nat) (ha0 : sh11 kad Z a0) (i1 : Int32) (s0 : Int32) (I : AI) (r : Int32 × AI), f275_b15 kad N Z a0 i1 s0 I = some r → aGo kad d 275 (15, ([(0, .ref a0), (1, .int i1)], [.int s0, .ref a0])) (aMem Z I, t) (qI Z t r) := by
  intro a0 ha0 i1 s0 I r h
  unfold f275_b15 at h
  obtain ⟨r15_1, hxr15_1, h⟩ := Option.bind_eq_some_iff.mp h
  refine gg_cv (as := [.int s0]) (r := []) aMi275 rfl rfl rfl aMi185 (Nat.le_of_ble_eq_true rfl) rfl (Nat.le_of_ble_eq_true rfl) (Nat.le_of_ble_eq_true rfl) (by omega) (isK_of (sh11_z ha0)) (Tf185 (by omega) a0 ha0 s0 I _ hxr15_1) ?_
  show aGo kad d 275 (18, ([(0, .ref a0), (1, .int i1)], [.int r15_1.1])) (aMem Z r15_1.2, t) _
  refine gg_br (b := decide (r15_1.1 = 0)) (tg := 30) (off := 12) aMi275 rfl rfl rfl rfl (fun hb => ?_) (fun hb => ?_)
  · rw [if_pos (of_decide_eq_true hb)] at h
    refine go_ops aMi275 1 _ (f1 := (31, ([(0, .ref a0), (1, .int i1)], [.int (0 : Int32)]))) rfl ?_
    refine go_le (lv1 := []) (aLe_of (show (List.map (fun q => q.1) ([] : ALv)).Nodup from (by show ([] : List Nat).Nodup; decide)) aSubL_nil) ?_
    exact Tf275_b31 hd a0 ha0 (0 : Int32) r15_1.2 _ h
  · rw [if_neg (of_decide_eq_false hb)] at h
    refine go_ops aMi275 1 _ (f1 := (22, ([(0, .ref a0), (1, .int i1)], [.ref a0]))) rfl ?_
    refine gg_gR (b := (a0 + 16)) aMi275 rfl rfl rfl (gR_of (sh11_z ha0) (sh11_r26 ha0)) ?_
    refine go_ops aMi275 1 _ (f1 := (26, ([(0, .ref a0), (1, .int i1)], [.int i1, .ref (a0 + 16)]))) rfl ?_
    obtain ⟨j26_2, hxj26_2, h⟩ := Option.bind_eq_some_iff.mp h
    refine gg_lI (Or.inl ⟨rfl, rfl⟩) aMi275 rfl (lI_of (sh11_a26 ha0) hxj26_2) ?_
    refine go_ops aMi275 1 _ (f1 := (31, ([(0, .ref a0), (1, .int i1)], [.int (r15_1.2 (a0 + 16) j26_2)]))) rfl ?_
    refine go_le (lv1 := []) (aLe_of (show (List.map (fun q => q.1) ([] : ALv)).Nodup from (by show ([] : List Nat).Nodup; decide)) aSubL_nil) ?_
    exact Tf275_b31 hd a0 ha0 (r15_1.2 (a0 + 16) j26_2) r15_1.2 _ h
def f275 (kad : Nat → Nat) (N : Nat) (Z : AZ) (a0 : Nat) (i1 : Int32) (I : AI) : Option (Int32 × AI) :=
  (f186 kad N Z i1 (0 : Int32) (3 : Int32) I).bind fun r4_1 =>
  if r4_1.1 = 0 then
    f275_b15 kad N Z a0 i1 (1 : Int32) r4_1.2
  else
    f275_b15 kad N Z a0 i1 (0 : Int32) r4_1.2
set_option maxRecDepth 20000 in
theorem Tf275 {kad : Nat → Nat} {N : Nat} {Z : AZ} {d : Nat} {t : Option Nat × (Nat × Nat)} (hd : 1 ≤ d) : ∀ (a0 : Nat) (ha0 : sh11 kad Z a0) (i1 : Int32) (I : AI) (r : Int32 × AI), f275 kad N Z a0 i1 I = some r → aGo kad d 275 (0, ([(0, .ref a0), (1, .int i1)], [])) (aMem Z I, t) (qI Z t r) := by
  intro a0 ha0 i1 I r h
  unfold f275 at h
  refine go_ops aMi275 4 _ (f1 := (4, ([(0, .ref a0), (1, .int i1)], [.int (3 : Int32), .int (0 : Int32), .int i1, .ref a0]))) rfl ?_
  obtain ⟨r4_1, hxr4_1, h⟩ := Option.bind_eq_some_iff.mp h
  refine gg_cs (as := [.int i1, .int (0 : Int32), .int (3 : Int32)]) (r := [.ref a0]) aMi275 rfl rfl rfl aMi186 rfl (Nat.le_of_ble_eq_true rfl) (Nat.le_of_ble_eq_true rfl) (by omega) (Tf186 (by omega) i1 (0 : Int32) (3 : Int32) I _ hxr4_1) ?_
  show aGo kad d 275 (7, ([(0, .ref a0), (1, .int i1)], [.int r4_1.1, .ref a0])) (aMem Z r4_1.2, t) _
  refine gg_br (b := decide (r4_1.1 = 0)) (tg := 14) (off := 7) aMi275 rfl rfl rfl rfl (fun hb => ?_) (fun hb => ?_)
  · rw [if_pos (of_decide_eq_true hb)] at h
    refine go_ops aMi275 1 _ (f1 := (15, ([(0, .ref a0), (1, .int i1)], [.int (1 : Int32), .ref a0]))) rfl ?_
    exact Tf275_b15 hd a0 ha0 i1 (1 : Int32) r4_1.2 _ h
  · rw [if_neg (of_decide_eq_false hb)] at h
    refine go_ops aMi275 2 _ (f1 := (15, ([(0, .ref a0), (1, .int i1)], [.int (0 : Int32), .ref a0]))) rfl ?_
    exact Tf275_b15 hd a0 ha0 i1 (0 : Int32) r4_1.2 _ h
-- KernelGymModel.isAddress (I)Z
def f276 (kad : Nat → Nat) (N : Nat) (Z : AZ) (i0 : Int32) (I : AI) : Option (Int32 × AI) :=
  (f186 kad N Z i0 (0 : Int32) (255 : Int32) I).bind fun r5_1 =>
  if r5_1.1 = 0 ∨ r5_1.1 = 1 then some (r5_1.1, r5_1.2) else none
set_option maxRecDepth 20000 in
theorem Tf276 {kad : Nat → Nat} {N : Nat} {Z : AZ} {d : Nat} {t : Option Nat × (Nat × Nat)} (hd : 1 ≤ d) : ∀ (i0 : Int32) (I : AI) (r : Int32 × AI), f276 kad N Z i0 I = some r → aGo kad d 276 (0, ([(0, .int i0)], [])) (aMem Z I, t) (qI Z t r) := by
  intro i0 I r h
  unfold f276 at h
  refine go_ops aMi276 3 _ (f1 := (5, ([(0, .int i0)], [.int (255 : Int32), .int (0 : Int32), .int i0]))) rfl ?_
  obtain ⟨r5_1, hxr5_1, h⟩ := Option.bind_eq_some_iff.mp h
  refine gg_cs (as := [.int i0, .int (0 : Int32), .int (255 : Int32)]) (r := []) aMi276 rfl rfl rfl aMi186 rfl (Nat.le_of_ble_eq_true rfl) (Nat.le_of_ble_eq_true rfl) (by omega) (Tf186 (by omega) i0 (0 : Int32) (255 : Int32) I _ hxr5_1) ?_
  show aGo kad d 276 (8, ([(0, .int i0)], [.int r5_1.1])) (aMem Z r5_1.2, t) _
  split at h
  · rename_i hz
    cases h
    exact go_ret aMi276 rfl (aRetZ hz) ⟨rfl, rfl⟩
  · cases h
-- KernelGymModel.memory (I)I
def f277_b29 (kad : Nat → Nat) (N : Nat) (Z : AZ) (a0 : Nat) (s0 : Int32) (I : AI) : Option (Int32 × AI) :=
  some (s0, I)
set_option maxRecDepth 20000 in
theorem Tf277_b29 {kad : Nat → Nat} {N : Nat} {Z : AZ} {d : Nat} {t : Option Nat × (Nat × Nat)} (hd : 2 ≤ d) : ∀ (a0 : Nat) (ha0 : sh11 kad Z a0) (s0 : Int32) (I : AI) (r : Int32 × AI), f277_b29 kad N Z a0 s0 I = some r → aGo kad d 277 (29, ([], [.int s0])) (aMem Z I, t) (qI Z t r) := by
  intro a0 ha0 s0 I r h
  unfold f277_b29 at h
  cases h
  exact go_ret aMi277 rfl aRetI ⟨rfl, rfl⟩
def f277_b13 (kad : Nat → Nat) (N : Nat) (Z : AZ) (a0 : Nat) (i1 : Int32) (s0 : Int32) (I : AI) : Option (Int32 × AI) :=
  (f185 kad N Z a0 s0 I).bind fun r13_1 =>
  if r13_1.1 = 0 then
    f277_b29 kad N Z a0 (0 : Int32) r13_1.2
  else
    (ixA 256 i1).bind fun j24_2 =>
    f277_b29 kad N Z a0 (r13_1.2 (a0 + 15) j24_2) r13_1.2
set_option maxRecDepth 20000 in
theorem Tf277_b13 {kad : Nat → Nat} {N : Nat} {Z : AZ} {d : Nat} {t : Option Nat × (Nat × Nat)} (hd : 2 ≤ d) : ∀ (a0 : Nat) (ha0 : sh11 kad Z a0) (i1 : Int32) (s0 : Int32) (I : AI) (r : Int32 × AI), f277_b13 kad N Z a0 i1 s0 I = some r → aGo kad d 277 (13, ([(0, .ref a0), (1, .int i1)], [.int s0, .ref a0])) (aMem Z I, t) (qI Z t r) := by
  intro a0 ha0 i1 s0 I r h
  unfold f277_b13 at h
  obtain ⟨r13_1, hxr13_1, h⟩ := Option.bind_eq_some_iff.mp h
  refine gg_cv (as := [.int s0]) (r := []) aMi277 rfl rfl rfl aMi185 (Nat.le_of_ble_eq_true rfl) rfl (Nat.le_of_ble_eq_true rfl) (Nat.le_of_ble_eq_true rfl) (by omega) (isK_of (sh11_z ha0)) (Tf185 (by omega) a0 ha0 s0 I _ hxr13_1) ?_
  show aGo kad d 277 (16, ([(0, .ref a0), (1, .int i1)], [.int r13_1.1])) (aMem Z r13_1.2, t) _
  refine gg_br (b := decide (r13_1.1 = 0)) (tg := 28) (off := 12) aMi277 rfl rfl rfl rfl (fun hb => ?_) (fun hb => ?_)
  · rw [if_pos (of_decide_eq_true hb)] at h
    refine go_ops aMi277 1 _ (f1 := (29, ([(0, .ref a0), (1, .int i1)], [.int (0 : Int32)]))) rfl ?_
    refine go_le (lv1 := []) (aLe_of (show (List.map (fun q => q.1) ([] : ALv)).Nodup from (by show ([] : List Nat).Nodup; decide)) aSubL_nil) ?_
    exact Tf277_b29 hd a0 ha0 (0 : Int32) r13_1.2 _ h
  · rw [if_neg (of_decide_eq_false hb)] at h
    refine go_ops aMi277 1 _ (f1 := (20, ([(0, .ref a0), (1, .int i1)], [.ref a0]))) rfl ?_
    refine gg_gR (b := (a0 + 15)) aMi277 rfl rfl rfl (gR_of (sh11_z ha0) (sh11_r25 ha0)) ?_
    refine go_ops aMi277 1 _ (f1 := (24, ([(0, .ref a0), (1, .int i1)], [.int i1, .ref (a0 + 15)]))) rfl ?_
    obtain ⟨j24_2, hxj24_2, h⟩ := Option.bind_eq_some_iff.mp h
    refine gg_lI (Or.inl ⟨rfl, rfl⟩) aMi277 rfl (lI_of (sh11_a25 ha0) hxj24_2) ?_
    refine go_ops aMi277 1 _ (f1 := (29, ([(0, .ref a0), (1, .int i1)], [.int (r13_1.2 (a0 + 15) j24_2)]))) rfl ?_
    refine go_le (lv1 := []) (aLe_of (show (List.map (fun q => q.1) ([] : ALv)).Nodup from (by show ([] : List Nat).Nodup; decide)) aSubL_nil) ?_
    exact Tf277_b29 hd a0 ha0 (r13_1.2 (a0 + 15) j24_2) r13_1.2 _ h
def f277 (kad : Nat → Nat) (N : Nat) (Z : AZ) (a0 : Nat) (i1 : Int32) (I : AI) : Option (Int32 × AI) :=
  (f276 kad N Z i1 I).bind fun r2_1 =>
  if r2_1.1 = 0 then
    f277_b13 kad N Z a0 i1 (1 : Int32) r2_1.2
  else
    f277_b13 kad N Z a0 i1 (0 : Int32) r2_1.2
set_option maxRecDepth 20000 in
theorem Tf277 {kad : Nat → Nat} {N : Nat} {Z : AZ} {d : Nat} {t : Option Nat × (Nat × Nat)} (hd : 2 ≤ d) : ∀ (a0 : Nat) (ha0 : sh11 kad Z a0) (i1 : Int32) (I : AI) (r : Int32 × AI), f277 kad N Z a0 i1 I = some r → aGo kad d 277 (0, ([(0, .ref a0), (1, .int i1)], [])) (aMem Z I, t) (qI Z t r) := by
  intro a0 ha0 i1 I r h
  unfold f277 at h
  refine go_ops aMi277 2 _ (f1 := (2, ([(0, .ref a0), (1, .int i1)], [.int i1, .ref a0]))) rfl ?_
  obtain ⟨r2_1, hxr2_1, h⟩ := Option.bind_eq_some_iff.mp h
  refine gg_cs (as := [.int i1]) (r := [.ref a0]) aMi277 rfl rfl rfl aMi276 rfl (Nat.le_of_ble_eq_true rfl) (Nat.le_of_ble_eq_true rfl) (by omega) (Tf276 (by omega) i1 I _ hxr2_1) ?_
  show aGo kad d 277 (5, ([(0, .ref a0), (1, .int i1)], [.int r2_1.1, .ref a0])) (aMem Z r2_1.2, t) _
  refine gg_br (b := decide (r2_1.1 = 0)) (tg := 12) (off := 7) aMi277 rfl rfl rfl rfl (fun hb => ?_) (fun hb => ?_)
  · rw [if_pos (of_decide_eq_true hb)] at h
    refine go_ops aMi277 1 _ (f1 := (13, ([(0, .ref a0), (1, .int i1)], [.int (1 : Int32), .ref a0]))) rfl ?_
    exact Tf277_b13 hd a0 ha0 i1 (1 : Int32) r2_1.2 _ h
  · rw [if_neg (of_decide_eq_false hb)] at h
    refine go_ops aMi277 2 _ (f1 := (13, ([(0, .ref a0), (1, .int i1)], [.int (0 : Int32), .ref a0]))) rfl ?_
    exact Tf277_b13 hd a0 ha0 i1 (0 : Int32) r2_1.2 _ h
-- KernelGymModel.changedAt (I)I
def f278_b61 (kad : Nat → Nat) (N : Nat) (Z : AZ) (a0 : Nat) (i2 : Int32) (I : AI) : Option (Int32 × AI) :=
  some (i2, I)
set_option maxRecDepth 20000 in
theorem Tf278_b61 {kad : Nat → Nat} {N : Nat} {Z : AZ} {d : Nat} {t : Option Nat × (Nat × Nat)} (hd : 2 ≤ d) : ∀ (a0 : Nat) (ha0 : sh11 kad Z a0) (i2 : Int32) (I : AI) (r : Int32 × AI), f278_b61 kad N Z a0 i2 I = some r → aGo kad d 278 (61, ([(2, .int i2)], [])) (aMem Z I, t) (qI Z t r) := by
  intro a0 ha0 i2 I r h
  unfold f278_b61 at h
  refine go_ops aMi278 1 _ (f1 := (62, ([(2, .int i2)], [.int i2]))) rfl ?_
  cases h
  exact go_ret aMi278 rfl aRetI ⟨rfl, rfl⟩
def f278_b28 (kad : Nat → Nat) (N : Nat) (Z : AZ) : Nat → Nat → Int32 → Int32 → AI → Option (Int32 × AI)
  | 0, _, _, _, _ => none
  | F + 1, a0, i1, i2, I =>
    if i2 < ((I a0 38) - (I a0 40)) then
      some ((Int32.ofInt (-1)), I)
    else
      (ixA 1000 i2).bind fun j46_1 =>
      if (I (a0 + 20) j46_1) = i1 then
        f278_b61 kad N Z a0 i2 I
      else
        (ixA 1000 i2).bind fun j56_2 =>
        if ¬ (I (a0 + 21) j56_2) = i1 then
          f278_b28 kad N Z F a0 i1 (i2 + (Int32.ofInt (-1))) I
        else
          f278_b61 kad N Z a0 i2 I
set_option maxRecDepth 20000 in
theorem Tf278_b28 {kad : Nat → Nat} {N : Nat} {Z : AZ} {d : Nat} {t : Option Nat × (Nat × Nat)} (hd : 2 ≤ d) : ∀ (F : Nat) (a0 : Nat) (ha0 : sh11 kad Z a0) (i1 : Int32) (i2 : Int32) (I : AI) (r : Int32 × AI), f278_b28 kad N Z F a0 i1 i2 I = some r → aGo kad d 278 (28, ([(0, .ref a0), (1, .int i1), (2, .int i2)], [])) (aMem Z I, t) (qI Z t r) := by
  intro F
  induction F with
  | zero => intro a0 ha0 i1 i2 I r h; cases h
  | succ F ih =>
    intro a0 ha0 i1 i2 I r h
    unfold f278_b28 at h
    refine go_ops aMi278 2 _ (f1 := (30, ([(0, .ref a0), (1, .int i1), (2, .int i2)], [.ref a0, .int i2]))) rfl ?_
    refine gg_gI aMi278 rfl rfl rfl (gI_of (sh11_z ha0)) ?_
    refine go_ops aMi278 1 _ (f1 := (34, ([(0, .ref a0), (1, .int i1), (2, .int i2)], [.ref a0, .int (I a0 38), .int i2]))) rfl ?_
    refine gg_gI aMi278 rfl rfl rfl (gI_of (sh11_z ha0)) ?_
    refine go_ops aMi278 1 _ (f1 := (38, ([(0, .ref a0), (1, .int i1), (2, .int i2)], [.int ((I a0 38) - (I a0 40)), .int i2]))) rfl ?_
    refine gg_br (b := decide (i2 < ((I a0 38) - (I a0 40)))) (tg := 69) (off := 31) aMi278 rfl rfl rfl rfl (fun hb => ?_) (fun hb => ?_)
    · rw [if_pos (of_decide_eq_true hb)] at h
      refine go_ops aMi278 1 _ (f1 := (70, ([(0, .ref a0), (1, .int i1), (2, .int i2)], [.int (Int32.ofInt (-1))]))) rfl ?_
      cases h
      exact go_ret aMi278 rfl aRetI ⟨rfl, rfl⟩
    · rw [if_neg (of_decide_eq_false hb)] at h
      refine go_ops aMi278 1 _ (f1 := (42, ([(0, .ref a0), (1, .int i1), (2, .int i2)], [.ref a0]))) rfl ?_
      refine gg_gR (b := (a0 + 20)) aMi278 rfl rfl rfl (gR_of (sh11_z ha0) (sh11_r44 ha0)) ?_
      refine go_ops aMi278 1 _ (f1 := (46, ([(0, .ref a0), (1, .int i1), (2, .int i2)], [.int i2, .ref (a0 + 20)]))) rfl ?_
      obtain ⟨j46_1, hxj46_1, h⟩ := Option.bind_eq_some_iff.mp h
      refine gg_lI (Or.inl ⟨rfl, rfl⟩) aMi278 rfl (lI_of (sh11_a44 ha0) hxj46_1) ?_
      refine go_ops aMi278 1 _ (f1 := (48, ([(0, .ref a0), (1, .int i1), (2, .int i2)], [.int i1, .int (I (a0 + 20) j46_1)]))) rfl ?_
      refine gg_br (b := decide ((I (a0 + 20) j46_1) = i1)) (tg := 61) (off := 13) aMi278 rfl rfl rfl rfl (fun hb => ?_) (fun hb => ?_)
      · rw [if_pos (of_decide_eq_true hb)] at h
        refine go_le (lv1 := [(2, .int i2)]) (aLe_of (show (List.map (fun q => q.1) ([(2, .int i2)] : ALv)).Nodup from (by show ([2] : List Nat).Nodup; decide)) (aSubL_cons rfl aSubL_nil)) ?_
        exact Tf278_b61 hd a0 ha0 i2 I _ h
      · rw [if_neg (of_decide_eq_false hb)] at h
        refine go_ops aMi278 1 _ (f1 := (52, ([(0, .ref a0), (1, .int i1), (2, .int i2)], [.ref a0]))) rfl ?_
        refine gg_gR (b := (a0 + 21)) aMi278 rfl rfl rfl (gR_of (sh11_z ha0) (sh11_r45 ha0)) ?_
        refine go_ops aMi278 1 _ (f1 := (56, ([(0, .ref a0), (1, .int i1), (2, .int i2)], [.int i2, .ref (a0 + 21)]))) rfl ?_
        obtain ⟨j56_2, hxj56_2, h⟩ := Option.bind_eq_some_iff.mp h
        refine gg_lI (Or.inl ⟨rfl, rfl⟩) aMi278 rfl (lI_of (sh11_a45 ha0) hxj56_2) ?_
        refine go_ops aMi278 1 _ (f1 := (58, ([(0, .ref a0), (1, .int i1), (2, .int i2)], [.int i1, .int (I (a0 + 21) j56_2)]))) rfl ?_
        refine gg_br (b := decide (¬ (I (a0 + 21) j56_2) = i1)) (tg := 63) (off := 5) aMi278 rfl rfl rfl rfl (fun hb => ?_) (fun hb => ?_)
        · rw [if_pos (of_decide_eq_true hb)] at h
          refine go_ops aMi278 2 _ (f1 := (28, ([(2, .int (i2 + (Int32.ofInt (-1)))), (0, .ref a0), (1, .int i1)], []))) rfl ?_
          refine go_le (lv1 := [(0, .ref a0), (1, .int i1), (2, .int (i2 + (Int32.ofInt (-1))))]) (aLe_of (show (List.map (fun q => q.1) ([(0, .ref a0), (1, .int i1), (2, .int (i2 + (Int32.ofInt (-1))))] : ALv)).Nodup from (by show ([0, 1, 2] : List Nat).Nodup; decide)) (aSubL_cons rfl (aSubL_cons rfl (aSubL_cons rfl aSubL_nil)))) ?_
          exact ih a0 ha0 i1 (i2 + (Int32.ofInt (-1))) I _ h
        · rw [if_neg (of_decide_eq_false hb)] at h
          refine go_le (lv1 := [(2, .int i2)]) (aLe_of (show (List.map (fun q => q.1) ([(2, .int i2)] : ALv)).Nodup from (by show ([2] : List Nat).Nodup; decide)) (aSubL_cons rfl aSubL_nil)) ?_
          exact Tf278_b61 hd a0 ha0 i2 I _ h
def f278_b13 (kad : Nat → Nat) (N : Nat) (Z : AZ) (a0 : Nat) (i1 : Int32) (s0 : Int32) (I : AI) : Option (Int32 × AI) :=
  (f185 kad N Z a0 s0 I).bind fun r13_1 =>
  if ¬ r13_1.1 = 0 then
    f278_b28 kad N Z N a0 i1 (((r13_1.2) a0 38) - (1 : Int32)) r13_1.2
  else
    some ((0 : Int32), r13_1.2)
set_option maxRecDepth 20000 in
theorem Tf278_b13 {kad : Nat → Nat} {N : Nat} {Z : AZ} {d : Nat} {t : Option Nat × (Nat × Nat)} (hd : 2 ≤ d) : ∀ (a0 : Nat) (ha0 : sh11 kad Z a0) (i1 : Int32) (s0 : Int32) (I : AI) (r : Int32 × AI), f278_b13 kad N Z a0 i1 s0 I = some r → aGo kad d 278 (13, ([(0, .ref a0), (1, .int i1)], [.int s0, .ref a0])) (aMem Z I, t) (qI Z t r) := by
  intro a0 ha0 i1 s0 I r h
  unfold f278_b13 at h
  obtain ⟨r13_1, hxr13_1, h⟩ := Option.bind_eq_some_iff.mp h
  refine gg_cv (as := [.int s0]) (r := []) aMi278 rfl rfl rfl aMi185 (Nat.le_of_ble_eq_true rfl) rfl (Nat.le_of_ble_eq_true rfl) (Nat.le_of_ble_eq_true rfl) (by omega) (isK_of (sh11_z ha0)) (Tf185 (by omega) a0 ha0 s0 I _ hxr13_1) ?_
  show aGo kad d 278 (16, ([(0, .ref a0), (1, .int i1)], [.int r13_1.1])) (aMem Z r13_1.2, t) _
  refine gg_br (b := decide (¬ r13_1.1 = 0)) (tg := 21) (off := 5) aMi278 rfl rfl rfl rfl (fun hb => ?_) (fun hb => ?_)
  · rw [if_pos (of_decide_eq_true hb)] at h
    refine go_ops aMi278 1 _ (f1 := (22, ([(0, .ref a0), (1, .int i1)], [.ref a0]))) rfl ?_
    refine gg_gI aMi278 rfl rfl rfl (gI_of (sh11_z ha0)) ?_
    refine go_ops aMi278 3 _ (f1 := (28, ([(2, .int (((r13_1.2) a0 38) - (1 : Int32))), (0, .ref a0), (1, .int i1)], []))) rfl ?_
    refine go_le (lv1 := [(0, .ref a0), (1, .int i1), (2, .int (((r13_1.2) a0 38) - (1 : Int32)))]) (aLe_of (show (List.map (fun q => q.1) ([(0, .ref a0), (1, .int i1), (2, .int (((r13_1.2) a0 38) - (1 : Int32)))] : ALv)).Nodup from (by show ([0, 1, 2] : List Nat).Nodup; decide)) (aSubL_cons rfl (aSubL_cons rfl (aSubL_cons rfl aSubL_nil)))) ?_
    exact Tf278_b28 hd N a0 ha0 i1 (((r13_1.2) a0 38) - (1 : Int32)) r13_1.2 _ h
  · rw [if_neg (of_decide_eq_false hb)] at h
    refine go_ops aMi278 1 _ (f1 := (20, ([(0, .ref a0), (1, .int i1)], [.int (0 : Int32)]))) rfl ?_
    cases h
    exact go_ret aMi278 rfl aRetI ⟨rfl, rfl⟩
def f278 (kad : Nat → Nat) (N : Nat) (Z : AZ) (a0 : Nat) (i1 : Int32) (I : AI) : Option (Int32 × AI) :=
  (f276 kad N Z i1 I).bind fun r2_1 =>
  if r2_1.1 = 0 then
    f278_b13 kad N Z a0 i1 (1 : Int32) r2_1.2
  else
    f278_b13 kad N Z a0 i1 (0 : Int32) r2_1.2
set_option maxRecDepth 20000 in
theorem Tf278 {kad : Nat → Nat} {N : Nat} {Z : AZ} {d : Nat} {t : Option Nat × (Nat × Nat)} (hd : 2 ≤ d) : ∀ (a0 : Nat) (ha0 : sh11 kad Z a0) (i1 : Int32) (I : AI) (r : Int32 × AI), f278 kad N Z a0 i1 I = some r → aGo kad d 278 (0, ([(0, .ref a0), (1, .int i1)], [])) (aMem Z I, t) (qI Z t r) := by
  intro a0 ha0 i1 I r h
  unfold f278 at h
  refine go_ops aMi278 2 _ (f1 := (2, ([(0, .ref a0), (1, .int i1)], [.int i1, .ref a0]))) rfl ?_
  obtain ⟨r2_1, hxr2_1, h⟩ := Option.bind_eq_some_iff.mp h
  refine gg_cs (as := [.int i1]) (r := [.ref a0]) aMi278 rfl rfl rfl aMi276 rfl (Nat.le_of_ble_eq_true rfl) (Nat.le_of_ble_eq_true rfl) (by omega) (Tf276 (by omega) i1 I _ hxr2_1) ?_
  show aGo kad d 278 (5, ([(0, .ref a0), (1, .int i1)], [.int r2_1.1, .ref a0])) (aMem Z r2_1.2, t) _
  refine gg_br (b := decide (r2_1.1 = 0)) (tg := 12) (off := 7) aMi278 rfl rfl rfl rfl (fun hb => ?_) (fun hb => ?_)
  · rw [if_pos (of_decide_eq_true hb)] at h
    refine go_ops aMi278 1 _ (f1 := (13, ([(0, .ref a0), (1, .int i1)], [.int (1 : Int32), .ref a0]))) rfl ?_
    exact Tf278_b13 hd a0 ha0 i1 (1 : Int32) r2_1.2 _ h
  · rw [if_neg (of_decide_eq_false hb)] at h
    refine go_ops aMi278 2 _ (f1 := (13, ([(0, .ref a0), (1, .int i1)], [.int (0 : Int32), .ref a0]))) rfl ?_
    exact Tf278_b13 hd a0 ha0 i1 (0 : Int32) r2_1.2 _ h
-- KernelGymModel.tape ()I
def f279 (kad : Nat → Nat) (N : Nat) (Z : AZ) (a0 : Nat) (I : AI) : Option (Int32 × AI) :=
  (wI I a0 0 (0 : Int32)).bind fun I2_1 =>
  some ((I2_1 a0 37), I2_1)
set_option maxRecDepth 20000 in
theorem Tf279 {kad : Nat → Nat} {N : Nat} {Z : AZ} {d : Nat} {t : Option Nat × (Nat × Nat)} (hd : 0 ≤ d) : ∀ (a0 : Nat) (ha0 : sh11 kad Z a0) (I : AI) (r : Int32 × AI), f279 kad N Z a0 I = some r → aGo kad d 279 (0, ([(0, .ref a0)], [])) (aMem Z I, t) (qI Z t r) := by
  intro a0 ha0 I r h
  unfold f279 at h
  refine go_ops aMi279 2 _ (f1 := (2, ([(0, .ref a0)], [.int (0 : Int32), .ref a0]))) rfl ?_
  obtain ⟨I2_1, hxI2_1, h⟩ := Option.bind_eq_some_iff.mp h
  refine gg_pI aMi279 rfl rfl rfl rfl (by decide) (pI_of (sh11_z ha0) hxI2_1) ?_
  refine go_ops aMi279 1 _ (f1 := (6, ([(0, .ref a0)], [.ref a0]))) rfl ?_
  refine gg_gI aMi279 rfl rfl rfl (gI_of (sh11_z ha0)) ?_
  cases h
  exact go_ret aMi279 rfl aRetI ⟨rfl, rfl⟩
-- KernelGymModel.tapeAt (I)I
def f280_b36 (kad : Nat → Nat) (N : Nat) (Z : AZ) (a0 : Nat) (s0 : Int32) (I : AI) : Option (Int32 × AI) :=
  some (s0, I)
set_option maxRecDepth 20000 in
theorem Tf280_b36 {kad : Nat → Nat} {N : Nat} {Z : AZ} {d : Nat} {t : Option Nat × (Nat × Nat)} (hd : 1 ≤ d) : ∀ (a0 : Nat) (ha0 : sh11 kad Z a0) (s0 : Int32) (I : AI) (r : Int32 × AI), f280_b36 kad N Z a0 s0 I = some r → aGo kad d 280 (36, ([], [.int s0])) (aMem Z I, t) (qI Z t r) := by
  intro a0 ha0 s0 I r h
  unfold f280_b36 at h
  cases h
  exact go_ret aMi280 rfl aRetI ⟨rfl, rfl⟩
def f280_b20 (kad : Nat → Nat) (N : Nat) (Z : AZ) (a0 : Nat) (i1 : Int32) (s0 : Int32) (I : AI) : Option (Int32 × AI) :=
  (f185 kad N Z a0 s0 I).bind fun r20_1 =>
  if r20_1.1 = 0 then
    f280_b36 kad N Z a0 (0 : Int32) r20_1.2
  else
    (ixA 60 i1).bind fun j31_2 =>
    f280_b36 kad N Z a0 (r20_1.2 (a0 + 17) j31_2) r20_1.2
set_option maxRecDepth 20000 in
theorem Tf280_b20 {kad : Nat → Nat} {N : Nat} {Z : AZ} {d : Nat} {t : Option Nat × (Nat × Nat)} (hd : 1 ≤ d) : ∀ (a0 : Nat) (ha0 : sh11 kad Z a0) (i1 : Int32) (s0 : Int32) (I : AI) (r : Int32 × AI), f280_b20 kad N Z a0 i1 s0 I = some r → aGo kad d 280 (20, ([(0, .ref a0), (1, .int i1)], [.int s0, .ref a0])) (aMem Z I, t) (qI Z t r) := by
  intro a0 ha0 i1 s0 I r h
  unfold f280_b20 at h
  obtain ⟨r20_1, hxr20_1, h⟩ := Option.bind_eq_some_iff.mp h
  refine gg_cv (as := [.int s0]) (r := []) aMi280 rfl rfl rfl aMi185 (Nat.le_of_ble_eq_true rfl) rfl (Nat.le_of_ble_eq_true rfl) (Nat.le_of_ble_eq_true rfl) (by omega) (isK_of (sh11_z ha0)) (Tf185 (by omega) a0 ha0 s0 I _ hxr20_1) ?_
  show aGo kad d 280 (23, ([(0, .ref a0), (1, .int i1)], [.int r20_1.1])) (aMem Z r20_1.2, t) _
  refine gg_br (b := decide (r20_1.1 = 0)) (tg := 35) (off := 12) aMi280 rfl rfl rfl rfl (fun hb => ?_) (fun hb => ?_)
  · rw [if_pos (of_decide_eq_true hb)] at h
    refine go_ops aMi280 1 _ (f1 := (36, ([(0, .ref a0), (1, .int i1)], [.int (0 : Int32)]))) rfl ?_
    refine go_le (lv1 := []) (aLe_of (show (List.map (fun q => q.1) ([] : ALv)).Nodup from (by show ([] : List Nat).Nodup; decide)) aSubL_nil) ?_
    exact Tf280_b36 hd a0 ha0 (0 : Int32) r20_1.2 _ h
  · rw [if_neg (of_decide_eq_false hb)] at h
    refine go_ops aMi280 1 _ (f1 := (27, ([(0, .ref a0), (1, .int i1)], [.ref a0]))) rfl ?_
    refine gg_gR (b := (a0 + 17)) aMi280 rfl rfl rfl (gR_of (sh11_z ha0) (sh11_r36 ha0)) ?_
    refine go_ops aMi280 1 _ (f1 := (31, ([(0, .ref a0), (1, .int i1)], [.int i1, .ref (a0 + 17)]))) rfl ?_
    obtain ⟨j31_2, hxj31_2, h⟩ := Option.bind_eq_some_iff.mp h
    refine gg_lI (Or.inl ⟨rfl, rfl⟩) aMi280 rfl (lI_of (sh11_a36 ha0) hxj31_2) ?_
    refine go_ops aMi280 1 _ (f1 := (36, ([(0, .ref a0), (1, .int i1)], [.int (r20_1.2 (a0 + 17) j31_2)]))) rfl ?_
    refine go_le (lv1 := []) (aLe_of (show (List.map (fun q => q.1) ([] : ALv)).Nodup from (by show ([] : List Nat).Nodup; decide)) aSubL_nil) ?_
    exact Tf280_b36 hd a0 ha0 (r20_1.2 (a0 + 17) j31_2) r20_1.2 _ h
def f280 (kad : Nat → Nat) (N : Nat) (Z : AZ) (a0 : Nat) (i1 : Int32) (I : AI) : Option (Int32 × AI) :=
  (f186 kad N Z i1 (0 : Int32) ((I a0 37) - (1 : Int32)) I).bind fun r9_1 =>
  if r9_1.1 = 0 then
    f280_b20 kad N Z a0 i1 (1 : Int32) r9_1.2
  else
    f280_b20 kad N Z a0 i1 (0 : Int32) r9_1.2
set_option maxRecDepth 20000 in
theorem Tf280 {kad : Nat → Nat} {N : Nat} {Z : AZ} {d : Nat} {t : Option Nat × (Nat × Nat)} (hd : 1 ≤ d) : ∀ (a0 : Nat) (ha0 : sh11 kad Z a0) (i1 : Int32) (I : AI) (r : Int32 × AI), f280 kad N Z a0 i1 I = some r → aGo kad d 280 (0, ([(0, .ref a0), (1, .int i1)], [])) (aMem Z I, t) (qI Z t r) := by
  intro a0 ha0 i1 I r h
  unfold f280 at h
  refine go_ops aMi280 4 _ (f1 := (4, ([(0, .ref a0), (1, .int i1)], [.ref a0, .int (0 : Int32), .int i1, .ref a0]))) rfl ?_
  refine gg_gI aMi280 rfl rfl rfl (gI_of (sh11_z ha0)) ?_
  refine go_ops aMi280 2 _ (f1 := (9, ([(0, .ref a0), (1, .int i1)], [.int ((I a0 37) - (1 : Int32)), .int (0 : Int32), .int i1, .ref a0]))) rfl ?_
  obtain ⟨r9_1, hxr9_1, h⟩ := Option.bind_eq_some_iff.mp h
  refine gg_cs (as := [.int i1, .int (0 : Int32), .int ((I a0 37) - (1 : Int32))]) (r := [.ref a0]) aMi280 rfl rfl rfl aMi186 rfl (Nat.le_of_ble_eq_true rfl) (Nat.le_of_ble_eq_true rfl) (by omega) (Tf186 (by omega) i1 (0 : Int32) ((I a0 37) - (1 : Int32)) I _ hxr9_1) ?_
  show aGo kad d 280 (12, ([(0, .ref a0), (1, .int i1)], [.int r9_1.1, .ref a0])) (aMem Z r9_1.2, t) _
  refine gg_br (b := decide (r9_1.1 = 0)) (tg := 19) (off := 7) aMi280 rfl rfl rfl rfl (fun hb => ?_) (fun hb => ?_)
  · rw [if_pos (of_decide_eq_true hb)] at h
    refine go_ops aMi280 1 _ (f1 := (20, ([(0, .ref a0), (1, .int i1)], [.int (1 : Int32), .ref a0]))) rfl ?_
    exact Tf280_b20 hd a0 ha0 i1 (1 : Int32) r9_1.2 _ h
  · rw [if_neg (of_decide_eq_false hb)] at h
    refine go_ops aMi280 2 _ (f1 := (20, ([(0, .ref a0), (1, .int i1)], [.int (0 : Int32), .ref a0]))) rfl ?_
    exact Tf280_b20 hd a0 ha0 i1 (0 : Int32) r9_1.2 _ h
