-- KernelGymModel.checkOfLog ()I
def f252_b30 (kad : Nat → Nat) (N : Nat) (Z : AZ) : Nat → Nat → Int32 → Int32 → AI → Option (Int32 × AI)
  | 0, _, _, _, _ => none
  | F + 1, a0, i1, i2, I =>
    (gR Z I 11 50 a0).bind fun b34_1 =>
    (lI Z I 100 b34_1 (0 : Int32)).bind fun x38_2 =>
    if ((8 : Int32) * x38_2) ≤ i2 then
      some ((i1 - i1 / (65536 : Int32) * (65536 : Int32)), I)
    else
      (gR Z I 11 50 a0).bind fun b45_3 =>
      (lI Z I 100 b45_3 ((8 : Int32) + i2)).bind fun x52_4 =>
      f252_b30 kad N Z F a0 (i1 + x52_4) (i2 + (1 : Int32)) I
set_option maxRecDepth 20000 in
theorem Tf252_b30 {kad : Nat → Nat} {N : Nat} {Z : AZ} {d : Nat} {t : Option Nat × (Nat × Nat)} (hd : 0 ≤ d) : ∀ (F : Nat) (a0 : Nat) (i1 : Int32) (i2 : Int32) (I : AI) (r : Int32 × AI), f252_b30 kad N Z F a0 i1 i2 I = some r → aGo kad d 252 (30, ([(0, .ref a0), (1, .int i1), (2, .int i2)], [])) (aMem Z I, t) (qI Z t r) := by
  intro F
  induction F with
  | zero => intro a0 i1 i2 I r h; cases h
  | succ F ih =>
    intro a0 i1 i2 I r h
    unfold f252_b30 at h
    refine go_ops aMi252 3 _ (f1 := (34, ([(0, .ref a0), (1, .int i1), (2, .int i2)], [.ref a0, .int (8 : Int32), .int i2]))) rfl ?_
    obtain ⟨b34_1, hxb34_1, h⟩ := Option.bind_eq_some_iff.mp h
    refine gg_gR aMi252 rfl rfl rfl hxb34_1 ?_
    refine go_ops aMi252 1 _ (f1 := (38, ([(0, .ref a0), (1, .int i1), (2, .int i2)], [.int (0 : Int32), .ref b34_1, .int (8 : Int32), .int i2]))) rfl ?_
    obtain ⟨x38_2, hxx38_2, h⟩ := Option.bind_eq_some_iff.mp h
    refine gg_lI (Or.inl ⟨rfl, rfl⟩) aMi252 rfl hxx38_2 ?_
    refine go_ops aMi252 1 _ (f1 := (40, ([(0, .ref a0), (1, .int i1), (2, .int i2)], [.int ((8 : Int32) * x38_2), .int i2]))) rfl ?_
    refine gg_br (b := decide (((8 : Int32) * x38_2) ≤ i2)) (tg := 61) (off := 21) aMi252 rfl rfl rfl rfl (fun hb => ?_) (fun hb => ?_)
    · rw [if_pos (of_decide_eq_true hb)] at h
      refine go_ops aMi252 1 _ (f1 := (62, ([(0, .ref a0), (1, .int i1), (2, .int i2)], [.int i1]))) rfl ?_
      refine gg_kI (Or.inl ⟨rfl, rfl⟩) aMi252 rfl rfl ?_
      refine go_ops aMi252 1 _ (f1 := (65, ([(0, .ref a0), (1, .int i1), (2, .int i2)], [.int (i1 - i1 / (65536 : Int32) * (65536 : Int32))]))) rfl ?_
      cases h
      exact go_ret aMi252 rfl aRetI ⟨rfl, rfl⟩
    · rw [if_neg (of_decide_eq_false hb)] at h
      refine go_ops aMi252 2 _ (f1 := (45, ([(0, .ref a0), (1, .int i1), (2, .int i2)], [.ref a0, .int i1]))) rfl ?_
      obtain ⟨b45_3, hxb45_3, h⟩ := Option.bind_eq_some_iff.mp h
      refine gg_gR aMi252 rfl rfl rfl hxb45_3 ?_
      refine go_ops aMi252 3 _ (f1 := (52, ([(0, .ref a0), (1, .int i1), (2, .int i2)], [.int ((8 : Int32) + i2), .ref b45_3, .int i1]))) rfl ?_
      obtain ⟨x52_4, hxx52_4, h⟩ := Option.bind_eq_some_iff.mp h
      refine gg_lI (Or.inl ⟨rfl, rfl⟩) aMi252 rfl hxx52_4 ?_
      refine go_ops aMi252 4 _ (f1 := (30, ([(2, .int (i2 + (1 : Int32))), (1, .int (i1 + x52_4)), (0, .ref a0)], []))) rfl ?_
      refine go_le (lv1 := [(0, .ref a0), (1, .int (i1 + x52_4)), (2, .int (i2 + (1 : Int32)))]) (aLe_of (show (List.map (fun q => q.1) ([(0, .ref a0), (1, .int (i1 + x52_4)), (2, .int (i2 + (1 : Int32)))] : ALv)).Nodup from (by show ([0, 1, 2] : List Nat).Nodup; decide)) (aSubL_cons rfl (aSubL_cons rfl (aSubL_cons rfl aSubL_nil)))) ?_
      exact ih a0 (i1 + x52_4) (i2 + (1 : Int32)) I _ h
def f252 (kad : Nat → Nat) (N : Nat) (Z : AZ) (a0 : Nat) (I : AI) : Option (Int32 × AI) :=
  (gR Z I 11 50 a0).bind fun b1_1 =>
  (lI Z I 100 b1_1 (0 : Int32)).bind fun x5_2 =>
  (gR Z I 11 50 a0).bind fun b7_3 =>
  (lI Z I 100 b7_3 (1 : Int32)).bind fun x11_4 =>
  (gR Z I 11 50 a0).bind fun b14_5 =>
  (lI Z I 100 b14_5 (2 : Int32)).bind fun x18_6 =>
  (gR Z I 11 50 a0).bind fun b21_7 =>
  (lI Z I 100 b21_7 (3 : Int32)).bind fun x25_8 =>
  f252_b30 kad N Z N a0 (((x5_2 + x11_4) + x18_6) + x25_8) (0 : Int32) I
set_option maxRecDepth 20000 in
theorem Tf252 {kad : Nat → Nat} {N : Nat} {Z : AZ} {d : Nat} {t : Option Nat × (Nat × Nat)} (hd : 0 ≤ d) : ∀ (a0 : Nat) (I : AI) (r : Int32 × AI), f252 kad N Z a0 I = some r → aGo kad d 252 (0, ([(0, .ref a0)], [])) (aMem Z I, t) (qI Z t r) := by
  intro a0 I r h
  unfold f252 at h
  refine go_ops aMi252 1 _ (f1 := (1, ([(0, .ref a0)], [.ref a0]))) rfl ?_
  obtain ⟨b1_1, hxb1_1, h⟩ := Option.bind_eq_some_iff.mp h
  refine gg_gR aMi252 rfl rfl rfl hxb1_1 ?_
  refine go_ops aMi252 1 _ (f1 := (5, ([(0, .ref a0)], [.int (0 : Int32), .ref b1_1]))) rfl ?_
  obtain ⟨x5_2, hxx5_2, h⟩ := Option.bind_eq_some_iff.mp h
  refine gg_lI (Or.inl ⟨rfl, rfl⟩) aMi252 rfl hxx5_2 ?_
  refine go_ops aMi252 1 _ (f1 := (7, ([(0, .ref a0)], [.ref a0, .int x5_2]))) rfl ?_
  obtain ⟨b7_3, hxb7_3, h⟩ := Option.bind_eq_some_iff.mp h
  refine gg_gR aMi252 rfl rfl rfl hxb7_3 ?_
  refine go_ops aMi252 1 _ (f1 := (11, ([(0, .ref a0)], [.int (1 : Int32), .ref b7_3, .int x5_2]))) rfl ?_
  obtain ⟨x11_4, hxx11_4, h⟩ := Option.bind_eq_some_iff.mp h
  refine gg_lI (Or.inl ⟨rfl, rfl⟩) aMi252 rfl hxx11_4 ?_
  refine go_ops aMi252 2 _ (f1 := (14, ([(0, .ref a0)], [.ref a0, .int (x5_2 + x11_4)]))) rfl ?_
  obtain ⟨b14_5, hxb14_5, h⟩ := Option.bind_eq_some_iff.mp h
  refine gg_gR aMi252 rfl rfl rfl hxb14_5 ?_
  refine go_ops aMi252 1 _ (f1 := (18, ([(0, .ref a0)], [.int (2 : Int32), .ref b14_5, .int (x5_2 + x11_4)]))) rfl ?_
  obtain ⟨x18_6, hxx18_6, h⟩ := Option.bind_eq_some_iff.mp h
  refine gg_lI (Or.inl ⟨rfl, rfl⟩) aMi252 rfl hxx18_6 ?_
  refine go_ops aMi252 2 _ (f1 := (21, ([(0, .ref a0)], [.ref a0, .int ((x5_2 + x11_4) + x18_6)]))) rfl ?_
  obtain ⟨b21_7, hxb21_7, h⟩ := Option.bind_eq_some_iff.mp h
  refine gg_gR aMi252 rfl rfl rfl hxb21_7 ?_
  refine go_ops aMi252 1 _ (f1 := (25, ([(0, .ref a0)], [.int (3 : Int32), .ref b21_7, .int ((x5_2 + x11_4) + x18_6)]))) rfl ?_
  obtain ⟨x25_8, hxx25_8, h⟩ := Option.bind_eq_some_iff.mp h
  refine gg_lI (Or.inl ⟨rfl, rfl⟩) aMi252 rfl hxx25_8 ?_
  refine go_ops aMi252 4 _ (f1 := (30, ([(2, .int (0 : Int32)), (1, .int (((x5_2 + x11_4) + x18_6) + x25_8)), (0, .ref a0)], []))) rfl ?_
  refine go_le (lv1 := [(0, .ref a0), (1, .int (((x5_2 + x11_4) + x18_6) + x25_8)), (2, .int (0 : Int32))]) (aLe_of (show (List.map (fun q => q.1) ([(0, .ref a0), (1, .int (((x5_2 + x11_4) + x18_6) + x25_8)), (2, .int (0 : Int32))] : ALv)).Nodup from (by show ([0, 1, 2] : List Nat).Nodup; decide)) (aSubL_cons rfl (aSubL_cons rfl (aSubL_cons rfl aSubL_nil)))) ?_
  exact Tf252_b30 hd N a0 (((x5_2 + x11_4) + x18_6) + x25_8) (0 : Int32) I _ h
-- KernelGymModel.mends ()I
def f253_b99 (kad : Nat → Nat) (N : Nat) (Z : AZ) (a0 : Nat) (i1 : Int32) (I : AI) : Option (Int32 × AI) :=
  (isK Z a0 11).bind fun u101_1 =>
  (f251 kad N Z a0 (0 : Int32) I).bind fun r101_2 =>
  (gI Z r101_2.2 11 52 a0).bind fun x106_3 =>
  (pI Z r101_2.2 11 52 a0 (x106_3 + i1)).bind fun I111_4 =>
  some (i1, I111_4)
set_option maxRecDepth 20000 in
theorem Tf253_b99 {kad : Nat → Nat} {N : Nat} {Z : AZ} {d : Nat} {t : Option Nat × (Nat × Nat)} (hd : 1 ≤ d) : ∀ (a0 : Nat) (i1 : Int32) (I : AI) (r : Int32 × AI), f253_b99 kad N Z a0 i1 I = some r → aGo kad d 253 (99, ([(0, .ref a0), (1, .int i1)], [])) (aMem Z I, t) (qI Z t r) := by
  intro a0 i1 I r h
  unfold f253_b99 at h
  refine go_ops aMi253 2 _ (f1 := (101, ([(0, .ref a0), (1, .int i1)], [.int (0 : Int32), .ref a0]))) rfl ?_
  obtain ⟨u101_1, hxu101_1, h⟩ := Option.bind_eq_some_iff.mp h
  obtain ⟨r101_2, hxr101_2, h⟩ := Option.bind_eq_some_iff.mp h
  refine gg_cv (as := [.int (0 : Int32)]) (r := []) aMi253 rfl rfl rfl aMi251 (Nat.le_of_ble_eq_true rfl) rfl (Nat.le_of_ble_eq_true rfl) (Nat.le_of_ble_eq_true rfl) (by omega) hxu101_1 (Tf251 (by omega) a0 (0 : Int32) I _ hxr101_2) ?_
  show aGo kad d 253 (104, ([(0, .ref a0), (1, .int i1)], [])) (aMem Z r101_2.2, t) _
  refine go_ops aMi253 2 _ (f1 := (106, ([(0, .ref a0), (1, .int i1)], [.ref a0, .ref a0]))) rfl ?_
  obtain ⟨x106_3, hxx106_3, h⟩ := Option.bind_eq_some_iff.mp h
  refine gg_gI aMi253 rfl rfl rfl hxx106_3 ?_
  refine go_ops aMi253 2 _ (f1 := (111, ([(0, .ref a0), (1, .int i1)], [.int (x106_3 + i1), .ref a0]))) rfl ?_
  obtain ⟨I111_4, hxI111_4, h⟩ := Option.bind_eq_some_iff.mp h
  refine gg_pI aMi253 rfl rfl rfl rfl (by decide) hxI111_4 ?_
  refine go_ops aMi253 1 _ (f1 := (115, ([(0, .ref a0), (1, .int i1)], [.int i1]))) rfl ?_
  cases h
  exact go_ret aMi253 rfl aRetI ⟨rfl, rfl⟩
def f253_b47 (kad : Nat → Nat) (N : Nat) (Z : AZ) : Nat → Nat → Int32 → Int32 → AI → Option (Int32 × AI)
  | 0, _, _, _, _ => none
  | F + 1, a0, i1, i2, I =>
    (gR Z I 11 50 a0).bind fun b51_1 =>
    (lI Z I 100 b51_1 (0 : Int32)).bind fun x55_2 =>
    if ((8 : Int32) * x55_2) ≤ i2 then
      f253_b99 kad N Z a0 i1 I
    else
      (gR Z I 11 50 a0).bind fun b61_3 =>
      (gR Z I 11 50 a0).bind fun b67_4 =>
      (lI Z I 100 b67_4 ((1 : Int32) + (i2 / (8 : Int32)))).bind fun x76_5 =>
      (gR Z I 11 50 a0).bind fun b84_6 =>
      (lI Z I 100 b84_6 ((8 : Int32) + i2)).bind fun x91_7 =>
      (sI Z I 100 b61_3 (((8 : Int32) * x76_5) + (i2 - i2 / (8 : Int32) * (8 : Int32))) x91_7).bind fun I92_8 =>
      f253_b47 kad N Z F a0 i1 (i2 + (1 : Int32)) I92_8
set_option maxRecDepth 20000 in
theorem Tf253_b47 {kad : Nat → Nat} {N : Nat} {Z : AZ} {d : Nat} {t : Option Nat × (Nat × Nat)} (hd : 1 ≤ d) : ∀ (F : Nat) (a0 : Nat) (i1 : Int32) (i2 : Int32) (I : AI) (r : Int32 × AI), f253_b47 kad N Z F a0 i1 i2 I = some r → aGo kad d 253 (47, ([(0, .ref a0), (1, .int i1), (2, .int i2)], [])) (aMem Z I, t) (qI Z t r) := by
  intro F
  induction F with
  | zero => intro a0 i1 i2 I r h; cases h
  | succ F ih =>
    intro a0 i1 i2 I r h
    unfold f253_b47 at h
    refine go_ops aMi253 3 _ (f1 := (51, ([(0, .ref a0), (1, .int i1), (2, .int i2)], [.ref a0, .int (8 : Int32), .int i2]))) rfl ?_
    obtain ⟨b51_1, hxb51_1, h⟩ := Option.bind_eq_some_iff.mp h
    refine gg_gR aMi253 rfl rfl rfl hxb51_1 ?_
    refine go_ops aMi253 1 _ (f1 := (55, ([(0, .ref a0), (1, .int i1), (2, .int i2)], [.int (0 : Int32), .ref b51_1, .int (8 : Int32), .int i2]))) rfl ?_
    obtain ⟨x55_2, hxx55_2, h⟩ := Option.bind_eq_some_iff.mp h
    refine gg_lI (Or.inl ⟨rfl, rfl⟩) aMi253 rfl hxx55_2 ?_
    refine go_ops aMi253 1 _ (f1 := (57, ([(0, .ref a0), (1, .int i1), (2, .int i2)], [.int ((8 : Int32) * x55_2), .int i2]))) rfl ?_
    refine gg_br (b := decide (((8 : Int32) * x55_2) ≤ i2)) (tg := 99) (off := 42) aMi253 rfl rfl rfl rfl (fun hb => ?_) (fun hb => ?_)
    · rw [if_pos (of_decide_eq_true hb)] at h
      refine go_le (lv1 := [(0, .ref a0), (1, .int i1)]) (aLe_of (show (List.map (fun q => q.1) ([(0, .ref a0), (1, .int i1)] : ALv)).Nodup from (by show ([0, 1] : List Nat).Nodup; decide)) (aSubL_cons rfl (aSubL_cons rfl aSubL_nil))) ?_
      exact Tf253_b99 hd a0 i1 I _ h
    · rw [if_neg (of_decide_eq_false hb)] at h
      refine go_ops aMi253 1 _ (f1 := (61, ([(0, .ref a0), (1, .int i1), (2, .int i2)], [.ref a0]))) rfl ?_
      obtain ⟨b61_3, hxb61_3, h⟩ := Option.bind_eq_some_iff.mp h
      refine gg_gR aMi253 rfl rfl rfl hxb61_3 ?_
      refine go_ops aMi253 2 _ (f1 := (67, ([(0, .ref a0), (1, .int i1), (2, .int i2)], [.ref a0, .int (8 : Int32), .ref b61_3]))) rfl ?_
      obtain ⟨b67_4, hxb67_4, h⟩ := Option.bind_eq_some_iff.mp h
      refine gg_gR aMi253 rfl rfl rfl hxb67_4 ?_
      refine go_ops aMi253 5 _ (f1 := (76, ([(0, .ref a0), (1, .int i1), (2, .int i2)], [.int ((1 : Int32) + (i2 / (8 : Int32))), .ref b67_4, .int (8 : Int32), .ref b61_3]))) rfl ?_
      obtain ⟨x76_5, hxx76_5, h⟩ := Option.bind_eq_some_iff.mp h
      refine gg_lI (Or.inl ⟨rfl, rfl⟩) aMi253 rfl hxx76_5 ?_
      refine go_ops aMi253 6 _ (f1 := (84, ([(0, .ref a0), (1, .int i1), (2, .int i2)], [.ref a0, .int (((8 : Int32) * x76_5) + (i2 - i2 / (8 : Int32) * (8 : Int32))), .ref b61_3]))) rfl ?_
      obtain ⟨b84_6, hxb84_6, h⟩ := Option.bind_eq_some_iff.mp h
      refine gg_gR aMi253 rfl rfl rfl hxb84_6 ?_
      refine go_ops aMi253 3 _ (f1 := (91, ([(0, .ref a0), (1, .int i1), (2, .int i2)], [.int ((8 : Int32) + i2), .ref b84_6, .int (((8 : Int32) * x76_5) + (i2 - i2 / (8 : Int32) * (8 : Int32))), .ref b61_3]))) rfl ?_
      obtain ⟨x91_7, hxx91_7, h⟩ := Option.bind_eq_some_iff.mp h
      refine gg_lI (Or.inl ⟨rfl, rfl⟩) aMi253 rfl hxx91_7 ?_
      obtain ⟨I92_8, hxI92_8, h⟩ := Option.bind_eq_some_iff.mp h
      refine gg_sI (Or.inl ⟨rfl, rfl⟩) aMi253 rfl hxI92_8 ?_
      refine go_ops aMi253 2 _ (f1 := (47, ([(2, .int (i2 + (1 : Int32))), (0, .ref a0), (1, .int i1)], []))) rfl ?_
      refine go_le (lv1 := [(0, .ref a0), (1, .int i1), (2, .int (i2 + (1 : Int32)))]) (aLe_of (show (List.map (fun q => q.1) ([(0, .ref a0), (1, .int i1), (2, .int (i2 + (1 : Int32)))] : ALv)).Nodup from (by show ([0, 1, 2] : List Nat).Nodup; decide)) (aSubL_cons rfl (aSubL_cons rfl (aSubL_cons rfl aSubL_nil)))) ?_
      exact ih a0 i1 (i2 + (1 : Int32)) I92_8 _ h
def f253 (kad : Nat → Nat) (N : Nat) (Z : AZ) (a0 : Nat) (I : AI) : Option (Int32 × AI) :=
  (gR Z I 11 50 a0).bind fun b1_1 =>
  (lI Z I 100 b1_1 (0 : Int32)).bind fun x5_2 =>
  if ¬ x5_2 = 0 then
    (gR Z I 11 50 a0).bind fun b14_3 =>
    (lI Z I 100 b14_3 (0 : Int32)).bind fun x18_4 =>
    if (3 : Int32) < x18_4 then
      f253_b99 kad N Z a0 (1 : Int32) I
    else
      (isK Z a0 11).bind fun u24_5 =>
      (f252 kad N Z a0 I).bind fun r24_6 =>
      (gR Z r24_6.2 11 50 a0).bind fun b28_7 =>
      (lI Z r24_6.2 100 b28_7 (4 : Int32)).bind fun x32_8 =>
      if ¬ r24_6.1 = x32_8 then
        f253_b99 kad N Z a0 (1 : Int32) r24_6.2
      else
        (gR Z r24_6.2 11 50 a0).bind fun b38_9 =>
        (lI Z r24_6.2 100 b38_9 (0 : Int32)).bind fun x42_10 =>
        f253_b47 kad N Z N a0 ((1 : Int32) + x42_10) (0 : Int32) r24_6.2
  else
    some ((0 : Int32), I)
set_option maxRecDepth 20000 in
theorem Tf253 {kad : Nat → Nat} {N : Nat} {Z : AZ} {d : Nat} {t : Option Nat × (Nat × Nat)} (hd : 1 ≤ d) : ∀ (a0 : Nat) (I : AI) (r : Int32 × AI), f253 kad N Z a0 I = some r → aGo kad d 253 (0, ([(0, .ref a0)], [])) (aMem Z I, t) (qI Z t r) := by
  intro a0 I r h
  unfold f253 at h
  refine go_ops aMi253 1 _ (f1 := (1, ([(0, .ref a0)], [.ref a0]))) rfl ?_
  obtain ⟨b1_1, hxb1_1, h⟩ := Option.bind_eq_some_iff.mp h
  refine gg_gR aMi253 rfl rfl rfl hxb1_1 ?_
  refine go_ops aMi253 1 _ (f1 := (5, ([(0, .ref a0)], [.int (0 : Int32), .ref b1_1]))) rfl ?_
  obtain ⟨x5_2, hxx5_2, h⟩ := Option.bind_eq_some_iff.mp h
  refine gg_lI (Or.inl ⟨rfl, rfl⟩) aMi253 rfl hxx5_2 ?_
  refine gg_br (b := decide (¬ x5_2 = 0)) (tg := 11) (off := 5) aMi253 rfl rfl rfl rfl (fun hb => ?_) (fun hb => ?_)
  · rw [if_pos (of_decide_eq_true hb)] at h
    refine go_ops aMi253 3 _ (f1 := (14, ([(1, .int (1 : Int32)), (0, .ref a0)], [.ref a0]))) rfl ?_
    obtain ⟨b14_3, hxb14_3, h⟩ := Option.bind_eq_some_iff.mp h
    refine gg_gR aMi253 rfl rfl rfl hxb14_3 ?_
    refine go_ops aMi253 1 _ (f1 := (18, ([(1, .int (1 : Int32)), (0, .ref a0)], [.int (0 : Int32), .ref b14_3]))) rfl ?_
    obtain ⟨x18_4, hxx18_4, h⟩ := Option.bind_eq_some_iff.mp h
    refine gg_lI (Or.inl ⟨rfl, rfl⟩) aMi253 rfl hxx18_4 ?_
    refine go_ops aMi253 1 _ (f1 := (20, ([(1, .int (1 : Int32)), (0, .ref a0)], [.int (3 : Int32), .int x18_4]))) rfl ?_
    refine gg_br (b := decide ((3 : Int32) < x18_4)) (tg := 99) (off := 79) aMi253 rfl rfl rfl rfl (fun hb => ?_) (fun hb => ?_)
    · rw [if_pos (of_decide_eq_true hb)] at h
      refine go_le (lv1 := [(0, .ref a0), (1, .int (1 : Int32))]) (aLe_of (show (List.map (fun q => q.1) ([(0, .ref a0), (1, .int (1 : Int32))] : ALv)).Nodup from (by show ([0, 1] : List Nat).Nodup; decide)) (aSubL_cons rfl (aSubL_cons rfl aSubL_nil))) ?_
      exact Tf253_b99 hd a0 (1 : Int32) I _ h
    · rw [if_neg (of_decide_eq_false hb)] at h
      refine go_ops aMi253 1 _ (f1 := (24, ([(1, .int (1 : Int32)), (0, .ref a0)], [.ref a0]))) rfl ?_
      obtain ⟨u24_5, hxu24_5, h⟩ := Option.bind_eq_some_iff.mp h
      obtain ⟨r24_6, hxr24_6, h⟩ := Option.bind_eq_some_iff.mp h
      refine gg_cv (as := []) (r := []) aMi253 rfl rfl rfl aMi252 (Nat.le_of_ble_eq_true rfl) rfl (Nat.le_of_ble_eq_true rfl) (Nat.le_of_ble_eq_true rfl) (by omega) hxu24_5 (Tf252 (by omega) a0 I _ hxr24_6) ?_
      show aGo kad d 253 (27, ([(1, .int (1 : Int32)), (0, .ref a0)], [.int r24_6.1])) (aMem Z r24_6.2, t) _
      refine go_ops aMi253 1 _ (f1 := (28, ([(1, .int (1 : Int32)), (0, .ref a0)], [.ref a0, .int r24_6.1]))) rfl ?_
      obtain ⟨b28_7, hxb28_7, h⟩ := Option.bind_eq_some_iff.mp h
      refine gg_gR aMi253 rfl rfl rfl hxb28_7 ?_
      refine go_ops aMi253 1 _ (f1 := (32, ([(1, .int (1 : Int32)), (0, .ref a0)], [.int (4 : Int32), .ref b28_7, .int r24_6.1]))) rfl ?_
      obtain ⟨x32_8, hxx32_8, h⟩ := Option.bind_eq_some_iff.mp h
      refine gg_lI (Or.inl ⟨rfl, rfl⟩) aMi253 rfl hxx32_8 ?_
      refine gg_br (b := decide (¬ r24_6.1 = x32_8)) (tg := 99) (off := 66) aMi253 rfl rfl rfl rfl (fun hb => ?_) (fun hb => ?_)
      · rw [if_pos (of_decide_eq_true hb)] at h
        refine go_le (lv1 := [(0, .ref a0), (1, .int (1 : Int32))]) (aLe_of (show (List.map (fun q => q.1) ([(0, .ref a0), (1, .int (1 : Int32))] : ALv)).Nodup from (by show ([0, 1] : List Nat).Nodup; decide)) (aSubL_cons rfl (aSubL_cons rfl aSubL_nil))) ?_
        exact Tf253_b99 hd a0 (1 : Int32) r24_6.2 _ h
      · rw [if_neg (of_decide_eq_false hb)] at h
        refine go_ops aMi253 2 _ (f1 := (38, ([(1, .int (1 : Int32)), (0, .ref a0)], [.ref a0, .int (1 : Int32)]))) rfl ?_
        obtain ⟨b38_9, hxb38_9, h⟩ := Option.bind_eq_some_iff.mp h
        refine gg_gR aMi253 rfl rfl rfl hxb38_9 ?_
        refine go_ops aMi253 1 _ (f1 := (42, ([(1, .int (1 : Int32)), (0, .ref a0)], [.int (0 : Int32), .ref b38_9, .int (1 : Int32)]))) rfl ?_
        obtain ⟨x42_10, hxx42_10, h⟩ := Option.bind_eq_some_iff.mp h
        refine gg_lI (Or.inl ⟨rfl, rfl⟩) aMi253 rfl hxx42_10 ?_
        refine go_ops aMi253 4 _ (f1 := (47, ([(2, .int (0 : Int32)), (1, .int ((1 : Int32) + x42_10)), (0, .ref a0)], []))) rfl ?_
        refine go_le (lv1 := [(0, .ref a0), (1, .int ((1 : Int32) + x42_10)), (2, .int (0 : Int32))]) (aLe_of (show (List.map (fun q => q.1) ([(0, .ref a0), (1, .int ((1 : Int32) + x42_10)), (2, .int (0 : Int32))] : ALv)).Nodup from (by show ([0, 1, 2] : List Nat).Nodup; decide)) (aSubL_cons rfl (aSubL_cons rfl (aSubL_cons rfl aSubL_nil)))) ?_
        exact Tf253_b47 hd N a0 ((1 : Int32) + x42_10) (0 : Int32) r24_6.2 _ h
  · rw [if_neg (of_decide_eq_false hb)] at h
    refine go_ops aMi253 1 _ (f1 := (10, ([(0, .ref a0)], [.int (0 : Int32)]))) rfl ?_
    cases h
    exact go_ret aMi253 rfl aRetI ⟨rfl, rfl⟩
-- KernelGymModel.formats ()V
def f254_b2 (kad : Nat → Nat) (N : Nat) (Z : AZ) : Nat → Nat → Int32 → AI → Option (Unit × AI)
  | 0, _, _, _ => none
  | F + 1, a0, i1, I =>
    if (256 : Int32) ≤ i1 then
      (gR Z I 11 50 a0).bind fun b23_1 =>
      (sI Z I 100 b23_1 (32 : Int32) (255 : Int32)).bind fun I31_2 =>
      (pI Z I31_2 11 52 a0 (0 : Int32)).bind fun I34_3 =>
      some ((), I34_3)
    else
      (gR Z I 11 50 a0).bind fun b10_4 =>
      (sI Z I 100 b10_4 i1 (0 : Int32)).bind fun I15_5 =>
      f254_b2 kad N Z F a0 (i1 + (1 : Int32)) I15_5
set_option maxRecDepth 20000 in
theorem Tf254_b2 {kad : Nat → Nat} {N : Nat} {Z : AZ} {d : Nat} {t : Option Nat × (Nat × Nat)} (hd : 0 ≤ d) : ∀ (F : Nat) (a0 : Nat) (i1 : Int32) (I : AI) (r : Unit × AI), f254_b2 kad N Z F a0 i1 I = some r → aGo kad d 254 (2, ([(0, .ref a0), (1, .int i1)], [])) (aMem Z I, t) (qV Z t r) := by
  intro F
  induction F with
  | zero => intro a0 i1 I r h; cases h
  | succ F ih =>
    intro a0 i1 I r h
    unfold f254_b2 at h
    refine go_ops aMi254 2 _ (f1 := (6, ([(0, .ref a0), (1, .int i1)], [.int (256 : Int32), .int i1]))) rfl ?_
    refine gg_br (b := decide ((256 : Int32) ≤ i1)) (tg := 22) (off := 16) aMi254 rfl rfl rfl rfl (fun hb => ?_) (fun hb => ?_)
    · rw [if_pos (of_decide_eq_true hb)] at h
      refine go_ops aMi254 1 _ (f1 := (23, ([(0, .ref a0), (1, .int i1)], [.ref a0]))) rfl ?_
      obtain ⟨b23_1, hxb23_1, h⟩ := Option.bind_eq_some_iff.mp h
      refine gg_gR aMi254 rfl rfl rfl hxb23_1 ?_
      refine go_ops aMi254 2 _ (f1 := (31, ([(0, .ref a0), (1, .int i1)], [.int (255 : Int32), .int (32 : Int32), .ref b23_1]))) rfl ?_
      obtain ⟨I31_2, hxI31_2, h⟩ := Option.bind_eq_some_iff.mp h
      refine gg_sI (Or.inl ⟨rfl, rfl⟩) aMi254 rfl hxI31_2 ?_
      refine go_ops aMi254 2 _ (f1 := (34, ([(0, .ref a0), (1, .int i1)], [.int (0 : Int32), .ref a0]))) rfl ?_
      obtain ⟨I34_3, hxI34_3, h⟩ := Option.bind_eq_some_iff.mp h
      refine gg_pI aMi254 rfl rfl rfl rfl (by decide) hxI34_3 ?_
      cases h
      exact go_ret aMi254 rfl rfl ⟨rfl, rfl⟩
    · rw [if_neg (of_decide_eq_false hb)] at h
      refine go_ops aMi254 1 _ (f1 := (10, ([(0, .ref a0), (1, .int i1)], [.ref a0]))) rfl ?_
      obtain ⟨b10_4, hxb10_4, h⟩ := Option.bind_eq_some_iff.mp h
      refine gg_gR aMi254 rfl rfl rfl hxb10_4 ?_
      refine go_ops aMi254 2 _ (f1 := (15, ([(0, .ref a0), (1, .int i1)], [.int (0 : Int32), .int i1, .ref b10_4]))) rfl ?_
      obtain ⟨I15_5, hxI15_5, h⟩ := Option.bind_eq_some_iff.mp h
      refine gg_sI (Or.inl ⟨rfl, rfl⟩) aMi254 rfl hxI15_5 ?_
      refine go_ops aMi254 2 _ (f1 := (2, ([(1, .int (i1 + (1 : Int32))), (0, .ref a0)], []))) rfl ?_
      refine go_le (lv1 := [(0, .ref a0), (1, .int (i1 + (1 : Int32)))]) (aLe_of (show (List.map (fun q => q.1) ([(0, .ref a0), (1, .int (i1 + (1 : Int32)))] : ALv)).Nodup from (by show ([0, 1] : List Nat).Nodup; decide)) (aSubL_cons rfl (aSubL_cons rfl aSubL_nil))) ?_
      exact ih a0 (i1 + (1 : Int32)) I15_5 _ h
def f254 (kad : Nat → Nat) (N : Nat) (Z : AZ) (a0 : Nat) (I : AI) : Option (Unit × AI) :=
  f254_b2 kad N Z N a0 (0 : Int32) I
set_option maxRecDepth 20000 in
theorem Tf254 {kad : Nat → Nat} {N : Nat} {Z : AZ} {d : Nat} {t : Option Nat × (Nat × Nat)} (hd : 0 ≤ d) : ∀ (a0 : Nat) (I : AI) (r : Unit × AI), f254 kad N Z a0 I = some r → aGo kad d 254 (0, ([(0, .ref a0)], [])) (aMem Z I, t) (qV Z t r) := by
  intro a0 I r h
  unfold f254 at h
  refine go_ops aMi254 2 _ (f1 := (2, ([(1, .int (0 : Int32)), (0, .ref a0)], []))) rfl ?_
  refine go_le (lv1 := [(0, .ref a0), (1, .int (0 : Int32))]) (aLe_of (show (List.map (fun q => q.1) ([(0, .ref a0), (1, .int (0 : Int32))] : ALv)).Nodup from (by show ([0, 1] : List Nat).Nodup; decide)) (aSubL_cons rfl (aSubL_cons rfl aSubL_nil))) ?_
  exact Tf254_b2 hd N a0 (0 : Int32) I _ h
-- KernelGymModel.copies ([I[I)V
def f255_b2 (kad : Nat → Nat) (N : Nat) (Z : AZ) : Nat → Nat → Nat → Int32 → AI → Option (Unit × AI)
  | 0, _, _, _, _ => none
  | F + 1, a0, a1, i2, I =>
    if (256 : Int32) ≤ i2 then
      some ((), I)
    else
      (lI Z I 100 a0 i2).bind fun x13_1 =>
      (sI Z I 100 a1 i2 x13_1).bind fun I14_2 =>
      f255_b2 kad N Z F a0 a1 (i2 + (1 : Int32)) I14_2
set_option maxRecDepth 20000 in
theorem Tf255_b2 {kad : Nat → Nat} {N : Nat} {Z : AZ} {d : Nat} {t : Option Nat × (Nat × Nat)} (hd : 0 ≤ d) : ∀ (F : Nat) (a0 : Nat) (a1 : Nat) (i2 : Int32) (I : AI) (r : Unit × AI), f255_b2 kad N Z F a0 a1 i2 I = some r → aGo kad d 255 (2, ([(0, .ref a0), (1, .ref a1), (2, .int i2)], [])) (aMem Z I, t) (qV Z t r) := by
  intro F
  induction F with
  | zero => intro a0 a1 i2 I r h; cases h
  | succ F ih =>
    intro a0 a1 i2 I r h
    unfold f255_b2 at h
    refine go_ops aMi255 2 _ (f1 := (6, ([(0, .ref a0), (1, .ref a1), (2, .int i2)], [.int (256 : Int32), .int i2]))) rfl ?_
    refine gg_br (b := decide ((256 : Int32) ≤ i2)) (tg := 21) (off := 15) aMi255 rfl rfl rfl rfl (fun hb => ?_) (fun hb => ?_)
    · rw [if_pos (of_decide_eq_true hb)] at h
      cases h
      exact go_ret aMi255 rfl rfl ⟨rfl, rfl⟩
    · rw [if_neg (of_decide_eq_false hb)] at h
      refine go_ops aMi255 4 _ (f1 := (13, ([(0, .ref a0), (1, .ref a1), (2, .int i2)], [.int i2, .ref a0, .int i2, .ref a1]))) rfl ?_
      obtain ⟨x13_1, hxx13_1, h⟩ := Option.bind_eq_some_iff.mp h
      refine gg_lI (Or.inl ⟨rfl, rfl⟩) aMi255 rfl hxx13_1 ?_
      obtain ⟨I14_2, hxI14_2, h⟩ := Option.bind_eq_some_iff.mp h
      refine gg_sI (Or.inl ⟨rfl, rfl⟩) aMi255 rfl hxI14_2 ?_
      refine go_ops aMi255 2 _ (f1 := (2, ([(2, .int (i2 + (1 : Int32))), (0, .ref a0), (1, .ref a1)], []))) rfl ?_
      refine go_le (lv1 := [(0, .ref a0), (1, .ref a1), (2, .int (i2 + (1 : Int32)))]) (aLe_of (show (List.map (fun q => q.1) ([(0, .ref a0), (1, .ref a1), (2, .int (i2 + (1 : Int32)))] : ALv)).Nodup from (by show ([0, 1, 2] : List Nat).Nodup; decide)) (aSubL_cons rfl (aSubL_cons rfl (aSubL_cons rfl aSubL_nil)))) ?_
      exact ih a0 a1 (i2 + (1 : Int32)) I14_2 _ h
def f255 (kad : Nat → Nat) (N : Nat) (Z : AZ) (a0 : Nat) (a1 : Nat) (I : AI) : Option (Unit × AI) :=
  f255_b2 kad N Z N a0 a1 (0 : Int32) I
set_option maxRecDepth 20000 in
theorem Tf255 {kad : Nat → Nat} {N : Nat} {Z : AZ} {d : Nat} {t : Option Nat × (Nat × Nat)} (hd : 0 ≤ d) : ∀ (a0 : Nat) (a1 : Nat) (I : AI) (r : Unit × AI), f255 kad N Z a0 a1 I = some r → aGo kad d 255 (0, ([(0, .ref a0), (1, .ref a1)], [])) (aMem Z I, t) (qV Z t r) := by
  intro a0 a1 I r h
  unfold f255 at h
  refine go_ops aMi255 2 _ (f1 := (2, ([(2, .int (0 : Int32)), (0, .ref a0), (1, .ref a1)], []))) rfl ?_
  refine go_le (lv1 := [(0, .ref a0), (1, .ref a1), (2, .int (0 : Int32))]) (aLe_of (show (List.map (fun q => q.1) ([(0, .ref a0), (1, .ref a1), (2, .int (0 : Int32))] : ALv)).Nodup from (by show ([0, 1, 2] : List Nat).Nodup; decide)) (aSubL_cons rfl (aSubL_cons rfl (aSubL_cons rfl aSubL_nil)))) ?_
  exact Tf255_b2 hd N a0 a1 (0 : Int32) I _ h
-- KernelGymModel.makesAnew (I)V
def f256_b33 (kad : Nat → Nat) (N : Nat) (Z : AZ) : Nat → Nat → Int32 → Int32 → AI → Option (Unit × AI)
  | 0, _, _, _, _ => none
  | F + 1, a0, i1, i2, I =>
    if i1 ≤ i2 then
      some ((), I)
    else
      (isK Z a0 11).bind fun u39_1 =>
      (f234 kad N Z a0 I).bind fun r39_2 =>
      f256_b33 kad N Z F a0 i1 (i2 + (1 : Int32)) r39_2.2
set_option maxRecDepth 20000 in
theorem Tf256_b33 {kad : Nat → Nat} {N : Nat} {Z : AZ} {d : Nat} {t : Option Nat × (Nat × Nat)} (hd : 7 ≤ d) : ∀ (F : Nat) (a0 : Nat) (i1 : Int32) (i2 : Int32) (I : AI) (r : Unit × AI), f256_b33 kad N Z F a0 i1 i2 I = some r → aGo kad d 256 (33, ([(0, .ref a0), (1, .int i1), (2, .int i2)], [])) (aMem Z I, t) (qV Z t r) := by
  intro F
  induction F with
  | zero => intro a0 i1 i2 I r h; cases h
  | succ F ih =>
    intro a0 i1 i2 I r h
    unfold f256_b33 at h
    refine go_ops aMi256 2 _ (f1 := (35, ([(0, .ref a0), (1, .int i1), (2, .int i2)], [.int i1, .int i2]))) rfl ?_
    refine gg_br (b := decide (i1 ≤ i2)) (tg := 48) (off := 13) aMi256 rfl rfl rfl rfl (fun hb => ?_) (fun hb => ?_)
    · rw [if_pos (of_decide_eq_true hb)] at h
      cases h
      exact go_ret aMi256 rfl rfl ⟨rfl, rfl⟩
    · rw [if_neg (of_decide_eq_false hb)] at h
      refine go_ops aMi256 1 _ (f1 := (39, ([(0, .ref a0), (1, .int i1), (2, .int i2)], [.ref a0]))) rfl ?_
      obtain ⟨u39_1, hxu39_1, h⟩ := Option.bind_eq_some_iff.mp h
      obtain ⟨r39_2, hxr39_2, h⟩ := Option.bind_eq_some_iff.mp h
      refine gg_cv (as := []) (r := []) aMi256 rfl rfl rfl aMi234 (Nat.le_of_ble_eq_true rfl) rfl (Nat.le_of_ble_eq_true rfl) (Nat.le_of_ble_eq_true rfl) (by omega) hxu39_1 (Tf234 (by omega) a0 I _ hxr39_2) ?_
      show aGo kad d 256 (42, ([(0, .ref a0), (1, .int i1), (2, .int i2)], [])) (aMem Z r39_2.2, t) _
      refine go_ops aMi256 2 _ (f1 := (33, ([(2, .int (i2 + (1 : Int32))), (0, .ref a0), (1, .int i1)], []))) rfl ?_
      refine go_le (lv1 := [(0, .ref a0), (1, .int i1), (2, .int (i2 + (1 : Int32)))]) (aLe_of (show (List.map (fun q => q.1) ([(0, .ref a0), (1, .int i1), (2, .int (i2 + (1 : Int32)))] : ALv)).Nodup from (by show ([0, 1, 2] : List Nat).Nodup; decide)) (aSubL_cons rfl (aSubL_cons rfl (aSubL_cons rfl aSubL_nil)))) ?_
      exact ih a0 i1 (i2 + (1 : Int32)) r39_2.2 _ h
def f256 (kad : Nat → Nat) (N : Nat) (Z : AZ) (a0 : Nat) (i1 : Int32) (I : AI) : Option (Unit × AI) :=
  (gR Z I 11 54 a0).bind fun b1_1 =>
  (gR Z I 11 50 a0).bind fun b5_2 =>
  (f255 kad N Z b1_1 b5_2 I).bind fun r8_3 =>
  (gI Z r8_3.2 11 55 a0).bind fun x13_4 =>
  (pI Z r8_3.2 11 52 a0 x13_4).bind fun I16_5 =>
  (gR Z I16_5 11 53 a0).bind fun b21_6 =>
  (isK Z a0 11).bind fun u24_7 =>
  (f222 kad N Z a0 b21_6 I16_5).bind fun r24_8 =>
  (isK Z a0 11).bind fun u28_9 =>
  (f224 kad N Z a0 r24_8.2).bind fun r28_10 =>
  f256_b33 kad N Z N a0 i1 (0 : Int32) r28_10.2
set_option maxRecDepth 20000 in
theorem Tf256 {kad : Nat → Nat} {N : Nat} {Z : AZ} {d : Nat} {t : Option Nat × (Nat × Nat)} (hd : 7 ≤ d) : ∀ (a0 : Nat) (i1 : Int32) (I : AI) (r : Unit × AI), f256 kad N Z a0 i1 I = some r → aGo kad d 256 (0, ([(0, .ref a0), (1, .int i1)], [])) (aMem Z I, t) (qV Z t r) := by
  intro a0 i1 I r h
  unfold f256 at h
  refine go_ops aMi256 1 _ (f1 := (1, ([(0, .ref a0), (1, .int i1)], [.ref a0]))) rfl ?_
  obtain ⟨b1_1, hxb1_1, h⟩ := Option.bind_eq_some_iff.mp h
  refine gg_gR aMi256 rfl rfl rfl hxb1_1 ?_
  refine go_ops aMi256 1 _ (f1 := (5, ([(0, .ref a0), (1, .int i1)], [.ref a0, .ref b1_1]))) rfl ?_
  obtain ⟨b5_2, hxb5_2, h⟩ := Option.bind_eq_some_iff.mp h
  refine gg_gR aMi256 rfl rfl rfl hxb5_2 ?_
  obtain ⟨r8_3, hxr8_3, h⟩ := Option.bind_eq_some_iff.mp h
  refine gg_cs (as := [.ref b1_1, .ref b5_2]) (r := []) aMi256 rfl rfl rfl aMi255 rfl (Nat.le_of_ble_eq_true rfl) (Nat.le_of_ble_eq_true rfl) (by omega) (Tf255 (by omega) b1_1 b5_2 I _ hxr8_3) ?_
  show aGo kad d 256 (11, ([(0, .ref a0), (1, .int i1)], [])) (aMem Z r8_3.2, t) _
  refine go_ops aMi256 2 _ (f1 := (13, ([(0, .ref a0), (1, .int i1)], [.ref a0, .ref a0]))) rfl ?_
  obtain ⟨x13_4, hxx13_4, h⟩ := Option.bind_eq_some_iff.mp h
  refine gg_gI aMi256 rfl rfl rfl hxx13_4 ?_
  obtain ⟨I16_5, hxI16_5, h⟩ := Option.bind_eq_some_iff.mp h
  refine gg_pI aMi256 rfl rfl rfl rfl (by decide) hxI16_5 ?_
  refine go_ops aMi256 2 _ (f1 := (21, ([(0, .ref a0), (1, .int i1)], [.ref a0, .ref a0]))) rfl ?_
  obtain ⟨b21_6, hxb21_6, h⟩ := Option.bind_eq_some_iff.mp h
  refine gg_gR aMi256 rfl rfl rfl hxb21_6 ?_
  obtain ⟨u24_7, hxu24_7, h⟩ := Option.bind_eq_some_iff.mp h
  obtain ⟨r24_8, hxr24_8, h⟩ := Option.bind_eq_some_iff.mp h
  refine gg_cv (as := [.ref b21_6]) (r := []) aMi256 rfl rfl rfl aMi222 (Nat.le_of_ble_eq_true rfl) rfl (Nat.le_of_ble_eq_true rfl) (Nat.le_of_ble_eq_true rfl) (by omega) hxu24_7 (Tf222 (by omega) a0 b21_6 I16_5 _ hxr24_8) ?_
  show aGo kad d 256 (27, ([(0, .ref a0), (1, .int i1)], [])) (aMem Z r24_8.2, t) _
  refine go_ops aMi256 1 _ (f1 := (28, ([(0, .ref a0), (1, .int i1)], [.ref a0]))) rfl ?_
  obtain ⟨u28_9, hxu28_9, h⟩ := Option.bind_eq_some_iff.mp h
  obtain ⟨r28_10, hxr28_10, h⟩ := Option.bind_eq_some_iff.mp h
  refine gg_cv (as := []) (r := []) aMi256 rfl rfl rfl aMi224 (Nat.le_of_ble_eq_true rfl) rfl (Nat.le_of_ble_eq_true rfl) (Nat.le_of_ble_eq_true rfl) (by omega) hxu28_9 (Tf224 (by omega) a0 r24_8.2 _ hxr28_10) ?_
  show aGo kad d 256 (31, ([(0, .ref a0), (1, .int i1)], [])) (aMem Z r28_10.2, t) _
  refine go_ops aMi256 2 _ (f1 := (33, ([(2, .int (0 : Int32)), (0, .ref a0), (1, .int i1)], []))) rfl ?_
  refine go_le (lv1 := [(0, .ref a0), (1, .int i1), (2, .int (0 : Int32))]) (aLe_of (show (List.map (fun q => q.1) ([(0, .ref a0), (1, .int i1), (2, .int (0 : Int32))] : ALv)).Nodup from (by show ([0, 1, 2] : List Nat).Nodup; decide)) (aSubL_cons rfl (aSubL_cons rfl (aSubL_cons rfl aSubL_nil)))) ?_
  exact Tf256_b33 hd N a0 i1 (0 : Int32) r28_10.2 _ h
-- KernelGymModel.start ()I
def f257_b20 (kad : Nat → Nat) (N : Nat) (Z : AZ) (a0 : Nat) (s0 : Int32) (s1 : Nat) (I : AI) : Option (Int32 × AI) :=
  (isK Z s1 11).bind fun u20_1 =>
  (f185 kad N Z s1 s0 I).bind fun r20_2 =>
  if ¬ r20_2.1 = 0 then
    (isK Z a0 11).bind fun u29_3 =>
    (f253 kad N Z a0 r20_2.2).bind fun r29_4 =>
    (gR Z r29_4.2 11 50 a0).bind fun b34_5 =>
    (gR Z r29_4.2 11 54 a0).bind fun b38_6 =>
    (f255 kad N Z b34_5 b38_6 r29_4.2).bind fun r41_7 =>
    (gR Z r41_7.2 11 21 a0).bind fun b45_8 =>
    (gR Z r41_7.2 11 53 a0).bind fun b49_9 =>
    (f255 kad N Z b45_8 b49_9 r41_7.2).bind fun r52_10 =>
    (gI Z r52_10.2 11 52 a0).bind fun x57_11 =>
    (pI Z r52_10.2 11 55 a0 x57_11).bind fun I60_12 =>
    (pI Z I60_12 11 43 a0 (0 : Int32)).bind fun I65_13 =>
    (pI Z I65_13 11 40 a0 (0 : Int32)).bind fun I70_14 =>
    (gR Z I70_14 11 53 a0).bind fun b75_15 =>
    (isK Z a0 11).bind fun u78_16 =>
    (f222 kad N Z a0 b75_15 I70_14).bind fun r78_17 =>
    some (r29_4.1, r78_17.2)
  else
    some ((0 : Int32), r20_2.2)
set_option maxRecDepth 20000 in
theorem Tf257_b20 {kad : Nat → Nat} {N : Nat} {Z : AZ} {d : Nat} {t : Option Nat × (Nat × Nat)} (hd : 2 ≤ d) : ∀ (a0 : Nat) (s0 : Int32) (s1 : Nat) (I : AI) (r : Int32 × AI), f257_b20 kad N Z a0 s0 s1 I = some r → aGo kad d 257 (20, ([(0, .ref a0)], [.int s0, .ref s1])) (aMem Z I, t) (qI Z t r) := by
  intro a0 s0 s1 I r h
  unfold f257_b20 at h
  obtain ⟨u20_1, hxu20_1, h⟩ := Option.bind_eq_some_iff.mp h
  obtain ⟨r20_2, hxr20_2, h⟩ := Option.bind_eq_some_iff.mp h
  refine gg_cv (as := [.int s0]) (r := []) aMi257 rfl rfl rfl aMi185 (Nat.le_of_ble_eq_true rfl) rfl (Nat.le_of_ble_eq_true rfl) (Nat.le_of_ble_eq_true rfl) (by omega) hxu20_1 (Tf185 (by omega) s1 s0 I _ hxr20_2) ?_
  show aGo kad d 257 (23, ([(0, .ref a0)], [.int r20_2.1])) (aMem Z r20_2.2, t) _
  refine gg_br (b := decide (¬ r20_2.1 = 0)) (tg := 28) (off := 5) aMi257 rfl rfl rfl rfl (fun hb => ?_) (fun hb => ?_)
  · rw [if_pos (of_decide_eq_true hb)] at h
    refine go_ops aMi257 1 _ (f1 := (29, ([(0, .ref a0)], [.ref a0]))) rfl ?_
    obtain ⟨u29_3, hxu29_3, h⟩ := Option.bind_eq_some_iff.mp h
    obtain ⟨r29_4, hxr29_4, h⟩ := Option.bind_eq_some_iff.mp h
    refine gg_cv (as := []) (r := []) aMi257 rfl rfl rfl aMi253 (Nat.le_of_ble_eq_true rfl) rfl (Nat.le_of_ble_eq_true rfl) (Nat.le_of_ble_eq_true rfl) (by omega) hxu29_3 (Tf253 (by omega) a0 r20_2.2 _ hxr29_4) ?_
    show aGo kad d 257 (32, ([(0, .ref a0)], [.int r29_4.1])) (aMem Z r29_4.2, t) _
    refine go_ops aMi257 2 _ (f1 := (34, ([(1, .int r29_4.1), (0, .ref a0)], [.ref a0]))) rfl ?_
    obtain ⟨b34_5, hxb34_5, h⟩ := Option.bind_eq_some_iff.mp h
    refine gg_gR aMi257 rfl rfl rfl hxb34_5 ?_
    refine go_ops aMi257 1 _ (f1 := (38, ([(1, .int r29_4.1), (0, .ref a0)], [.ref a0, .ref b34_5]))) rfl ?_
    obtain ⟨b38_6, hxb38_6, h⟩ := Option.bind_eq_some_iff.mp h
    refine gg_gR aMi257 rfl rfl rfl hxb38_6 ?_
    obtain ⟨r41_7, hxr41_7, h⟩ := Option.bind_eq_some_iff.mp h
    refine gg_cs (as := [.ref b34_5, .ref b38_6]) (r := []) aMi257 rfl rfl rfl aMi255 rfl (Nat.le_of_ble_eq_true rfl) (Nat.le_of_ble_eq_true rfl) (by omega) (Tf255 (by omega) b34_5 b38_6 r29_4.2 _ hxr41_7) ?_
    show aGo kad d 257 (44, ([(1, .int r29_4.1), (0, .ref a0)], [])) (aMem Z r41_7.2, t) _
    refine go_ops aMi257 1 _ (f1 := (45, ([(1, .int r29_4.1), (0, .ref a0)], [.ref a0]))) rfl ?_
    obtain ⟨b45_8, hxb45_8, h⟩ := Option.bind_eq_some_iff.mp h
    refine gg_gR aMi257 rfl rfl rfl hxb45_8 ?_
    refine go_ops aMi257 1 _ (f1 := (49, ([(1, .int r29_4.1), (0, .ref a0)], [.ref a0, .ref b45_8]))) rfl ?_
    obtain ⟨b49_9, hxb49_9, h⟩ := Option.bind_eq_some_iff.mp h
    refine gg_gR aMi257 rfl rfl rfl hxb49_9 ?_
    obtain ⟨r52_10, hxr52_10, h⟩ := Option.bind_eq_some_iff.mp h
    refine gg_cs (as := [.ref b45_8, .ref b49_9]) (r := []) aMi257 rfl rfl rfl aMi255 rfl (Nat.le_of_ble_eq_true rfl) (Nat.le_of_ble_eq_true rfl) (by omega) (Tf255 (by omega) b45_8 b49_9 r41_7.2 _ hxr52_10) ?_
    show aGo kad d 257 (55, ([(1, .int r29_4.1), (0, .ref a0)], [])) (aMem Z r52_10.2, t) _
    refine go_ops aMi257 2 _ (f1 := (57, ([(1, .int r29_4.1), (0, .ref a0)], [.ref a0, .ref a0]))) rfl ?_
    obtain ⟨x57_11, hxx57_11, h⟩ := Option.bind_eq_some_iff.mp h
    refine gg_gI aMi257 rfl rfl rfl hxx57_11 ?_
    obtain ⟨I60_12, hxI60_12, h⟩ := Option.bind_eq_some_iff.mp h
    refine gg_pI aMi257 rfl rfl rfl rfl (by decide) hxI60_12 ?_
    refine go_ops aMi257 2 _ (f1 := (65, ([(1, .int r29_4.1), (0, .ref a0)], [.int (0 : Int32), .ref a0]))) rfl ?_
    obtain ⟨I65_13, hxI65_13, h⟩ := Option.bind_eq_some_iff.mp h
    refine gg_pI aMi257 rfl rfl rfl rfl (by decide) hxI65_13 ?_
    refine go_ops aMi257 2 _ (f1 := (70, ([(1, .int r29_4.1), (0, .ref a0)], [.int (0 : Int32), .ref a0]))) rfl ?_
    obtain ⟨I70_14, hxI70_14, h⟩ := Option.bind_eq_some_iff.mp h
    refine gg_pI aMi257 rfl rfl rfl rfl (by decide) hxI70_14 ?_
    refine go_ops aMi257 2 _ (f1 := (75, ([(1, .int r29_4.1), (0, .ref a0)], [.ref a0, .ref a0]))) rfl ?_
    obtain ⟨b75_15, hxb75_15, h⟩ := Option.bind_eq_some_iff.mp h
    refine gg_gR aMi257 rfl rfl rfl hxb75_15 ?_
    obtain ⟨u78_16, hxu78_16, h⟩ := Option.bind_eq_some_iff.mp h
    obtain ⟨r78_17, hxr78_17, h⟩ := Option.bind_eq_some_iff.mp h
    refine gg_cv (as := [.ref b75_15]) (r := []) aMi257 rfl rfl rfl aMi222 (Nat.le_of_ble_eq_true rfl) rfl (Nat.le_of_ble_eq_true rfl) (Nat.le_of_ble_eq_true rfl) (by omega) hxu78_16 (Tf222 (by omega) a0 b75_15 I70_14 _ hxr78_17) ?_
    show aGo kad d 257 (81, ([(1, .int r29_4.1), (0, .ref a0)], [])) (aMem Z r78_17.2, t) _
    refine go_ops aMi257 1 _ (f1 := (82, ([(1, .int r29_4.1), (0, .ref a0)], [.int r29_4.1]))) rfl ?_
    cases h
    exact go_ret aMi257 rfl aRetI ⟨rfl, rfl⟩
  · rw [if_neg (of_decide_eq_false hb)] at h
    refine go_ops aMi257 1 _ (f1 := (27, ([(0, .ref a0)], [.int (0 : Int32)]))) rfl ?_
    cases h
    exact go_ret aMi257 rfl aRetI ⟨rfl, rfl⟩
def f257_b15 (kad : Nat → Nat) (N : Nat) (Z : AZ) (a0 : Nat) (s0 : Nat) (I : AI) : Option (Int32 × AI) :=
  f257_b20 kad N Z a0 (1 : Int32) s0 I
set_option maxRecDepth 20000 in
theorem Tf257_b15 {kad : Nat → Nat} {N : Nat} {Z : AZ} {d : Nat} {t : Option Nat × (Nat × Nat)} (hd : 2 ≤ d) : ∀ (a0 : Nat) (s0 : Nat) (I : AI) (r : Int32 × AI), f257_b15 kad N Z a0 s0 I = some r → aGo kad d 257 (15, ([(0, .ref a0)], [.ref s0])) (aMem Z I, t) (qI Z t r) := by
  intro a0 s0 I r h
  unfold f257_b15 at h
  refine go_ops aMi257 2 _ (f1 := (20, ([(0, .ref a0)], [.int (1 : Int32), .ref s0]))) rfl ?_
  exact Tf257_b20 hd a0 (1 : Int32) s0 I _ h
def f257 (kad : Nat → Nat) (N : Nat) (Z : AZ) (a0 : Nat) (I : AI) : Option (Int32 × AI) :=
  (isK Z a0 11).bind fun u2_1 =>
  (f216 kad N Z a0 I).bind fun r2_2 =>
  if ¬ r2_2.1 = 0 then
    f257_b15 kad N Z a0 a0 r2_2.2
  else
    (gI Z r2_2.2 11 22 a0).bind fun x9_3 =>
    if ¬ x9_3 = 0 then
      f257_b20 kad N Z a0 (0 : Int32) a0 r2_2.2
    else
      f257_b15 kad N Z a0 a0 r2_2.2
set_option maxRecDepth 20000 in
theorem Tf257 {kad : Nat → Nat} {N : Nat} {Z : AZ} {d : Nat} {t : Option Nat × (Nat × Nat)} (hd : 2 ≤ d) : ∀ (a0 : Nat) (I : AI) (r : Int32 × AI), f257 kad N Z a0 I = some r → aGo kad d 257 (0, ([(0, .ref a0)], [])) (aMem Z I, t) (qI Z t r) := by
  intro a0 I r h
  unfold f257 at h
  refine go_ops aMi257 2 _ (f1 := (2, ([(0, .ref a0)], [.ref a0, .ref a0]))) rfl ?_
  obtain ⟨u2_1, hxu2_1, h⟩ := Option.bind_eq_some_iff.mp h
  obtain ⟨r2_2, hxr2_2, h⟩ := Option.bind_eq_some_iff.mp h
  refine gg_cv (as := []) (r := [.ref a0]) aMi257 rfl rfl rfl aMi216 (Nat.le_of_ble_eq_true rfl) rfl (Nat.le_of_ble_eq_true rfl) (Nat.le_of_ble_eq_true rfl) (by omega) hxu2_1 (Tf216 (by omega) a0 I _ hxr2_2) ?_
  show aGo kad d 257 (5, ([(0, .ref a0)], [.int r2_2.1, .ref a0])) (aMem Z r2_2.2, t) _
  refine gg_br (b := decide (¬ r2_2.1 = 0)) (tg := 15) (off := 10) aMi257 rfl rfl rfl rfl (fun hb => ?_) (fun hb => ?_)
  · rw [if_pos (of_decide_eq_true hb)] at h
    exact Tf257_b15 hd a0 a0 r2_2.2 _ h
  · rw [if_neg (of_decide_eq_false hb)] at h
    refine go_ops aMi257 1 _ (f1 := (9, ([(0, .ref a0)], [.ref a0, .ref a0]))) rfl ?_
    obtain ⟨x9_3, hxx9_3, h⟩ := Option.bind_eq_some_iff.mp h
    refine gg_gI aMi257 rfl rfl rfl hxx9_3 ?_
    refine gg_br (b := decide (¬ x9_3 = 0)) (tg := 19) (off := 7) aMi257 rfl rfl rfl rfl (fun hb => ?_) (fun hb => ?_)
    · rw [if_pos (of_decide_eq_true hb)] at h
      refine go_ops aMi257 1 _ (f1 := (20, ([(0, .ref a0)], [.int (0 : Int32), .ref a0]))) rfl ?_
      exact Tf257_b20 hd a0 (0 : Int32) a0 r2_2.2 _ h
    · rw [if_neg (of_decide_eq_false hb)] at h
      exact Tf257_b15 hd a0 a0 r2_2.2 _ h
-- KernelGymModel.crash ()I
def f258_b13 (kad : Nat → Nat) (N : Nat) (Z : AZ) (a0 : Nat) (s0 : Int32) (s1 : Nat) (I : AI) : Option (Int32 × AI) :=
  (isK Z s1 11).bind fun u13_1 =>
  (f185 kad N Z s1 s0 I).bind fun r13_2 =>
  if ¬ r13_2.1 = 0 then
    (gI Z r13_2.2 11 38 a0).bind fun x22_3 =>
    (pI Z r13_2.2 11 40 a0 (0 : Int32)).bind fun I28_4 =>
    (isK Z a0 11).bind fun u32_5 =>
    (f223 kad N Z a0 I28_4).bind fun r32_6 =>
    some (x22_3, r32_6.2)
  else
    some ((0 : Int32), r13_2.2)
set_option maxRecDepth 20000 in
theorem Tf258_b13 {kad : Nat → Nat} {N : Nat} {Z : AZ} {d : Nat} {t : Option Nat × (Nat × Nat)} (hd : 1 ≤ d) : ∀ (a0 : Nat) (s0 : Int32) (s1 : Nat) (I : AI) (r : Int32 × AI), f258_b13 kad N Z a0 s0 s1 I = some r → aGo kad d 258 (13, ([(0, .ref a0)], [.int s0, .ref s1])) (aMem Z I, t) (qI Z t r) := by
  intro a0 s0 s1 I r h
  unfold f258_b13 at h
  obtain ⟨u13_1, hxu13_1, h⟩ := Option.bind_eq_some_iff.mp h
  obtain ⟨r13_2, hxr13_2, h⟩ := Option.bind_eq_some_iff.mp h
  refine gg_cv (as := [.int s0]) (r := []) aMi258 rfl rfl rfl aMi185 (Nat.le_of_ble_eq_true rfl) rfl (Nat.le_of_ble_eq_true rfl) (Nat.le_of_ble_eq_true rfl) (by omega) hxu13_1 (Tf185 (by omega) s1 s0 I _ hxr13_2) ?_
  show aGo kad d 258 (16, ([(0, .ref a0)], [.int r13_2.1])) (aMem Z r13_2.2, t) _
  refine gg_br (b := decide (¬ r13_2.1 = 0)) (tg := 21) (off := 5) aMi258 rfl rfl rfl rfl (fun hb => ?_) (fun hb => ?_)
  · rw [if_pos (of_decide_eq_true hb)] at h
    refine go_ops aMi258 1 _ (f1 := (22, ([(0, .ref a0)], [.ref a0]))) rfl ?_
    obtain ⟨x22_3, hxx22_3, h⟩ := Option.bind_eq_some_iff.mp h
    refine gg_gI aMi258 rfl rfl rfl hxx22_3 ?_
    refine go_ops aMi258 3 _ (f1 := (28, ([(1, .int x22_3), (0, .ref a0)], [.int (0 : Int32), .ref a0]))) rfl ?_
    obtain ⟨I28_4, hxI28_4, h⟩ := Option.bind_eq_some_iff.mp h
    refine gg_pI aMi258 rfl rfl rfl rfl (by decide) hxI28_4 ?_
    refine go_ops aMi258 1 _ (f1 := (32, ([(1, .int x22_3), (0, .ref a0)], [.ref a0]))) rfl ?_
    obtain ⟨u32_5, hxu32_5, h⟩ := Option.bind_eq_some_iff.mp h
    obtain ⟨r32_6, hxr32_6, h⟩ := Option.bind_eq_some_iff.mp h
    refine gg_cv (as := []) (r := []) aMi258 rfl rfl rfl aMi223 (Nat.le_of_ble_eq_true rfl) rfl (Nat.le_of_ble_eq_true rfl) (Nat.le_of_ble_eq_true rfl) (by omega) hxu32_5 (Tf223 (by omega) a0 I28_4 _ hxr32_6) ?_
    show aGo kad d 258 (35, ([(1, .int x22_3), (0, .ref a0)], [])) (aMem Z r32_6.2, t) _
    refine go_ops aMi258 1 _ (f1 := (36, ([(1, .int x22_3), (0, .ref a0)], [.int x22_3]))) rfl ?_
    cases h
    exact go_ret aMi258 rfl aRetI ⟨rfl, rfl⟩
  · rw [if_neg (of_decide_eq_false hb)] at h
    refine go_ops aMi258 1 _ (f1 := (20, ([(0, .ref a0)], [.int (0 : Int32)]))) rfl ?_
    cases h
    exact go_ret aMi258 rfl aRetI ⟨rfl, rfl⟩
def f258 (kad : Nat → Nat) (N : Nat) (Z : AZ) (a0 : Nat) (I : AI) : Option (Int32 × AI) :=
  (isK Z a0 11).bind fun u2_1 =>
  (f216 kad N Z a0 I).bind fun r2_2 =>
  if r2_2.1 = 0 then
    f258_b13 kad N Z a0 (1 : Int32) a0 r2_2.2
  else
    f258_b13 kad N Z a0 (0 : Int32) a0 r2_2.2
set_option maxRecDepth 20000 in
theorem Tf258 {kad : Nat → Nat} {N : Nat} {Z : AZ} {d : Nat} {t : Option Nat × (Nat × Nat)} (hd : 1 ≤ d) : ∀ (a0 : Nat) (I : AI) (r : Int32 × AI), f258 kad N Z a0 I = some r → aGo kad d 258 (0, ([(0, .ref a0)], [])) (aMem Z I, t) (qI Z t r) := by
  intro a0 I r h
  unfold f258 at h
  refine go_ops aMi258 2 _ (f1 := (2, ([(0, .ref a0)], [.ref a0, .ref a0]))) rfl ?_
  obtain ⟨u2_1, hxu2_1, h⟩ := Option.bind_eq_some_iff.mp h
  obtain ⟨r2_2, hxr2_2, h⟩ := Option.bind_eq_some_iff.mp h
  refine gg_cv (as := []) (r := [.ref a0]) aMi258 rfl rfl rfl aMi216 (Nat.le_of_ble_eq_true rfl) rfl (Nat.le_of_ble_eq_true rfl) (Nat.le_of_ble_eq_true rfl) (by omega) hxu2_1 (Tf216 (by omega) a0 I _ hxr2_2) ?_
  show aGo kad d 258 (5, ([(0, .ref a0)], [.int r2_2.1, .ref a0])) (aMem Z r2_2.2, t) _
  refine gg_br (b := decide (r2_2.1 = 0)) (tg := 12) (off := 7) aMi258 rfl rfl rfl rfl (fun hb => ?_) (fun hb => ?_)
  · rw [if_pos (of_decide_eq_true hb)] at h
    refine go_ops aMi258 1 _ (f1 := (13, ([(0, .ref a0)], [.int (1 : Int32), .ref a0]))) rfl ?_
    exact Tf258_b13 hd a0 (1 : Int32) a0 r2_2.2 _ h
  · rw [if_neg (of_decide_eq_false hb)] at h
    refine go_ops aMi258 2 _ (f1 := (13, ([(0, .ref a0)], [.int (0 : Int32), .ref a0]))) rfl ?_
    exact Tf258_b13 hd a0 (0 : Int32) a0 r2_2.2 _ h
-- KernelGymModel.filesOf ()I
def f285_b28 (kad : Nat → Nat) (N : Nat) (Z : AZ) (k4 : Nat → Int32 → Int32 → AI → Option (Int32 × AI)) (a0 : Nat) (i2 : Int32) (s0 : Int32) (s1 : Int32) (I : AI) : Option (Int32 × AI) :=
  k4 a0 (s1 + s0) (i2 + (1 : Int32)) I
set_option maxRecDepth 20000 in
theorem Tf285_b28 {kad : Nat → Nat} {N : Nat} {Z : AZ} {d : Nat} {t : Option Nat × (Nat × Nat)} (hd : 1 ≤ d) (k4 : Nat → Int32 → Int32 → AI → Option (Int32 × AI))  (hk4 : ∀ (a0 : Nat) (i1 : Int32) (i2 : Int32)  (I : AI) (r : Int32 × AI), k4 a0 i1 i2 I = some r → aGo kad d 285 (4, ([(0, .ref a0), (1, .int i1), (2, .int i2)], [])) (aMem Z I, t) (qI Z t r)) : ∀ (a0 : Nat) (i2 : Int32) (s0 : Int32) (s1 : Int32) (I : AI) (r : Int32 × AI), f285_b28 kad N Z k4 a0 i2 s0 s1 I = some r → aGo kad d 285 (28, ([(0, .ref a0), (2, .int i2)], [.int s0, .int s1])) (aMem Z I, t) (qI Z t r) := by
  intro a0 i2 s0 s1 I r h
  unfold f285_b28 at h
  refine go_ops aMi285 4 _ (f1 := (4, ([(2, .int (i2 + (1 : Int32))), (1, .int (s1 + s0)), (0, .ref a0)], []))) rfl ?_
  refine go_le (lv1 := [(0, .ref a0), (1, .int (s1 + s0)), (2, .int (i2 + (1 : Int32)))]) (aLe_of (show (List.map (fun q => q.1) ([(0, .ref a0), (1, .int (s1 + s0)), (2, .int (i2 + (1 : Int32)))] : ALv)).Nodup from (by show ([0, 1, 2] : List Nat).Nodup; decide)) (aSubL_cons rfl (aSubL_cons rfl (aSubL_cons rfl aSubL_nil)))) ?_
  exact hk4 a0 (s1 + s0) (i2 + (1 : Int32)) I _ h
def f285_b4 (kad : Nat → Nat) (N : Nat) (Z : AZ) : Nat → Nat → Int32 → Int32 → AI → Option (Int32 × AI)
  | 0, _, _, _, _ => none
  | F + 1, a0, i1, i2, I =>
    if (6 : Int32) ≤ i2 then
      some (i1, I)
    else
      (gR Z I 11 50 a0).bind fun b12_1 =>
      (f235 kad N Z i2 I).bind fun r16_2 =>
      (lI Z r16_2.2 100 b12_1 r16_2.1).bind fun x19_3 =>
      if ¬ x19_3 = 0 then
        f285_b28 kad N Z (fun p0 p1 p2 I => f285_b4 kad N Z F p0 p1 p2 I) a0 i2 (1 : Int32) i1 r16_2.2
      else
        f285_b28 kad N Z (fun p0 p1 p2 I => f285_b4 kad N Z F p0 p1 p2 I) a0 i2 (0 : Int32) i1 r16_2.2
set_option maxRecDepth 20000 in
theorem Tf285_b4 {kad : Nat → Nat} {N : Nat} {Z : AZ} {d : Nat} {t : Option Nat × (Nat × Nat)} (hd : 1 ≤ d) : ∀ (F : Nat) (a0 : Nat) (i1 : Int32) (i2 : Int32) (I : AI) (r : Int32 × AI), f285_b4 kad N Z F a0 i1 i2 I = some r → aGo kad d 285 (4, ([(0, .ref a0), (1, .int i1), (2, .int i2)], [])) (aMem Z I, t) (qI Z t r) := by
  intro F
  induction F with
  | zero => intro a0 i1 i2 I r h; cases h
  | succ F ih =>
    intro a0 i1 i2 I r h
    unfold f285_b4 at h
    refine go_ops aMi285 2 _ (f1 := (7, ([(0, .ref a0), (1, .int i1), (2, .int i2)], [.int (6 : Int32), .int i2]))) rfl ?_
    refine gg_br (b := decide ((6 : Int32) ≤ i2)) (tg := 36) (off := 29) aMi285 rfl rfl rfl rfl (fun hb => ?_) (fun hb => ?_)
    · rw [if_pos (of_decide_eq_true hb)] at h
      refine go_ops aMi285 1 _ (f1 := (37, ([(0, .ref a0), (1, .int i1), (2, .int i2)], [.int i1]))) rfl ?_
      cases h
      exact go_ret aMi285 rfl aRetI ⟨rfl, rfl⟩
    · rw [if_neg (of_decide_eq_false hb)] at h
      refine go_ops aMi285 2 _ (f1 := (12, ([(0, .ref a0), (1, .int i1), (2, .int i2)], [.ref a0, .int i1]))) rfl ?_
      obtain ⟨b12_1, hxb12_1, h⟩ := Option.bind_eq_some_iff.mp h
      refine gg_gR aMi285 rfl rfl rfl hxb12_1 ?_
      refine go_ops aMi285 1 _ (f1 := (16, ([(0, .ref a0), (1, .int i1), (2, .int i2)], [.int i2, .ref b12_1, .int i1]))) rfl ?_
      obtain ⟨r16_2, hxr16_2, h⟩ := Option.bind_eq_some_iff.mp h
      refine gg_cs (as := [.int i2]) (r := [.ref b12_1, .int i1]) aMi285 rfl rfl rfl aMi235 rfl (Nat.le_of_ble_eq_true rfl) (Nat.le_of_ble_eq_true rfl) (by omega) (Tf235 (by omega) i2 I _ hxr16_2) ?_
      show aGo kad d 285 (19, ([(0, .ref a0), (1, .int i1), (2, .int i2)], [.int r16_2.1, .ref b12_1, .int i1])) (aMem Z r16_2.2, t) _
      obtain ⟨x19_3, hxx19_3, h⟩ := Option.bind_eq_some_iff.mp h
      refine gg_lI (Or.inl ⟨rfl, rfl⟩) aMi285 rfl hxx19_3 ?_
      refine gg_br (b := decide (¬ x19_3 = 0)) (tg := 27) (off := 7) aMi285 rfl rfl rfl rfl (fun hb => ?_) (fun hb => ?_)
      · rw [if_pos (of_decide_eq_true hb)] at h
        refine go_ops aMi285 1 _ (f1 := (28, ([(0, .ref a0), (1, .int i1), (2, .int i2)], [.int (1 : Int32), .int i1]))) rfl ?_
        refine go_le (lv1 := [(0, .ref a0), (2, .int i2)]) (aLe_of (show (List.map (fun q => q.1) ([(0, .ref a0), (2, .int i2)] : ALv)).Nodup from (by show ([0, 2] : List Nat).Nodup; decide)) (aSubL_cons rfl (aSubL_cons rfl aSubL_nil))) ?_
        exact Tf285_b28 hd (fun p0 p1 p2 I => f285_b4 kad N Z F p0 p1 p2 I) (fun p0 p1 p2 I r hh => ih p0 p1 p2 I r hh) a0 i2 (1 : Int32) i1 r16_2.2 _ h
      · rw [if_neg (of_decide_eq_false hb)] at h
        refine go_ops aMi285 2 _ (f1 := (28, ([(0, .ref a0), (1, .int i1), (2, .int i2)], [.int (0 : Int32), .int i1]))) rfl ?_
        refine go_le (lv1 := [(0, .ref a0), (2, .int i2)]) (aLe_of (show (List.map (fun q => q.1) ([(0, .ref a0), (2, .int i2)] : ALv)).Nodup from (by show ([0, 2] : List Nat).Nodup; decide)) (aSubL_cons rfl (aSubL_cons rfl aSubL_nil))) ?_
        exact Tf285_b28 hd (fun p0 p1 p2 I => f285_b4 kad N Z F p0 p1 p2 I) (fun p0 p1 p2 I r hh => ih p0 p1 p2 I r hh) a0 i2 (0 : Int32) i1 r16_2.2 _ h
def f285 (kad : Nat → Nat) (N : Nat) (Z : AZ) (a0 : Nat) (I : AI) : Option (Int32 × AI) :=
  f285_b4 kad N Z N a0 (0 : Int32) (0 : Int32) I
set_option maxRecDepth 20000 in
theorem Tf285 {kad : Nat → Nat} {N : Nat} {Z : AZ} {d : Nat} {t : Option Nat × (Nat × Nat)} (hd : 1 ≤ d) : ∀ (a0 : Nat) (I : AI) (r : Int32 × AI), f285 kad N Z a0 I = some r → aGo kad d 285 (0, ([(0, .ref a0)], [])) (aMem Z I, t) (qI Z t r) := by
  intro a0 I r h
  unfold f285 at h
  refine go_ops aMi285 4 _ (f1 := (4, ([(2, .int (0 : Int32)), (1, .int (0 : Int32)), (0, .ref a0)], []))) rfl ?_
  refine go_le (lv1 := [(0, .ref a0), (1, .int (0 : Int32)), (2, .int (0 : Int32))]) (aLe_of (show (List.map (fun q => q.1) ([(0, .ref a0), (1, .int (0 : Int32)), (2, .int (0 : Int32))] : ALv)).Nodup from (by show ([0, 1, 2] : List Nat).Nodup; decide)) (aSubL_cons rfl (aSubL_cons rfl (aSubL_cons rfl aSubL_nil)))) ?_
  exact Tf285_b4 hd N a0 (0 : Int32) (0 : Int32) I _ h
-- KernelGymModel.format ()I
def f259_b13 (kad : Nat → Nat) (N : Nat) (Z : AZ) (a0 : Nat) (s0 : Int32) (s1 : Nat) (I : AI) : Option (Int32 × AI) :=
  (isK Z s1 11).bind fun u13_1 =>
  (f185 kad N Z s1 s0 I).bind fun r13_2 =>
  if ¬ r13_2.1 = 0 then
    (isK Z a0 11).bind fun u22_3 =>
    (f285 kad N Z a0 r13_2.2).bind fun r22_4 =>
    (isK Z a0 11).bind fun u27_5 =>
    (f254 kad N Z a0 r22_4.2).bind fun r27_6 =>
    some (r22_4.1, r27_6.2)
  else
    some ((0 : Int32), r13_2.2)
set_option maxRecDepth 20000 in
theorem Tf259_b13 {kad : Nat → Nat} {N : Nat} {Z : AZ} {d : Nat} {t : Option Nat × (Nat × Nat)} (hd : 2 ≤ d) : ∀ (a0 : Nat) (s0 : Int32) (s1 : Nat) (I : AI) (r : Int32 × AI), f259_b13 kad N Z a0 s0 s1 I = some r → aGo kad d 259 (13, ([(0, .ref a0)], [.int s0, .ref s1])) (aMem Z I, t) (qI Z t r) := by
  intro a0 s0 s1 I r h
  unfold f259_b13 at h
  obtain ⟨u13_1, hxu13_1, h⟩ := Option.bind_eq_some_iff.mp h
  obtain ⟨r13_2, hxr13_2, h⟩ := Option.bind_eq_some_iff.mp h
  refine gg_cv (as := [.int s0]) (r := []) aMi259 rfl rfl rfl aMi185 (Nat.le_of_ble_eq_true rfl) rfl (Nat.le_of_ble_eq_true rfl) (Nat.le_of_ble_eq_true rfl) (by omega) hxu13_1 (Tf185 (by omega) s1 s0 I _ hxr13_2) ?_
  show aGo kad d 259 (16, ([(0, .ref a0)], [.int r13_2.1])) (aMem Z r13_2.2, t) _
  refine gg_br (b := decide (¬ r13_2.1 = 0)) (tg := 21) (off := 5) aMi259 rfl rfl rfl rfl (fun hb => ?_) (fun hb => ?_)
  · rw [if_pos (of_decide_eq_true hb)] at h
    refine go_ops aMi259 1 _ (f1 := (22, ([(0, .ref a0)], [.ref a0]))) rfl ?_
    obtain ⟨u22_3, hxu22_3, h⟩ := Option.bind_eq_some_iff.mp h
    obtain ⟨r22_4, hxr22_4, h⟩ := Option.bind_eq_some_iff.mp h
    refine gg_cv (as := []) (r := []) aMi259 rfl rfl rfl aMi285 (Nat.le_of_ble_eq_true rfl) rfl (Nat.le_of_ble_eq_true rfl) (Nat.le_of_ble_eq_true rfl) (by omega) hxu22_3 (Tf285 (by omega) a0 r13_2.2 _ hxr22_4) ?_
    show aGo kad d 259 (25, ([(0, .ref a0)], [.int r22_4.1])) (aMem Z r22_4.2, t) _
    refine go_ops aMi259 2 _ (f1 := (27, ([(1, .int r22_4.1), (0, .ref a0)], [.ref a0]))) rfl ?_
    obtain ⟨u27_5, hxu27_5, h⟩ := Option.bind_eq_some_iff.mp h
    obtain ⟨r27_6, hxr27_6, h⟩ := Option.bind_eq_some_iff.mp h
    refine gg_cv (as := []) (r := []) aMi259 rfl rfl rfl aMi254 (Nat.le_of_ble_eq_true rfl) rfl (Nat.le_of_ble_eq_true rfl) (Nat.le_of_ble_eq_true rfl) (by omega) hxu27_5 (Tf254 (by omega) a0 r22_4.2 _ hxr27_6) ?_
    show aGo kad d 259 (30, ([(1, .int r22_4.1), (0, .ref a0)], [])) (aMem Z r27_6.2, t) _
    refine go_ops aMi259 1 _ (f1 := (31, ([(1, .int r22_4.1), (0, .ref a0)], [.int r22_4.1]))) rfl ?_
    cases h
    exact go_ret aMi259 rfl aRetI ⟨rfl, rfl⟩
  · rw [if_neg (of_decide_eq_false hb)] at h
    refine go_ops aMi259 1 _ (f1 := (20, ([(0, .ref a0)], [.int (0 : Int32)]))) rfl ?_
    cases h
    exact go_ret aMi259 rfl aRetI ⟨rfl, rfl⟩
def f259 (kad : Nat → Nat) (N : Nat) (Z : AZ) (a0 : Nat) (I : AI) : Option (Int32 × AI) :=
  (isK Z a0 11).bind fun u2_1 =>
  (f216 kad N Z a0 I).bind fun r2_2 =>
  if r2_2.1 = 0 then
    f259_b13 kad N Z a0 (0 : Int32) a0 r2_2.2
  else
    f259_b13 kad N Z a0 (1 : Int32) a0 r2_2.2
set_option maxRecDepth 20000 in
theorem Tf259 {kad : Nat → Nat} {N : Nat} {Z : AZ} {d : Nat} {t : Option Nat × (Nat × Nat)} (hd : 2 ≤ d) : ∀ (a0 : Nat) (I : AI) (r : Int32 × AI), f259 kad N Z a0 I = some r → aGo kad d 259 (0, ([(0, .ref a0)], [])) (aMem Z I, t) (qI Z t r) := by
  intro a0 I r h
  unfold f259 at h
  refine go_ops aMi259 2 _ (f1 := (2, ([(0, .ref a0)], [.ref a0, .ref a0]))) rfl ?_
  obtain ⟨u2_1, hxu2_1, h⟩ := Option.bind_eq_some_iff.mp h
  obtain ⟨r2_2, hxr2_2, h⟩ := Option.bind_eq_some_iff.mp h
  refine gg_cv (as := []) (r := [.ref a0]) aMi259 rfl rfl rfl aMi216 (Nat.le_of_ble_eq_true rfl) rfl (Nat.le_of_ble_eq_true rfl) (Nat.le_of_ble_eq_true rfl) (by omega) hxu2_1 (Tf216 (by omega) a0 I _ hxr2_2) ?_
  show aGo kad d 259 (5, ([(0, .ref a0)], [.int r2_2.1, .ref a0])) (aMem Z r2_2.2, t) _
  refine gg_br (b := decide (r2_2.1 = 0)) (tg := 12) (off := 7) aMi259 rfl rfl rfl rfl (fun hb => ?_) (fun hb => ?_)
  · rw [if_pos (of_decide_eq_true hb)] at h
    refine go_ops aMi259 1 _ (f1 := (13, ([(0, .ref a0)], [.int (0 : Int32), .ref a0]))) rfl ?_
    exact Tf259_b13 hd a0 (0 : Int32) a0 r2_2.2 _ h
  · rw [if_neg (of_decide_eq_false hb)] at h
    refine go_ops aMi259 2 _ (f1 := (13, ([(0, .ref a0)], [.int (1 : Int32), .ref a0]))) rfl ?_
    exact Tf259_b13 hd a0 (1 : Int32) a0 r2_2.2 _ h
-- KernelGymModel.canStep ()Z
def f260_b23 (kad : Nat → Nat) (N : Nat) (Z : AZ) (s0 : Int32) (I : AI) : Option (Int32 × AI) :=
  if s0 = 0 ∨ s0 = 1 then some (s0, I) else none
set_option maxRecDepth 20000 in
theorem Tf260_b23 {kad : Nat → Nat} {N : Nat} {Z : AZ} {d : Nat} {t : Option Nat × (Nat × Nat)} (hd : 0 ≤ d) : ∀ (s0 : Int32) (I : AI) (r : Int32 × AI), f260_b23 kad N Z s0 I = some r → aGo kad d 260 (23, ([], [.int s0])) (aMem Z I, t) (qI Z t r) := by
  intro s0 I r h
  unfold f260_b23 at h
  split at h
  · rename_i hz
    cases h
    exact go_ret aMi260 rfl (aRetZ hz) ⟨rfl, rfl⟩
  · cases h
def f260_b22 (kad : Nat → Nat) (N : Nat) (Z : AZ)  (I : AI) : Option (Int32 × AI) :=
  f260_b23 kad N Z (0 : Int32) I
set_option maxRecDepth 20000 in
theorem Tf260_b22 {kad : Nat → Nat} {N : Nat} {Z : AZ} {d : Nat} {t : Option Nat × (Nat × Nat)} (hd : 0 ≤ d) : ∀  (I : AI) (r : Int32 × AI), f260_b22 kad N Z  I = some r → aGo kad d 260 (22, ([], [])) (aMem Z I, t) (qI Z t r) := by
  intro  I r h
  unfold f260_b22 at h
  refine go_ops aMi260 1 _ (f1 := (23, ([], [.int (0 : Int32)]))) rfl ?_
  exact Tf260_b23 hd (0 : Int32) I _ h
def f260 (kad : Nat → Nat) (N : Nat) (Z : AZ) (a0 : Nat) (I : AI) : Option (Int32 × AI) :=
  (gI Z I 11 23 a0).bind fun x1_1 =>
  if ¬ x1_1 = (1 : Int32) then
    f260_b22 kad N Z  I
  else
    (gI Z I 11 38 a0).bind fun x9_2 =>
    if (1000 : Int32) ≤ x9_2 then
      f260_b22 kad N Z  I
    else
      f260_b23 kad N Z (1 : Int32) I
set_option maxRecDepth 20000 in
theorem Tf260 {kad : Nat → Nat} {N : Nat} {Z : AZ} {d : Nat} {t : Option Nat × (Nat × Nat)} (hd : 0 ≤ d) : ∀ (a0 : Nat) (I : AI) (r : Int32 × AI), f260 kad N Z a0 I = some r → aGo kad d 260 (0, ([(0, .ref a0)], [])) (aMem Z I, t) (qI Z t r) := by
  intro a0 I r h
  unfold f260 at h
  refine go_ops aMi260 1 _ (f1 := (1, ([(0, .ref a0)], [.ref a0]))) rfl ?_
  obtain ⟨x1_1, hxx1_1, h⟩ := Option.bind_eq_some_iff.mp h
  refine gg_gI aMi260 rfl rfl rfl hxx1_1 ?_
  refine go_ops aMi260 1 _ (f1 := (5, ([(0, .ref a0)], [.int (1 : Int32), .int x1_1]))) rfl ?_
  refine gg_br (b := decide (¬ x1_1 = (1 : Int32))) (tg := 22) (off := 17) aMi260 rfl rfl rfl rfl (fun hb => ?_) (fun hb => ?_)
  · rw [if_pos (of_decide_eq_true hb)] at h
    refine go_le (lv1 := []) (aLe_of (show (List.map (fun q => q.1) ([] : ALv)).Nodup from (by show ([] : List Nat).Nodup; decide)) aSubL_nil) ?_
    exact Tf260_b22 hd  I _ h
  · rw [if_neg (of_decide_eq_false hb)] at h
    refine go_ops aMi260 1 _ (f1 := (9, ([(0, .ref a0)], [.ref a0]))) rfl ?_
    obtain ⟨x9_2, hxx9_2, h⟩ := Option.bind_eq_some_iff.mp h
    refine gg_gI aMi260 rfl rfl rfl hxx9_2 ?_
    refine go_ops aMi260 1 _ (f1 := (15, ([(0, .ref a0)], [.int (1000 : Int32), .int x9_2]))) rfl ?_
    refine gg_br (b := decide ((1000 : Int32) ≤ x9_2)) (tg := 22) (off := 7) aMi260 rfl rfl rfl rfl (fun hb => ?_) (fun hb => ?_)
    · rw [if_pos (of_decide_eq_true hb)] at h
      refine go_le (lv1 := []) (aLe_of (show (List.map (fun q => q.1) ([] : ALv)).Nodup from (by show ([] : List Nat).Nodup; decide)) aSubL_nil) ?_
      exact Tf260_b22 hd  I _ h
    · rw [if_neg (of_decide_eq_false hb)] at h
      refine go_ops aMi260 2 _ (f1 := (23, ([(0, .ref a0)], [.int (1 : Int32)]))) rfl ?_
      refine go_le (lv1 := []) (aLe_of (show (List.map (fun q => q.1) ([] : ALv)).Nodup from (by show ([] : List Nat).Nodup; decide)) aSubL_nil) ?_
      exact Tf260_b23 hd (1 : Int32) I _ h
-- KernelGymModel.stepsAndKeeps ()V
def f261_b24 (kad : Nat → Nat) (N : Nat) (Z : AZ) (s0 : Int32) (s1 : Int32) (s2 : Nat) (I : AI) : Option (Unit × AI) :=
  (pI Z I 11 40 s2 (s1 + s0)).bind fun I25_1 =>
  some ((), I25_1)
set_option maxRecDepth 20000 in
theorem Tf261_b24 {kad : Nat → Nat} {N : Nat} {Z : AZ} {d : Nat} {t : Option Nat × (Nat × Nat)} (hd : 7 ≤ d) : ∀ (s0 : Int32) (s1 : Int32) (s2 : Nat) (I : AI) (r : Unit × AI), f261_b24 kad N Z s0 s1 s2 I = some r → aGo kad d 261 (24, ([], [.int s0, .int s1, .ref s2])) (aMem Z I, t) (qV Z t r) := by
  intro s0 s1 s2 I r h
  unfold f261_b24 at h
  refine go_ops aMi261 1 _ (f1 := (25, ([], [.int (s1 + s0), .ref s2]))) rfl ?_
  obtain ⟨I25_1, hxI25_1, h⟩ := Option.bind_eq_some_iff.mp h
  refine gg_pI aMi261 rfl rfl rfl rfl (by decide) hxI25_1 ?_
  cases h
  exact go_ret aMi261 rfl rfl ⟨rfl, rfl⟩
def f261 (kad : Nat → Nat) (N : Nat) (Z : AZ) (a0 : Nat) (I : AI) : Option (Unit × AI) :=
  (isK Z a0 11).bind fun u1_1 =>
  (f234 kad N Z a0 I).bind fun r1_2 =>
  (gI Z r1_2.2 11 40 a0).bind fun x6_3 =>
  (gI Z r1_2.2 11 40 a0).bind fun x10_4 =>
  if (200 : Int32) ≤ x10_4 then
    f261_b24 kad N Z (0 : Int32) x6_3 a0 r1_2.2
  else
    f261_b24 kad N Z (1 : Int32) x6_3 a0 r1_2.2
set_option maxRecDepth 20000 in
theorem Tf261 {kad : Nat → Nat} {N : Nat} {Z : AZ} {d : Nat} {t : Option Nat × (Nat × Nat)} (hd : 7 ≤ d) : ∀ (a0 : Nat) (I : AI) (r : Unit × AI), f261 kad N Z a0 I = some r → aGo kad d 261 (0, ([(0, .ref a0)], [])) (aMem Z I, t) (qV Z t r) := by
  intro a0 I r h
  unfold f261 at h
  refine go_ops aMi261 1 _ (f1 := (1, ([(0, .ref a0)], [.ref a0]))) rfl ?_
  obtain ⟨u1_1, hxu1_1, h⟩ := Option.bind_eq_some_iff.mp h
  obtain ⟨r1_2, hxr1_2, h⟩ := Option.bind_eq_some_iff.mp h
  refine gg_cv (as := []) (r := []) aMi261 rfl rfl rfl aMi234 (Nat.le_of_ble_eq_true rfl) rfl (Nat.le_of_ble_eq_true rfl) (Nat.le_of_ble_eq_true rfl) (by omega) hxu1_1 (Tf234 (by omega) a0 I _ hxr1_2) ?_
  show aGo kad d 261 (4, ([(0, .ref a0)], [])) (aMem Z r1_2.2, t) _
  refine go_ops aMi261 2 _ (f1 := (6, ([(0, .ref a0)], [.ref a0, .ref a0]))) rfl ?_
  obtain ⟨x6_3, hxx6_3, h⟩ := Option.bind_eq_some_iff.mp h
  refine gg_gI aMi261 rfl rfl rfl hxx6_3 ?_
  refine go_ops aMi261 1 _ (f1 := (10, ([(0, .ref a0)], [.ref a0, .int x6_3, .ref a0]))) rfl ?_
  obtain ⟨x10_4, hxx10_4, h⟩ := Option.bind_eq_some_iff.mp h
  refine gg_gI aMi261 rfl rfl rfl hxx10_4 ?_
  refine go_ops aMi261 1 _ (f1 := (16, ([(0, .ref a0)], [.int (200 : Int32), .int x10_4, .int x6_3, .ref a0]))) rfl ?_
  refine gg_br (b := decide ((200 : Int32) ≤ x10_4)) (tg := 23) (off := 7) aMi261 rfl rfl rfl rfl (fun hb => ?_) (fun hb => ?_)
  · rw [if_pos (of_decide_eq_true hb)] at h
    refine go_ops aMi261 1 _ (f1 := (24, ([(0, .ref a0)], [.int (0 : Int32), .int x6_3, .ref a0]))) rfl ?_
    refine go_le (lv1 := []) (aLe_of (show (List.map (fun q => q.1) ([] : ALv)).Nodup from (by show ([] : List Nat).Nodup; decide)) aSubL_nil) ?_
    exact Tf261_b24 hd (0 : Int32) x6_3 a0 r1_2.2 _ h
  · rw [if_neg (of_decide_eq_false hb)] at h
    refine go_ops aMi261 2 _ (f1 := (24, ([(0, .ref a0)], [.int (1 : Int32), .int x6_3, .ref a0]))) rfl ?_
    refine go_le (lv1 := []) (aLe_of (show (List.map (fun q => q.1) ([] : ALv)).Nodup from (by show ([] : List Nat).Nodup; decide)) aSubL_nil) ?_
    exact Tf261_b24 hd (1 : Int32) x6_3 a0 r1_2.2 _ h
-- KernelGymModel.step (I)I
def f262_b59 (kad : Nat → Nat) (N : Nat) (Z : AZ) (i2 : Int32) (I : AI) : Option (Int32 × AI) :=
  some (i2, I)
set_option maxRecDepth 20000 in
theorem Tf262_b59 {kad : Nat → Nat} {N : Nat} {Z : AZ} {d : Nat} {t : Option Nat × (Nat × Nat)} (hd : 8 ≤ d) : ∀ (i2 : Int32) (I : AI) (r : Int32 × AI), f262_b59 kad N Z i2 I = some r → aGo kad d 262 (59, ([(2, .int i2)], [])) (aMem Z I, t) (qI Z t r) := by
  intro i2 I r h
  unfold f262_b59 at h
  refine go_ops aMi262 1 _ (f1 := (60, ([(2, .int i2)], [.int i2]))) rfl ?_
  cases h
  exact go_ret aMi262 rfl aRetI ⟨rfl, rfl⟩
def f262_b37 (kad : Nat → Nat) (N : Nat) (Z : AZ) : Nat → Nat → Int32 → Int32 → AI → Option (Int32 × AI)
  | 0, _, _, _, _ => none
  | F + 1, a0, i1, i2, I =>
    if i1 ≤ i2 then
      f262_b59 kad N Z i2 I
    else
      (isK Z a0 11).bind fun u43_1 =>
      (f260 kad N Z a0 I).bind fun r43_2 =>
      if r43_2.1 = 0 then
        f262_b59 kad N Z i2 r43_2.2
      else
        (isK Z a0 11).bind fun u50_3 =>
        (f261 kad N Z a0 r43_2.2).bind fun r50_4 =>
        f262_b37 kad N Z F a0 i1 (i2 + (1 : Int32)) r50_4.2
set_option maxRecDepth 20000 in
theorem Tf262_b37 {kad : Nat → Nat} {N : Nat} {Z : AZ} {d : Nat} {t : Option Nat × (Nat × Nat)} (hd : 8 ≤ d) : ∀ (F : Nat) (a0 : Nat) (i1 : Int32) (i2 : Int32) (I : AI) (r : Int32 × AI), f262_b37 kad N Z F a0 i1 i2 I = some r → aGo kad d 262 (37, ([(0, .ref a0), (1, .int i1), (2, .int i2)], [])) (aMem Z I, t) (qI Z t r) := by
  intro F
  induction F with
  | zero => intro a0 i1 i2 I r h; cases h
  | succ F ih =>
    intro a0 i1 i2 I r h
    unfold f262_b37 at h
    refine go_ops aMi262 2 _ (f1 := (39, ([(0, .ref a0), (1, .int i1), (2, .int i2)], [.int i1, .int i2]))) rfl ?_
    refine gg_br (b := decide (i1 ≤ i2)) (tg := 59) (off := 20) aMi262 rfl rfl rfl rfl (fun hb => ?_) (fun hb => ?_)
    · rw [if_pos (of_decide_eq_true hb)] at h
      refine go_le (lv1 := [(2, .int i2)]) (aLe_of (show (List.map (fun q => q.1) ([(2, .int i2)] : ALv)).Nodup from (by show ([2] : List Nat).Nodup; decide)) (aSubL_cons rfl aSubL_nil)) ?_
      exact Tf262_b59 hd i2 I _ h
    · rw [if_neg (of_decide_eq_false hb)] at h
      refine go_ops aMi262 1 _ (f1 := (43, ([(0, .ref a0), (1, .int i1), (2, .int i2)], [.ref a0]))) rfl ?_
      obtain ⟨u43_1, hxu43_1, h⟩ := Option.bind_eq_some_iff.mp h
      obtain ⟨r43_2, hxr43_2, h⟩ := Option.bind_eq_some_iff.mp h
      refine gg_cv (as := []) (r := []) aMi262 rfl rfl rfl aMi260 (Nat.le_of_ble_eq_true rfl) rfl (Nat.le_of_ble_eq_true rfl) (Nat.le_of_ble_eq_true rfl) (by omega) hxu43_1 (Tf260 (by omega) a0 I _ hxr43_2) ?_
      show aGo kad d 262 (46, ([(0, .ref a0), (1, .int i1), (2, .int i2)], [.int r43_2.1])) (aMem Z r43_2.2, t) _
      refine gg_br (b := decide (r43_2.1 = 0)) (tg := 59) (off := 13) aMi262 rfl rfl rfl rfl (fun hb => ?_) (fun hb => ?_)
      · rw [if_pos (of_decide_eq_true hb)] at h
        refine go_le (lv1 := [(2, .int i2)]) (aLe_of (show (List.map (fun q => q.1) ([(2, .int i2)] : ALv)).Nodup from (by show ([2] : List Nat).Nodup; decide)) (aSubL_cons rfl aSubL_nil)) ?_
        exact Tf262_b59 hd i2 r43_2.2 _ h
      · rw [if_neg (of_decide_eq_false hb)] at h
        refine go_ops aMi262 1 _ (f1 := (50, ([(0, .ref a0), (1, .int i1), (2, .int i2)], [.ref a0]))) rfl ?_
        obtain ⟨u50_3, hxu50_3, h⟩ := Option.bind_eq_some_iff.mp h
        obtain ⟨r50_4, hxr50_4, h⟩ := Option.bind_eq_some_iff.mp h
        refine gg_cv (as := []) (r := []) aMi262 rfl rfl rfl aMi261 (Nat.le_of_ble_eq_true rfl) rfl (Nat.le_of_ble_eq_true rfl) (Nat.le_of_ble_eq_true rfl) (by omega) hxu50_3 (Tf261 (by omega) a0 r43_2.2 _ hxr50_4) ?_
        show aGo kad d 262 (53, ([(0, .ref a0), (1, .int i1), (2, .int i2)], [])) (aMem Z r50_4.2, t) _
        refine go_ops aMi262 2 _ (f1 := (37, ([(2, .int (i2 + (1 : Int32))), (0, .ref a0), (1, .int i1)], []))) rfl ?_
        refine go_le (lv1 := [(0, .ref a0), (1, .int i1), (2, .int (i2 + (1 : Int32)))]) (aLe_of (show (List.map (fun q => q.1) ([(0, .ref a0), (1, .int i1), (2, .int (i2 + (1 : Int32)))] : ALv)).Nodup from (by show ([0, 1, 2] : List Nat).Nodup; decide)) (aSubL_cons rfl (aSubL_cons rfl (aSubL_cons rfl aSubL_nil)))) ?_
        exact ih a0 i1 (i2 + (1 : Int32)) r50_4.2 _ h
def f262_b27 (kad : Nat → Nat) (N : Nat) (Z : AZ) (a0 : Nat) (i1 : Int32) (s0 : Int32) (s1 : Nat) (I : AI) : Option (Int32 × AI) :=
  (isK Z s1 11).bind fun u27_1 =>
  (f185 kad N Z s1 s0 I).bind fun r27_2 =>
  if ¬ r27_2.1 = 0 then
    f262_b37 kad N Z N a0 i1 (0 : Int32) r27_2.2
  else
    some ((0 : Int32), r27_2.2)
set_option maxRecDepth 20000 in
theorem Tf262_b27 {kad : Nat → Nat} {N : Nat} {Z : AZ} {d : Nat} {t : Option Nat × (Nat × Nat)} (hd : 8 ≤ d) : ∀ (a0 : Nat) (i1 : Int32) (s0 : Int32) (s1 : Nat) (I : AI) (r : Int32 × AI), f262_b27 kad N Z a0 i1 s0 s1 I = some r → aGo kad d 262 (27, ([(0, .ref a0), (1, .int i1)], [.int s0, .ref s1])) (aMem Z I, t) (qI Z t r) := by
  intro a0 i1 s0 s1 I r h
  unfold f262_b27 at h
  obtain ⟨u27_1, hxu27_1, h⟩ := Option.bind_eq_some_iff.mp h
  obtain ⟨r27_2, hxr27_2, h⟩ := Option.bind_eq_some_iff.mp h
  refine gg_cv (as := [.int s0]) (r := []) aMi262 rfl rfl rfl aMi185 (Nat.le_of_ble_eq_true rfl) rfl (Nat.le_of_ble_eq_true rfl) (Nat.le_of_ble_eq_true rfl) (by omega) hxu27_1 (Tf185 (by omega) s1 s0 I _ hxr27_2) ?_
  show aGo kad d 262 (30, ([(0, .ref a0), (1, .int i1)], [.int r27_2.1])) (aMem Z r27_2.2, t) _
  refine gg_br (b := decide (¬ r27_2.1 = 0)) (tg := 35) (off := 5) aMi262 rfl rfl rfl rfl (fun hb => ?_) (fun hb => ?_)
  · rw [if_pos (of_decide_eq_true hb)] at h
    refine go_ops aMi262 2 _ (f1 := (37, ([(2, .int (0 : Int32)), (0, .ref a0), (1, .int i1)], []))) rfl ?_
    refine go_le (lv1 := [(0, .ref a0), (1, .int i1), (2, .int (0 : Int32))]) (aLe_of (show (List.map (fun q => q.1) ([(0, .ref a0), (1, .int i1), (2, .int (0 : Int32))] : ALv)).Nodup from (by show ([0, 1, 2] : List Nat).Nodup; decide)) (aSubL_cons rfl (aSubL_cons rfl (aSubL_cons rfl aSubL_nil)))) ?_
    exact Tf262_b37 hd N a0 i1 (0 : Int32) r27_2.2 _ h
  · rw [if_neg (of_decide_eq_false hb)] at h
    refine go_ops aMi262 1 _ (f1 := (34, ([(0, .ref a0), (1, .int i1)], [.int (0 : Int32)]))) rfl ?_
    cases h
    exact go_ret aMi262 rfl aRetI ⟨rfl, rfl⟩
def f262 (kad : Nat → Nat) (N : Nat) (Z : AZ) (a0 : Nat) (i1 : Int32) (I : AI) : Option (Int32 × AI) :=
  (f186 kad N Z i1 (1 : Int32) (100 : Int32) I).bind fun r5_1 =>
  if ¬ r5_1.1 = 0 then
    (isK Z a0 11).bind fun u16_2 =>
    (f216 kad N Z a0 r5_1.2).bind fun r16_3 =>
    if r16_3.1 = 0 then
      f262_b27 kad N Z a0 i1 (2 : Int32) a0 r16_3.2
    else
      f262_b27 kad N Z a0 i1 (0 : Int32) a0 r16_3.2
  else
    f262_b27 kad N Z a0 i1 (1 : Int32) a0 r5_1.2
set_option maxRecDepth 20000 in
theorem Tf262 {kad : Nat → Nat} {N : Nat} {Z : AZ} {d : Nat} {t : Option Nat × (Nat × Nat)} (hd : 8 ≤ d) : ∀ (a0 : Nat) (i1 : Int32) (I : AI) (r : Int32 × AI), f262 kad N Z a0 i1 I = some r → aGo kad d 262 (0, ([(0, .ref a0), (1, .int i1)], [])) (aMem Z I, t) (qI Z t r) := by
  intro a0 i1 I r h
  unfold f262 at h
  refine go_ops aMi262 4 _ (f1 := (5, ([(0, .ref a0), (1, .int i1)], [.int (100 : Int32), .int (1 : Int32), .int i1, .ref a0]))) rfl ?_
  obtain ⟨r5_1, hxr5_1, h⟩ := Option.bind_eq_some_iff.mp h
  refine gg_cs (as := [.int i1, .int (1 : Int32), .int (100 : Int32)]) (r := [.ref a0]) aMi262 rfl rfl rfl aMi186 rfl (Nat.le_of_ble_eq_true rfl) (Nat.le_of_ble_eq_true rfl) (by omega) (Tf186 (by omega) i1 (1 : Int32) (100 : Int32) I _ hxr5_1) ?_
  show aGo kad d 262 (8, ([(0, .ref a0), (1, .int i1)], [.int r5_1.1, .ref a0])) (aMem Z r5_1.2, t) _
  refine gg_br (b := decide (¬ r5_1.1 = 0)) (tg := 15) (off := 7) aMi262 rfl rfl rfl rfl (fun hb => ?_) (fun hb => ?_)
  · rw [if_pos (of_decide_eq_true hb)] at h
    refine go_ops aMi262 1 _ (f1 := (16, ([(0, .ref a0), (1, .int i1)], [.ref a0, .ref a0]))) rfl ?_
    obtain ⟨u16_2, hxu16_2, h⟩ := Option.bind_eq_some_iff.mp h
    obtain ⟨r16_3, hxr16_3, h⟩ := Option.bind_eq_some_iff.mp h
    refine gg_cv (as := []) (r := [.ref a0]) aMi262 rfl rfl rfl aMi216 (Nat.le_of_ble_eq_true rfl) rfl (Nat.le_of_ble_eq_true rfl) (Nat.le_of_ble_eq_true rfl) (by omega) hxu16_2 (Tf216 (by omega) a0 r5_1.2 _ hxr16_3) ?_
    show aGo kad d 262 (19, ([(0, .ref a0), (1, .int i1)], [.int r16_3.1, .ref a0])) (aMem Z r16_3.2, t) _
    refine gg_br (b := decide (r16_3.1 = 0)) (tg := 26) (off := 7) aMi262 rfl rfl rfl rfl (fun hb => ?_) (fun hb => ?_)
    · rw [if_pos (of_decide_eq_true hb)] at h
      refine go_ops aMi262 1 _ (f1 := (27, ([(0, .ref a0), (1, .int i1)], [.int (2 : Int32), .ref a0]))) rfl ?_
      exact Tf262_b27 hd a0 i1 (2 : Int32) a0 r16_3.2 _ h
    · rw [if_neg (of_decide_eq_false hb)] at h
      refine go_ops aMi262 2 _ (f1 := (27, ([(0, .ref a0), (1, .int i1)], [.int (0 : Int32), .ref a0]))) rfl ?_
      exact Tf262_b27 hd a0 i1 (0 : Int32) a0 r16_3.2 _ h
  · rw [if_neg (of_decide_eq_false hb)] at h
    refine go_ops aMi262 2 _ (f1 := (27, ([(0, .ref a0), (1, .int i1)], [.int (1 : Int32), .ref a0]))) rfl ?_
    exact Tf262_b27 hd a0 i1 (1 : Int32) a0 r5_1.2 _ h
-- KernelGymModel.runTo (II)I
def f263_b95 (kad : Nat → Nat) (N : Nat) (Z : AZ) (k51 : Nat → Int32 → Int32 → Int32 → Int32 → AI → Option (Int32 × AI)) (a0 : Nat) (i1 : Int32) (i2 : Int32) (i3 : Int32) (s0 : Int32) (I : AI) : Option (Int32 × AI) :=
  k51 a0 i1 i2 i3 s0 I
set_option maxRecDepth 20000 in
theorem Tf263_b95 {kad : Nat → Nat} {N : Nat} {Z : AZ} {d : Nat} {t : Option Nat × (Nat × Nat)} (hd : 8 ≤ d) (k51 : Nat → Int32 → Int32 → Int32 → Int32 → AI → Option (Int32 × AI))  (hk51 : ∀ (a0 : Nat) (i1 : Int32) (i2 : Int32) (i3 : Int32) (i4 : Int32)  (I : AI) (r : Int32 × AI), k51 a0 i1 i2 i3 i4 I = some r → aGo kad d 263 (51, ([(0, .ref a0), (1, .int i1), (2, .int i2), (3, .int i3), (4, .int i4)], [])) (aMem Z I, t) (qI Z t r)) : ∀ (a0 : Nat) (i1 : Int32) (i2 : Int32) (i3 : Int32) (s0 : Int32) (I : AI) (r : Int32 × AI), f263_b95 kad N Z k51 a0 i1 i2 i3 s0 I = some r → aGo kad d 263 (95, ([(0, .ref a0), (1, .int i1), (2, .int i2), (3, .int i3)], [.int s0])) (aMem Z I, t) (qI Z t r) := by
  intro a0 i1 i2 i3 s0 I r h
  unfold f263_b95 at h
  refine go_ops aMi263 2 _ (f1 := (51, ([(4, .int s0), (0, .ref a0), (1, .int i1), (2, .int i2), (3, .int i3)], []))) rfl ?_
  refine go_le (lv1 := [(0, .ref a0), (1, .int i1), (2, .int i2), (3, .int i3), (4, .int s0)]) (aLe_of (show (List.map (fun q => q.1) ([(0, .ref a0), (1, .int i1), (2, .int i2), (3, .int i3), (4, .int s0)] : ALv)).Nodup from (by show ([0, 1, 2, 3, 4] : List Nat).Nodup; decide)) (aSubL_cons rfl (aSubL_cons rfl (aSubL_cons rfl (aSubL_cons rfl (aSubL_cons rfl aSubL_nil)))))) ?_
  exact hk51 a0 i1 i2 i3 s0 I _ h
def f263_b94 (kad : Nat → Nat) (N : Nat) (Z : AZ) (k51 : Nat → Int32 → Int32 → Int32 → Int32 → AI → Option (Int32 × AI)) (a0 : Nat) (i1 : Int32) (i2 : Int32) (i3 : Int32) (I : AI) : Option (Int32 × AI) :=
  f263_b95 kad N Z k51 a0 i1 i2 i3 (0 : Int32) I
set_option maxRecDepth 20000 in
theorem Tf263_b94 {kad : Nat → Nat} {N : Nat} {Z : AZ} {d : Nat} {t : Option Nat × (Nat × Nat)} (hd : 8 ≤ d) (k51 : Nat → Int32 → Int32 → Int32 → Int32 → AI → Option (Int32 × AI))  (hk51 : ∀ (a0 : Nat) (i1 : Int32) (i2 : Int32) (i3 : Int32) (i4 : Int32)  (I : AI) (r : Int32 × AI), k51 a0 i1 i2 i3 i4 I = some r → aGo kad d 263 (51, ([(0, .ref a0), (1, .int i1), (2, .int i2), (3, .int i3), (4, .int i4)], [])) (aMem Z I, t) (qI Z t r)) : ∀ (a0 : Nat) (i1 : Int32) (i2 : Int32) (i3 : Int32) (I : AI) (r : Int32 × AI), f263_b94 kad N Z k51 a0 i1 i2 i3 I = some r → aGo kad d 263 (94, ([(0, .ref a0), (1, .int i1), (2, .int i2), (3, .int i3)], [])) (aMem Z I, t) (qI Z t r) := by
  intro a0 i1 i2 i3 I r h
  unfold f263_b94 at h
  refine go_ops aMi263 1 _ (f1 := (95, ([(0, .ref a0), (1, .int i1), (2, .int i2), (3, .int i3)], [.int (0 : Int32)]))) rfl ?_
  exact Tf263_b95 hd k51 hk51 a0 i1 i2 i3 (0 : Int32) I _ h
def f263_b100 (kad : Nat → Nat) (N : Nat) (Z : AZ) (i3 : Int32) (I : AI) : Option (Int32 × AI) :=
  some (i3, I)
set_option maxRecDepth 20000 in
theorem Tf263_b100 {kad : Nat → Nat} {N : Nat} {Z : AZ} {d : Nat} {t : Option Nat × (Nat × Nat)} (hd : 8 ≤ d) : ∀ (i3 : Int32) (I : AI) (r : Int32 × AI), f263_b100 kad N Z i3 I = some r → aGo kad d 263 (100, ([(3, .int i3)], [])) (aMem Z I, t) (qI Z t r) := by
  intro i3 I r h
  unfold f263_b100 at h
  refine go_ops aMi263 1 _ (f1 := (101, ([(3, .int i3)], [.int i3]))) rfl ?_
  cases h
  exact go_ret aMi263 rfl aRetI ⟨rfl, rfl⟩
def f263_b51 (kad : Nat → Nat) (N : Nat) (Z : AZ) : Nat → Nat → Int32 → Int32 → Int32 → Int32 → AI → Option (Int32 × AI)
  | 0, _, _, _, _, _, _ => none
  | F + 1, a0, i1, i2, i3, i4, I =>
    if i2 ≤ i3 then
      f263_b100 kad N Z i3 I
    else
      if ¬ i4 = 0 then
        f263_b100 kad N Z i3 I
      else
        (isK Z a0 11).bind fun u62_1 =>
        (f260 kad N Z a0 I).bind fun r62_2 =>
        if r62_2.1 = 0 then
          f263_b100 kad N Z i3 r62_2.2
        else
          (isK Z a0 11).bind fun u69_3 =>
          (f261 kad N Z a0 r62_2.2).bind fun r69_4 =>
          (gI Z r69_4.2 11 27 a0).bind fun x76_5 =>
          if ¬ x76_5 = i1 then
            f263_b94 kad N Z (fun p0 p1 p2 p3 p4 I => f263_b51 kad N Z F p0 p1 p2 p3 p4 I) a0 i1 i2 (i3 + (1 : Int32)) r69_4.2
          else
            (gI Z r69_4.2 11 46 a0).bind fun x84_6 =>
            if ¬ x84_6 = 0 then
              f263_b94 kad N Z (fun p0 p1 p2 p3 p4 I => f263_b51 kad N Z F p0 p1 p2 p3 p4 I) a0 i1 i2 (i3 + (1 : Int32)) r69_4.2
            else
              f263_b95 kad N Z (fun p0 p1 p2 p3 p4 I => f263_b51 kad N Z F p0 p1 p2 p3 p4 I) a0 i1 i2 (i3 + (1 : Int32)) (1 : Int32) r69_4.2
set_option maxRecDepth 20000 in
theorem Tf263_b51 {kad : Nat → Nat} {N : Nat} {Z : AZ} {d : Nat} {t : Option Nat × (Nat × Nat)} (hd : 8 ≤ d) : ∀ (F : Nat) (a0 : Nat) (i1 : Int32) (i2 : Int32) (i3 : Int32) (i4 : Int32) (I : AI) (r : Int32 × AI), f263_b51 kad N Z F a0 i1 i2 i3 i4 I = some r → aGo kad d 263 (51, ([(0, .ref a0), (1, .int i1), (2, .int i2), (3, .int i3), (4, .int i4)], [])) (aMem Z I, t) (qI Z t r) := by
  intro F
  induction F with
  | zero => intro a0 i1 i2 i3 i4 I r h; cases h
  | succ F ih =>
    intro a0 i1 i2 i3 i4 I r h
    unfold f263_b51 at h
    refine go_ops aMi263 2 _ (f1 := (53, ([(0, .ref a0), (1, .int i1), (2, .int i2), (3, .int i3), (4, .int i4)], [.int i2, .int i3]))) rfl ?_
    refine gg_br (b := decide (i2 ≤ i3)) (tg := 100) (off := 47) aMi263 rfl rfl rfl rfl (fun hb => ?_) (fun hb => ?_)
    · rw [if_pos (of_decide_eq_true hb)] at h
      refine go_le (lv1 := [(3, .int i3)]) (aLe_of (show (List.map (fun q => q.1) ([(3, .int i3)] : ALv)).Nodup from (by show ([3] : List Nat).Nodup; decide)) (aSubL_cons rfl aSubL_nil)) ?_
      exact Tf263_b100 hd i3 I _ h
    · rw [if_neg (of_decide_eq_false hb)] at h
      refine go_ops aMi263 1 _ (f1 := (58, ([(0, .ref a0), (1, .int i1), (2, .int i2), (3, .int i3), (4, .int i4)], [.int i4]))) rfl ?_
      refine gg_br (b := decide (¬ i4 = 0)) (tg := 100) (off := 42) aMi263 rfl rfl rfl rfl (fun hb => ?_) (fun hb => ?_)
      · rw [if_pos (of_decide_eq_true hb)] at h
        refine go_le (lv1 := [(3, .int i3)]) (aLe_of (show (List.map (fun q => q.1) ([(3, .int i3)] : ALv)).Nodup from (by show ([3] : List Nat).Nodup; decide)) (aSubL_cons rfl aSubL_nil)) ?_
        exact Tf263_b100 hd i3 I _ h
      · rw [if_neg (of_decide_eq_false hb)] at h
        refine go_ops aMi263 1 _ (f1 := (62, ([(0, .ref a0), (1, .int i1), (2, .int i2), (3, .int i3), (4, .int i4)], [.ref a0]))) rfl ?_
        obtain ⟨u62_1, hxu62_1, h⟩ := Option.bind_eq_some_iff.mp h
        obtain ⟨r62_2, hxr62_2, h⟩ := Option.bind_eq_some_iff.mp h
        refine gg_cv (as := []) (r := []) aMi263 rfl rfl rfl aMi260 (Nat.le_of_ble_eq_true rfl) rfl (Nat.le_of_ble_eq_true rfl) (Nat.le_of_ble_eq_true rfl) (by omega) hxu62_1 (Tf260 (by omega) a0 I _ hxr62_2) ?_
        show aGo kad d 263 (65, ([(0, .ref a0), (1, .int i1), (2, .int i2), (3, .int i3), (4, .int i4)], [.int r62_2.1])) (aMem Z r62_2.2, t) _
        refine gg_br (b := decide (r62_2.1 = 0)) (tg := 100) (off := 35) aMi263 rfl rfl rfl rfl (fun hb => ?_) (fun hb => ?_)
        · rw [if_pos (of_decide_eq_true hb)] at h
          refine go_le (lv1 := [(3, .int i3)]) (aLe_of (show (List.map (fun q => q.1) ([(3, .int i3)] : ALv)).Nodup from (by show ([3] : List Nat).Nodup; decide)) (aSubL_cons rfl aSubL_nil)) ?_
          exact Tf263_b100 hd i3 r62_2.2 _ h
        · rw [if_neg (of_decide_eq_false hb)] at h
          refine go_ops aMi263 1 _ (f1 := (69, ([(0, .ref a0), (1, .int i1), (2, .int i2), (3, .int i3), (4, .int i4)], [.ref a0]))) rfl ?_
          obtain ⟨u69_3, hxu69_3, h⟩ := Option.bind_eq_some_iff.mp h
          obtain ⟨r69_4, hxr69_4, h⟩ := Option.bind_eq_some_iff.mp h
          refine gg_cv (as := []) (r := []) aMi263 rfl rfl rfl aMi261 (Nat.le_of_ble_eq_true rfl) rfl (Nat.le_of_ble_eq_true rfl) (Nat.le_of_ble_eq_true rfl) (by omega) hxu69_3 (Tf261 (by omega) a0 r62_2.2 _ hxr69_4) ?_
          show aGo kad d 263 (72, ([(0, .ref a0), (1, .int i1), (2, .int i2), (3, .int i3), (4, .int i4)], [])) (aMem Z r69_4.2, t) _
          refine go_ops aMi263 2 _ (f1 := (76, ([(3, .int (i3 + (1 : Int32))), (0, .ref a0), (1, .int i1), (2, .int i2), (4, .int i4)], [.ref a0]))) rfl ?_
          obtain ⟨x76_5, hxx76_5, h⟩ := Option.bind_eq_some_iff.mp h
          refine gg_gI aMi263 rfl rfl rfl hxx76_5 ?_
          refine go_ops aMi263 1 _ (f1 := (80, ([(3, .int (i3 + (1 : Int32))), (0, .ref a0), (1, .int i1), (2, .int i2), (4, .int i4)], [.int i1, .int x76_5]))) rfl ?_
          refine gg_br (b := decide (¬ x76_5 = i1)) (tg := 94) (off := 14) aMi263 rfl rfl rfl rfl (fun hb => ?_) (fun hb => ?_)
          · rw [if_pos (of_decide_eq_true hb)] at h
            refine go_le (lv1 := [(0, .ref a0), (1, .int i1), (2, .int i2), (3, .int (i3 + (1 : Int32)))]) (aLe_of (show (List.map (fun q => q.1) ([(0, .ref a0), (1, .int i1), (2, .int i2), (3, .int (i3 + (1 : Int32)))] : ALv)).Nodup from (by show ([0, 1, 2, 3] : List Nat).Nodup; decide)) (aSubL_cons rfl (aSubL_cons rfl (aSubL_cons rfl (aSubL_cons rfl aSubL_nil))))) ?_
            exact Tf263_b94 hd (fun p0 p1 p2 p3 p4 I => f263_b51 kad N Z F p0 p1 p2 p3 p4 I) (fun p0 p1 p2 p3 p4 I r hh => ih p0 p1 p2 p3 p4 I r hh) a0 i1 i2 (i3 + (1 : Int32)) r69_4.2 _ h
          · rw [if_neg (of_decide_eq_false hb)] at h
            refine go_ops aMi263 1 _ (f1 := (84, ([(3, .int (i3 + (1 : Int32))), (0, .ref a0), (1, .int i1), (2, .int i2), (4, .int i4)], [.ref a0]))) rfl ?_
            obtain ⟨x84_6, hxx84_6, h⟩ := Option.bind_eq_some_iff.mp h
            refine gg_gI aMi263 rfl rfl rfl hxx84_6 ?_
            refine gg_br (b := decide (¬ x84_6 = 0)) (tg := 94) (off := 7) aMi263 rfl rfl rfl rfl (fun hb => ?_) (fun hb => ?_)
            · rw [if_pos (of_decide_eq_true hb)] at h
              refine go_le (lv1 := [(0, .ref a0), (1, .int i1), (2, .int i2), (3, .int (i3 + (1 : Int32)))]) (aLe_of (show (List.map (fun q => q.1) ([(0, .ref a0), (1, .int i1), (2, .int i2), (3, .int (i3 + (1 : Int32)))] : ALv)).Nodup from (by show ([0, 1, 2, 3] : List Nat).Nodup; decide)) (aSubL_cons rfl (aSubL_cons rfl (aSubL_cons rfl (aSubL_cons rfl aSubL_nil))))) ?_
              exact Tf263_b94 hd (fun p0 p1 p2 p3 p4 I => f263_b51 kad N Z F p0 p1 p2 p3 p4 I) (fun p0 p1 p2 p3 p4 I r hh => ih p0 p1 p2 p3 p4 I r hh) a0 i1 i2 (i3 + (1 : Int32)) r69_4.2 _ h
            · rw [if_neg (of_decide_eq_false hb)] at h
              refine go_ops aMi263 2 _ (f1 := (95, ([(3, .int (i3 + (1 : Int32))), (0, .ref a0), (1, .int i1), (2, .int i2), (4, .int i4)], [.int (1 : Int32)]))) rfl ?_
              refine go_le (lv1 := [(0, .ref a0), (1, .int i1), (2, .int i2), (3, .int (i3 + (1 : Int32)))]) (aLe_of (show (List.map (fun q => q.1) ([(0, .ref a0), (1, .int i1), (2, .int i2), (3, .int (i3 + (1 : Int32)))] : ALv)).Nodup from (by show ([0, 1, 2, 3] : List Nat).Nodup; decide)) (aSubL_cons rfl (aSubL_cons rfl (aSubL_cons rfl (aSubL_cons rfl aSubL_nil))))) ?_
              exact Tf263_b95 hd (fun p0 p1 p2 p3 p4 I => f263_b51 kad N Z F p0 p1 p2 p3 p4 I) (fun p0 p1 p2 p3 p4 I r hh => ih p0 p1 p2 p3 p4 I r hh) a0 i1 i2 (i3 + (1 : Int32)) (1 : Int32) r69_4.2 _ h
def f263_b38 (kad : Nat → Nat) (N : Nat) (Z : AZ) (a0 : Nat) (i1 : Int32) (i2 : Int32) (s0 : Int32) (s1 : Nat) (I : AI) : Option (Int32 × AI) :=
  (isK Z s1 11).bind fun u38_1 =>
  (f185 kad N Z s1 s0 I).bind fun r38_2 =>
  if ¬ r38_2.1 = 0 then
    f263_b51 kad N Z N a0 i1 i2 (0 : Int32) (0 : Int32) r38_2.2
  else
    some ((0 : Int32), r38_2.2)
set_option maxRecDepth 20000 in
theorem Tf263_b38 {kad : Nat → Nat} {N : Nat} {Z : AZ} {d : Nat} {t : Option Nat × (Nat × Nat)} (hd : 8 ≤ d) : ∀ (a0 : Nat) (i1 : Int32) (i2 : Int32) (s0 : Int32) (s1 : Nat) (I : AI) (r : Int32 × AI), f263_b38 kad N Z a0 i1 i2 s0 s1 I = some r → aGo kad d 263 (38, ([(0, .ref a0), (1, .int i1), (2, .int i2)], [.int s0, .ref s1])) (aMem Z I, t) (qI Z t r) := by
  intro a0 i1 i2 s0 s1 I r h
  unfold f263_b38 at h
  obtain ⟨u38_1, hxu38_1, h⟩ := Option.bind_eq_some_iff.mp h
  obtain ⟨r38_2, hxr38_2, h⟩ := Option.bind_eq_some_iff.mp h
  refine gg_cv (as := [.int s0]) (r := []) aMi263 rfl rfl rfl aMi185 (Nat.le_of_ble_eq_true rfl) rfl (Nat.le_of_ble_eq_true rfl) (Nat.le_of_ble_eq_true rfl) (by omega) hxu38_1 (Tf185 (by omega) s1 s0 I _ hxr38_2) ?_
  show aGo kad d 263 (41, ([(0, .ref a0), (1, .int i1), (2, .int i2)], [.int r38_2.1])) (aMem Z r38_2.2, t) _
  refine gg_br (b := decide (¬ r38_2.1 = 0)) (tg := 46) (off := 5) aMi263 rfl rfl rfl rfl (fun hb => ?_) (fun hb => ?_)
  · rw [if_pos (of_decide_eq_true hb)] at h
    refine go_ops aMi263 4 _ (f1 := (51, ([(4, .int (0 : Int32)), (3, .int (0 : Int32)), (0, .ref a0), (1, .int i1), (2, .int i2)], []))) rfl ?_
    refine go_le (lv1 := [(0, .ref a0), (1, .int i1), (2, .int i2), (3, .int (0 : Int32)), (4, .int (0 : Int32))]) (aLe_of (show (List.map (fun q => q.1) ([(0, .ref a0), (1, .int i1), (2, .int i2), (3, .int (0 : Int32)), (4, .int (0 : Int32))] : ALv)).Nodup from (by show ([0, 1, 2, 3, 4] : List Nat).Nodup; decide)) (aSubL_cons rfl (aSubL_cons rfl (aSubL_cons rfl (aSubL_cons rfl (aSubL_cons rfl aSubL_nil)))))) ?_
    exact Tf263_b51 hd N a0 i1 i2 (0 : Int32) (0 : Int32) r38_2.2 _ h
  · rw [if_neg (of_decide_eq_false hb)] at h
    refine go_ops aMi263 1 _ (f1 := (45, ([(0, .ref a0), (1, .int i1), (2, .int i2)], [.int (0 : Int32)]))) rfl ?_
    cases h
    exact go_ret aMi263 rfl aRetI ⟨rfl, rfl⟩
def f263_b22 (kad : Nat → Nat) (N : Nat) (Z : AZ) (a0 : Nat) (i1 : Int32) (i2 : Int32) (s0 : Nat) (I : AI) : Option (Int32 × AI) :=
  f263_b38 kad N Z a0 i1 i2 (1 : Int32) s0 I
set_option maxRecDepth 20000 in
theorem Tf263_b22 {kad : Nat → Nat} {N : Nat} {Z : AZ} {d : Nat} {t : Option Nat × (Nat × Nat)} (hd : 8 ≤ d) : ∀ (a0 : Nat) (i1 : Int32) (i2 : Int32) (s0 : Nat) (I : AI) (r : Int32 × AI), f263_b22 kad N Z a0 i1 i2 s0 I = some r → aGo kad d 263 (22, ([(0, .ref a0), (1, .int i1), (2, .int i2)], [.ref s0])) (aMem Z I, t) (qI Z t r) := by
  intro a0 i1 i2 s0 I r h
  unfold f263_b22 at h
  refine go_ops aMi263 2 _ (f1 := (38, ([(0, .ref a0), (1, .int i1), (2, .int i2)], [.int (1 : Int32), .ref s0]))) rfl ?_
  exact Tf263_b38 hd a0 i1 i2 (1 : Int32) s0 I _ h
def f263 (kad : Nat → Nat) (N : Nat) (Z : AZ) (a0 : Nat) (i1 : Int32) (i2 : Int32) (I : AI) : Option (Int32 × AI) :=
  (f186 kad N Z i1 (0 : Int32) (255 : Int32) I).bind fun r6_1 =>
  if r6_1.1 = 0 then
    f263_b22 kad N Z a0 i1 i2 a0 r6_1.2
  else
    (f186 kad N Z i2 (1 : Int32) (100 : Int32) r6_1.2).bind fun r16_2 =>
    if ¬ r16_2.1 = 0 then
      (isK Z a0 11).bind fun u27_3 =>
      (f216 kad N Z a0 r16_2.2).bind fun r27_4 =>
      if r27_4.1 = 0 then
        f263_b38 kad N Z a0 i1 i2 (2 : Int32) a0 r27_4.2
      else
        f263_b38 kad N Z a0 i1 i2 (0 : Int32) a0 r27_4.2
    else
      f263_b22 kad N Z a0 i1 i2 a0 r16_2.2
set_option maxRecDepth 20000 in
theorem Tf263 {kad : Nat → Nat} {N : Nat} {Z : AZ} {d : Nat} {t : Option Nat × (Nat × Nat)} (hd : 8 ≤ d) : ∀ (a0 : Nat) (i1 : Int32) (i2 : Int32) (I : AI) (r : Int32 × AI), f263 kad N Z a0 i1 i2 I = some r → aGo kad d 263 (0, ([(0, .ref a0), (1, .int i1), (2, .int i2)], [])) (aMem Z I, t) (qI Z t r) := by
  intro a0 i1 i2 I r h
  unfold f263 at h
  refine go_ops aMi263 4 _ (f1 := (6, ([(0, .ref a0), (1, .int i1), (2, .int i2)], [.int (255 : Int32), .int (0 : Int32), .int i1, .ref a0]))) rfl ?_
  obtain ⟨r6_1, hxr6_1, h⟩ := Option.bind_eq_some_iff.mp h
  refine gg_cs (as := [.int i1, .int (0 : Int32), .int (255 : Int32)]) (r := [.ref a0]) aMi263 rfl rfl rfl aMi186 rfl (Nat.le_of_ble_eq_true rfl) (Nat.le_of_ble_eq_true rfl) (by omega) (Tf186 (by omega) i1 (0 : Int32) (255 : Int32) I _ hxr6_1) ?_
  show aGo kad d 263 (9, ([(0, .ref a0), (1, .int i1), (2, .int i2)], [.int r6_1.1, .ref a0])) (aMem Z r6_1.2, t) _
  refine gg_br (b := decide (r6_1.1 = 0)) (tg := 22) (off := 13) aMi263 rfl rfl rfl rfl (fun hb => ?_) (fun hb => ?_)
  · rw [if_pos (of_decide_eq_true hb)] at h
    exact Tf263_b22 hd a0 i1 i2 a0 r6_1.2 _ h
  · rw [if_neg (of_decide_eq_false hb)] at h
    refine go_ops aMi263 3 _ (f1 := (16, ([(0, .ref a0), (1, .int i1), (2, .int i2)], [.int (100 : Int32), .int (1 : Int32), .int i2, .ref a0]))) rfl ?_
    obtain ⟨r16_2, hxr16_2, h⟩ := Option.bind_eq_some_iff.mp h
    refine gg_cs (as := [.int i2, .int (1 : Int32), .int (100 : Int32)]) (r := [.ref a0]) aMi263 rfl rfl rfl aMi186 rfl (Nat.le_of_ble_eq_true rfl) (Nat.le_of_ble_eq_true rfl) (by omega) (Tf186 (by omega) i2 (1 : Int32) (100 : Int32) r6_1.2 _ hxr16_2) ?_
    show aGo kad d 263 (19, ([(0, .ref a0), (1, .int i1), (2, .int i2)], [.int r16_2.1, .ref a0])) (aMem Z r16_2.2, t) _
    refine gg_br (b := decide (¬ r16_2.1 = 0)) (tg := 26) (off := 7) aMi263 rfl rfl rfl rfl (fun hb => ?_) (fun hb => ?_)
    · rw [if_pos (of_decide_eq_true hb)] at h
      refine go_ops aMi263 1 _ (f1 := (27, ([(0, .ref a0), (1, .int i1), (2, .int i2)], [.ref a0, .ref a0]))) rfl ?_
      obtain ⟨u27_3, hxu27_3, h⟩ := Option.bind_eq_some_iff.mp h
      obtain ⟨r27_4, hxr27_4, h⟩ := Option.bind_eq_some_iff.mp h
      refine gg_cv (as := []) (r := [.ref a0]) aMi263 rfl rfl rfl aMi216 (Nat.le_of_ble_eq_true rfl) rfl (Nat.le_of_ble_eq_true rfl) (Nat.le_of_ble_eq_true rfl) (by omega) hxu27_3 (Tf216 (by omega) a0 r16_2.2 _ hxr27_4) ?_
      show aGo kad d 263 (30, ([(0, .ref a0), (1, .int i1), (2, .int i2)], [.int r27_4.1, .ref a0])) (aMem Z r27_4.2, t) _
      refine gg_br (b := decide (r27_4.1 = 0)) (tg := 37) (off := 7) aMi263 rfl rfl rfl rfl (fun hb => ?_) (fun hb => ?_)
      · rw [if_pos (of_decide_eq_true hb)] at h
        refine go_ops aMi263 1 _ (f1 := (38, ([(0, .ref a0), (1, .int i1), (2, .int i2)], [.int (2 : Int32), .ref a0]))) rfl ?_
        exact Tf263_b38 hd a0 i1 i2 (2 : Int32) a0 r27_4.2 _ h
      · rw [if_neg (of_decide_eq_false hb)] at h
        refine go_ops aMi263 2 _ (f1 := (38, ([(0, .ref a0), (1, .int i1), (2, .int i2)], [.int (0 : Int32), .ref a0]))) rfl ?_
        exact Tf263_b38 hd a0 i1 i2 (0 : Int32) a0 r27_4.2 _ h
    · rw [if_neg (of_decide_eq_false hb)] at h
      exact Tf263_b22 hd a0 i1 i2 a0 r16_2.2 _ h
-- KernelGymModel.back (I)I
def f264_b52 (kad : Nat → Nat) (N : Nat) (Z : AZ) (a0 : Nat) (s0 : Int32) (I : AI) : Option (Int32 × AI) :=
  (gI Z I 11 38 a0).bind fun x54_1 =>
  (gI Z I 11 40 a0).bind fun x62_2 =>
  (pI Z I 11 40 a0 (x62_2 - s0)).bind fun I67_3 =>
  (isK Z a0 11).bind fun u72_4 =>
  (f256 kad N Z a0 (x54_1 - s0) I67_3).bind fun r72_5 =>
  some (s0, r72_5.2)
set_option maxRecDepth 20000 in
theorem Tf264_b52 {kad : Nat → Nat} {N : Nat} {Z : AZ} {d : Nat} {t : Option Nat × (Nat × Nat)} (hd : 8 ≤ d) : ∀ (a0 : Nat) (s0 : Int32) (I : AI) (r : Int32 × AI), f264_b52 kad N Z a0 s0 I = some r → aGo kad d 264 (52, ([(0, .ref a0)], [.int s0])) (aMem Z I, t) (qI Z t r) := by
  intro a0 s0 I r h
  unfold f264_b52 at h
  refine go_ops aMi264 2 _ (f1 := (54, ([(2, .int s0), (0, .ref a0)], [.ref a0]))) rfl ?_
  obtain ⟨x54_1, hxx54_1, h⟩ := Option.bind_eq_some_iff.mp h
  refine gg_gI aMi264 rfl rfl rfl hxx54_1 ?_
  refine go_ops aMi264 5 _ (f1 := (62, ([(3, .int (x54_1 - s0)), (2, .int s0), (0, .ref a0)], [.ref a0, .ref a0]))) rfl ?_
  obtain ⟨x62_2, hxx62_2, h⟩ := Option.bind_eq_some_iff.mp h
  refine gg_gI aMi264 rfl rfl rfl hxx62_2 ?_
  refine go_ops aMi264 2 _ (f1 := (67, ([(3, .int (x54_1 - s0)), (2, .int s0), (0, .ref a0)], [.int (x62_2 - s0), .ref a0]))) rfl ?_
  obtain ⟨I67_3, hxI67_3, h⟩ := Option.bind_eq_some_iff.mp h
  refine gg_pI aMi264 rfl rfl rfl rfl (by decide) hxI67_3 ?_
  refine go_ops aMi264 2 _ (f1 := (72, ([(3, .int (x54_1 - s0)), (2, .int s0), (0, .ref a0)], [.int (x54_1 - s0), .ref a0]))) rfl ?_
  obtain ⟨u72_4, hxu72_4, h⟩ := Option.bind_eq_some_iff.mp h
  obtain ⟨r72_5, hxr72_5, h⟩ := Option.bind_eq_some_iff.mp h
  refine gg_cv (as := [.int (x54_1 - s0)]) (r := []) aMi264 rfl rfl rfl aMi256 (Nat.le_of_ble_eq_true rfl) rfl (Nat.le_of_ble_eq_true rfl) (Nat.le_of_ble_eq_true rfl) (by omega) hxu72_4 (Tf256 (by omega) a0 (x54_1 - s0) I67_3 _ hxr72_5) ?_
  show aGo kad d 264 (75, ([(3, .int (x54_1 - s0)), (2, .int s0), (0, .ref a0)], [])) (aMem Z r72_5.2, t) _
  refine go_ops aMi264 1 _ (f1 := (76, ([(3, .int (x54_1 - s0)), (2, .int s0), (0, .ref a0)], [.int s0]))) rfl ?_
  cases h
  exact go_ret aMi264 rfl aRetI ⟨rfl, rfl⟩
def f264_b28 (kad : Nat → Nat) (N : Nat) (Z : AZ) (a0 : Nat) (i1 : Int32) (s0 : Int32) (s1 : Nat) (I : AI) : Option (Int32 × AI) :=
  (isK Z s1 11).bind fun u28_1 =>
  (f185 kad N Z s1 s0 I).bind fun r28_2 =>
  if ¬ r28_2.1 = 0 then
    (gI Z r28_2.2 11 40 a0).bind fun x38_3 =>
    if x38_3 ≤ i1 then
      (gI Z r28_2.2 11 40 a0).bind fun x49_4 =>
      f264_b52 kad N Z a0 x49_4 r28_2.2
    else
      f264_b52 kad N Z a0 i1 r28_2.2
  else
    some ((0 : Int32), r28_2.2)
set_option maxRecDepth 20000 in
theorem Tf264_b28 {kad : Nat → Nat} {N : Nat} {Z : AZ} {d : Nat} {t : Option Nat × (Nat × Nat)} (hd : 8 ≤ d) : ∀ (a0 : Nat) (i1 : Int32) (s0 : Int32) (s1 : Nat) (I : AI) (r : Int32 × AI), f264_b28 kad N Z a0 i1 s0 s1 I = some r → aGo kad d 264 (28, ([(0, .ref a0), (1, .int i1)], [.int s0, .ref s1])) (aMem Z I, t) (qI Z t r) := by
  intro a0 i1 s0 s1 I r h
  unfold f264_b28 at h
  obtain ⟨u28_1, hxu28_1, h⟩ := Option.bind_eq_some_iff.mp h
  obtain ⟨r28_2, hxr28_2, h⟩ := Option.bind_eq_some_iff.mp h
  refine gg_cv (as := [.int s0]) (r := []) aMi264 rfl rfl rfl aMi185 (Nat.le_of_ble_eq_true rfl) rfl (Nat.le_of_ble_eq_true rfl) (Nat.le_of_ble_eq_true rfl) (by omega) hxu28_1 (Tf185 (by omega) s1 s0 I _ hxr28_2) ?_
  show aGo kad d 264 (31, ([(0, .ref a0), (1, .int i1)], [.int r28_2.1])) (aMem Z r28_2.2, t) _
  refine gg_br (b := decide (¬ r28_2.1 = 0)) (tg := 36) (off := 5) aMi264 rfl rfl rfl rfl (fun hb => ?_) (fun hb => ?_)
  · rw [if_pos (of_decide_eq_true hb)] at h
    refine go_ops aMi264 2 _ (f1 := (38, ([(0, .ref a0), (1, .int i1)], [.ref a0, .int i1]))) rfl ?_
    obtain ⟨x38_3, hxx38_3, h⟩ := Option.bind_eq_some_iff.mp h
    refine gg_gI aMi264 rfl rfl rfl hxx38_3 ?_
    refine gg_br (b := decide (x38_3 ≤ i1)) (tg := 48) (off := 7) aMi264 rfl rfl rfl rfl (fun hb => ?_) (fun hb => ?_)
    · rw [if_pos (of_decide_eq_true hb)] at h
      refine go_ops aMi264 1 _ (f1 := (49, ([(0, .ref a0), (1, .int i1)], [.ref a0]))) rfl ?_
      obtain ⟨x49_4, hxx49_4, h⟩ := Option.bind_eq_some_iff.mp h
      refine gg_gI aMi264 rfl rfl rfl hxx49_4 ?_
      refine go_le (lv1 := [(0, .ref a0)]) (aLe_of (show (List.map (fun q => q.1) ([(0, .ref a0)] : ALv)).Nodup from (by show ([0] : List Nat).Nodup; decide)) (aSubL_cons rfl aSubL_nil)) ?_
      exact Tf264_b52 hd a0 x49_4 r28_2.2 _ h
    · rw [if_neg (of_decide_eq_false hb)] at h
      refine go_ops aMi264 2 _ (f1 := (52, ([(0, .ref a0), (1, .int i1)], [.int i1]))) rfl ?_
      refine go_le (lv1 := [(0, .ref a0)]) (aLe_of (show (List.map (fun q => q.1) ([(0, .ref a0)] : ALv)).Nodup from (by show ([0] : List Nat).Nodup; decide)) (aSubL_cons rfl aSubL_nil)) ?_
      exact Tf264_b52 hd a0 i1 r28_2.2 _ h
  · rw [if_neg (of_decide_eq_false hb)] at h
    refine go_ops aMi264 1 _ (f1 := (35, ([(0, .ref a0), (1, .int i1)], [.int (0 : Int32)]))) rfl ?_
    cases h
    exact go_ret aMi264 rfl aRetI ⟨rfl, rfl⟩
def f264 (kad : Nat → Nat) (N : Nat) (Z : AZ) (a0 : Nat) (i1 : Int32) (I : AI) : Option (Int32 × AI) :=
  (f186 kad N Z i1 (1 : Int32) (200 : Int32) I).bind fun r6_1 =>
  if ¬ r6_1.1 = 0 then
    (isK Z a0 11).bind fun u17_2 =>
    (f216 kad N Z a0 r6_1.2).bind fun r17_3 =>
    if r17_3.1 = 0 then
      f264_b28 kad N Z a0 i1 (2 : Int32) a0 r17_3.2
    else
      f264_b28 kad N Z a0 i1 (0 : Int32) a0 r17_3.2
  else
    f264_b28 kad N Z a0 i1 (1 : Int32) a0 r6_1.2
set_option maxRecDepth 20000 in
theorem Tf264 {kad : Nat → Nat} {N : Nat} {Z : AZ} {d : Nat} {t : Option Nat × (Nat × Nat)} (hd : 8 ≤ d) : ∀ (a0 : Nat) (i1 : Int32) (I : AI) (r : Int32 × AI), f264 kad N Z a0 i1 I = some r → aGo kad d 264 (0, ([(0, .ref a0), (1, .int i1)], [])) (aMem Z I, t) (qI Z t r) := by
  intro a0 i1 I r h
  unfold f264 at h
  refine go_ops aMi264 4 _ (f1 := (6, ([(0, .ref a0), (1, .int i1)], [.int (200 : Int32), .int (1 : Int32), .int i1, .ref a0]))) rfl ?_
  obtain ⟨r6_1, hxr6_1, h⟩ := Option.bind_eq_some_iff.mp h
  refine gg_cs (as := [.int i1, .int (1 : Int32), .int (200 : Int32)]) (r := [.ref a0]) aMi264 rfl rfl rfl aMi186 rfl (Nat.le_of_ble_eq_true rfl) (Nat.le_of_ble_eq_true rfl) (by omega) (Tf186 (by omega) i1 (1 : Int32) (200 : Int32) I _ hxr6_1) ?_
  show aGo kad d 264 (9, ([(0, .ref a0), (1, .int i1)], [.int r6_1.1, .ref a0])) (aMem Z r6_1.2, t) _
  refine gg_br (b := decide (¬ r6_1.1 = 0)) (tg := 16) (off := 7) aMi264 rfl rfl rfl rfl (fun hb => ?_) (fun hb => ?_)
  · rw [if_pos (of_decide_eq_true hb)] at h
    refine go_ops aMi264 1 _ (f1 := (17, ([(0, .ref a0), (1, .int i1)], [.ref a0, .ref a0]))) rfl ?_
    obtain ⟨u17_2, hxu17_2, h⟩ := Option.bind_eq_some_iff.mp h
    obtain ⟨r17_3, hxr17_3, h⟩ := Option.bind_eq_some_iff.mp h
    refine gg_cv (as := []) (r := [.ref a0]) aMi264 rfl rfl rfl aMi216 (Nat.le_of_ble_eq_true rfl) rfl (Nat.le_of_ble_eq_true rfl) (Nat.le_of_ble_eq_true rfl) (by omega) hxu17_2 (Tf216 (by omega) a0 r6_1.2 _ hxr17_3) ?_
    show aGo kad d 264 (20, ([(0, .ref a0), (1, .int i1)], [.int r17_3.1, .ref a0])) (aMem Z r17_3.2, t) _
    refine gg_br (b := decide (r17_3.1 = 0)) (tg := 27) (off := 7) aMi264 rfl rfl rfl rfl (fun hb => ?_) (fun hb => ?_)
    · rw [if_pos (of_decide_eq_true hb)] at h
      refine go_ops aMi264 1 _ (f1 := (28, ([(0, .ref a0), (1, .int i1)], [.int (2 : Int32), .ref a0]))) rfl ?_
      exact Tf264_b28 hd a0 i1 (2 : Int32) a0 r17_3.2 _ h
    · rw [if_neg (of_decide_eq_false hb)] at h
      refine go_ops aMi264 2 _ (f1 := (28, ([(0, .ref a0), (1, .int i1)], [.int (0 : Int32), .ref a0]))) rfl ?_
      exact Tf264_b28 hd a0 i1 (0 : Int32) a0 r17_3.2 _ h
  · rw [if_neg (of_decide_eq_false hb)] at h
    refine go_ops aMi264 2 _ (f1 := (28, ([(0, .ref a0), (1, .int i1)], [.int (1 : Int32), .ref a0]))) rfl ?_
    exact Tf264_b28 hd a0 i1 (1 : Int32) a0 r6_1.2 _ h
-- KernelGymModel.press (I)I
def f265_b103 (kad : Nat → Nat) (N : Nat) (Z : AZ) (a0 : Nat) (i1 : Int32) (i2 : Int32) (I : AI) : Option (Int32 × AI) :=
  (gR Z I 11 41 a0).bind fun b104_1 =>
  (gI Z I 11 38 a0).bind fun x109_2 =>
  (sI Z I 100 b104_1 i2 x109_2).bind fun I112_3 =>
  (gR Z I112_3 11 42 a0).bind fun b114_4 =>
  (sI Z I112_3 100 b114_4 i2 i1).bind fun I119_5 =>
  (gI Z I119_5 11 43 a0).bind fun x122_6 =>
  (pI Z I119_5 11 43 a0 (x122_6 + (1 : Int32))).bind fun I127_7 =>
  (pB Z I127_7 11 33 a0 (1 : Int32)).bind fun I132_8 =>
  (gI Z I132_8 11 43 a0).bind fun x136_9 =>
  some (x136_9, I132_8)
set_option maxRecDepth 20000 in
theorem Tf265_b103 {kad : Nat → Nat} {N : Nat} {Z : AZ} {d : Nat} {t : Option Nat × (Nat × Nat)} (hd : 1 ≤ d) : ∀ (a0 : Nat) (i1 : Int32) (i2 : Int32) (I : AI) (r : Int32 × AI), f265_b103 kad N Z a0 i1 i2 I = some r → aGo kad d 265 (103, ([(0, .ref a0), (1, .int i1), (2, .int i2)], [])) (aMem Z I, t) (qI Z t r) := by
  intro a0 i1 i2 I r h
  unfold f265_b103 at h
  refine go_ops aMi265 1 _ (f1 := (104, ([(0, .ref a0), (1, .int i1), (2, .int i2)], [.ref a0]))) rfl ?_
  obtain ⟨b104_1, hxb104_1, h⟩ := Option.bind_eq_some_iff.mp h
  refine gg_gR aMi265 rfl rfl rfl hxb104_1 ?_
  refine go_ops aMi265 2 _ (f1 := (109, ([(0, .ref a0), (1, .int i1), (2, .int i2)], [.ref a0, .int i2, .ref b104_1]))) rfl ?_
  obtain ⟨x109_2, hxx109_2, h⟩ := Option.bind_eq_some_iff.mp h
  refine gg_gI aMi265 rfl rfl rfl hxx109_2 ?_
  obtain ⟨I112_3, hxI112_3, h⟩ := Option.bind_eq_some_iff.mp h
  refine gg_sI (Or.inl ⟨rfl, rfl⟩) aMi265 rfl hxI112_3 ?_
  refine go_ops aMi265 1 _ (f1 := (114, ([(0, .ref a0), (1, .int i1), (2, .int i2)], [.ref a0]))) rfl ?_
  obtain ⟨b114_4, hxb114_4, h⟩ := Option.bind_eq_some_iff.mp h
  refine gg_gR aMi265 rfl rfl rfl hxb114_4 ?_
  refine go_ops aMi265 2 _ (f1 := (119, ([(0, .ref a0), (1, .int i1), (2, .int i2)], [.int i1, .int i2, .ref b114_4]))) rfl ?_
  obtain ⟨I119_5, hxI119_5, h⟩ := Option.bind_eq_some_iff.mp h
  refine gg_sI (Or.inl ⟨rfl, rfl⟩) aMi265 rfl hxI119_5 ?_
  refine go_ops aMi265 2 _ (f1 := (122, ([(0, .ref a0), (1, .int i1), (2, .int i2)], [.ref a0, .ref a0]))) rfl ?_
  obtain ⟨x122_6, hxx122_6, h⟩ := Option.bind_eq_some_iff.mp h
  refine gg_gI aMi265 rfl rfl rfl hxx122_6 ?_
  refine go_ops aMi265 2 _ (f1 := (127, ([(0, .ref a0), (1, .int i1), (2, .int i2)], [.int (x122_6 + (1 : Int32)), .ref a0]))) rfl ?_
  obtain ⟨I127_7, hxI127_7, h⟩ := Option.bind_eq_some_iff.mp h
  refine gg_pI aMi265 rfl rfl rfl rfl (by decide) hxI127_7 ?_
  refine go_ops aMi265 2 _ (f1 := (132, ([(0, .ref a0), (1, .int i1), (2, .int i2)], [.int (1 : Int32), .ref a0]))) rfl ?_
  obtain ⟨I132_8, hxI132_8, h⟩ := Option.bind_eq_some_iff.mp h
  refine gg_pB aMi265 rfl rfl rfl rfl (by decide) hxI132_8 ?_
  refine go_ops aMi265 1 _ (f1 := (136, ([(0, .ref a0), (1, .int i1), (2, .int i2)], [.ref a0]))) rfl ?_
  obtain ⟨x136_9, hxx136_9, h⟩ := Option.bind_eq_some_iff.mp h
  refine gg_gI aMi265 rfl rfl rfl hxx136_9 ?_
  cases h
  exact go_ret aMi265 rfl aRetI ⟨rfl, rfl⟩
def f265_b50 (kad : Nat → Nat) (N : Nat) (Z : AZ) : Nat → Nat → Int32 → Int32 → AI → Option (Int32 × AI)
  | 0, _, _, _, _ => none
  | F + 1, a0, i1, i2, I =>
    if i2 ≤ 0 then
      f265_b103 kad N Z a0 i1 i2 I
    else
      (gR Z I 11 41 a0).bind fun b55_1 =>
      (lI Z I 100 b55_1 (i2 - (1 : Int32))).bind fun x61_2 =>
      (gI Z I 11 38 a0).bind fun x63_3 =>
      if x61_2 ≤ x63_3 then
        f265_b103 kad N Z a0 i1 i2 I
      else
        (gR Z I 11 41 a0).bind fun b70_4 =>
        (gR Z I 11 41 a0).bind fun b75_5 =>
        (lI Z I 100 b75_5 (i2 - (1 : Int32))).bind fun x81_6 =>
        (sI Z I 100 b70_4 i2 x81_6).bind fun I82_7 =>
        (gR Z I82_7 11 42 a0).bind fun b84_8 =>
        (gR Z I82_7 11 42 a0).bind fun b89_9 =>
        (lI Z I82_7 100 b89_9 (i2 - (1 : Int32))).bind fun x95_10 =>
        (sI Z I82_7 100 b84_8 i2 x95_10).bind fun I96_11 =>
        f265_b50 kad N Z F a0 i1 (i2 + (Int32.ofInt (-1))) I96_11
set_option maxRecDepth 20000 in
theorem Tf265_b50 {kad : Nat → Nat} {N : Nat} {Z : AZ} {d : Nat} {t : Option Nat × (Nat × Nat)} (hd : 1 ≤ d) : ∀ (F : Nat) (a0 : Nat) (i1 : Int32) (i2 : Int32) (I : AI) (r : Int32 × AI), f265_b50 kad N Z F a0 i1 i2 I = some r → aGo kad d 265 (50, ([(0, .ref a0), (1, .int i1), (2, .int i2)], [])) (aMem Z I, t) (qI Z t r) := by
  intro F
  induction F with
  | zero => intro a0 i1 i2 I r h; cases h
  | succ F ih =>
    intro a0 i1 i2 I r h
    unfold f265_b50 at h
    refine go_ops aMi265 1 _ (f1 := (51, ([(0, .ref a0), (1, .int i1), (2, .int i2)], [.int i2]))) rfl ?_
    refine gg_br (b := decide (i2 ≤ 0)) (tg := 103) (off := 52) aMi265 rfl rfl rfl rfl (fun hb => ?_) (fun hb => ?_)
    · rw [if_pos (of_decide_eq_true hb)] at h
      exact Tf265_b103 hd a0 i1 i2 I _ h
    · rw [if_neg (of_decide_eq_false hb)] at h
      refine go_ops aMi265 1 _ (f1 := (55, ([(0, .ref a0), (1, .int i1), (2, .int i2)], [.ref a0]))) rfl ?_
      obtain ⟨b55_1, hxb55_1, h⟩ := Option.bind_eq_some_iff.mp h
      refine gg_gR aMi265 rfl rfl rfl hxb55_1 ?_
      refine go_ops aMi265 3 _ (f1 := (61, ([(0, .ref a0), (1, .int i1), (2, .int i2)], [.int (i2 - (1 : Int32)), .ref b55_1]))) rfl ?_
      obtain ⟨x61_2, hxx61_2, h⟩ := Option.bind_eq_some_iff.mp h
      refine gg_lI (Or.inl ⟨rfl, rfl⟩) aMi265 rfl hxx61_2 ?_
      refine go_ops aMi265 1 _ (f1 := (63, ([(0, .ref a0), (1, .int i1), (2, .int i2)], [.ref a0, .int x61_2]))) rfl ?_
      obtain ⟨x63_3, hxx63_3, h⟩ := Option.bind_eq_some_iff.mp h
      refine gg_gI aMi265 rfl rfl rfl hxx63_3 ?_
      refine gg_br (b := decide (x61_2 ≤ x63_3)) (tg := 103) (off := 37) aMi265 rfl rfl rfl rfl (fun hb => ?_) (fun hb => ?_)
      · rw [if_pos (of_decide_eq_true hb)] at h
        exact Tf265_b103 hd a0 i1 i2 I _ h
      · rw [if_neg (of_decide_eq_false hb)] at h
        refine go_ops aMi265 1 _ (f1 := (70, ([(0, .ref a0), (1, .int i1), (2, .int i2)], [.ref a0]))) rfl ?_
        obtain ⟨b70_4, hxb70_4, h⟩ := Option.bind_eq_some_iff.mp h
        refine gg_gR aMi265 rfl rfl rfl hxb70_4 ?_
        refine go_ops aMi265 2 _ (f1 := (75, ([(0, .ref a0), (1, .int i1), (2, .int i2)], [.ref a0, .int i2, .ref b70_4]))) rfl ?_
        obtain ⟨b75_5, hxb75_5, h⟩ := Option.bind_eq_some_iff.mp h
        refine gg_gR aMi265 rfl rfl rfl hxb75_5 ?_
        refine go_ops aMi265 3 _ (f1 := (81, ([(0, .ref a0), (1, .int i1), (2, .int i2)], [.int (i2 - (1 : Int32)), .ref b75_5, .int i2, .ref b70_4]))) rfl ?_
        obtain ⟨x81_6, hxx81_6, h⟩ := Option.bind_eq_some_iff.mp h
        refine gg_lI (Or.inl ⟨rfl, rfl⟩) aMi265 rfl hxx81_6 ?_
        obtain ⟨I82_7, hxI82_7, h⟩ := Option.bind_eq_some_iff.mp h
        refine gg_sI (Or.inl ⟨rfl, rfl⟩) aMi265 rfl hxI82_7 ?_
        refine go_ops aMi265 1 _ (f1 := (84, ([(0, .ref a0), (1, .int i1), (2, .int i2)], [.ref a0]))) rfl ?_
        obtain ⟨b84_8, hxb84_8, h⟩ := Option.bind_eq_some_iff.mp h
        refine gg_gR aMi265 rfl rfl rfl hxb84_8 ?_
        refine go_ops aMi265 2 _ (f1 := (89, ([(0, .ref a0), (1, .int i1), (2, .int i2)], [.ref a0, .int i2, .ref b84_8]))) rfl ?_
        obtain ⟨b89_9, hxb89_9, h⟩ := Option.bind_eq_some_iff.mp h
        refine gg_gR aMi265 rfl rfl rfl hxb89_9 ?_
        refine go_ops aMi265 3 _ (f1 := (95, ([(0, .ref a0), (1, .int i1), (2, .int i2)], [.int (i2 - (1 : Int32)), .ref b89_9, .int i2, .ref b84_8]))) rfl ?_
        obtain ⟨x95_10, hxx95_10, h⟩ := Option.bind_eq_some_iff.mp h
        refine gg_lI (Or.inl ⟨rfl, rfl⟩) aMi265 rfl hxx95_10 ?_
        obtain ⟨I96_11, hxI96_11, h⟩ := Option.bind_eq_some_iff.mp h
        refine gg_sI (Or.inl ⟨rfl, rfl⟩) aMi265 rfl hxI96_11 ?_
        refine go_ops aMi265 2 _ (f1 := (50, ([(2, .int (i2 + (Int32.ofInt (-1)))), (0, .ref a0), (1, .int i1)], []))) rfl ?_
        refine go_le (lv1 := [(0, .ref a0), (1, .int i1), (2, .int (i2 + (Int32.ofInt (-1))))]) (aLe_of (show (List.map (fun q => q.1) ([(0, .ref a0), (1, .int i1), (2, .int (i2 + (Int32.ofInt (-1))))] : ALv)).Nodup from (by show ([0, 1, 2] : List Nat).Nodup; decide)) (aSubL_cons rfl (aSubL_cons rfl (aSubL_cons rfl aSubL_nil)))) ?_
        exact ih a0 i1 (i2 + (Int32.ofInt (-1))) I96_11 _ h
def f265_b37 (kad : Nat → Nat) (N : Nat) (Z : AZ) (a0 : Nat) (i1 : Int32) (s0 : Int32) (s1 : Nat) (I : AI) : Option (Int32 × AI) :=
  (isK Z s1 11).bind fun u37_1 =>
  (f185 kad N Z s1 s0 I).bind fun r37_2 =>
  if ¬ r37_2.1 = 0 then
    (gI Z r37_2.2 11 43 a0).bind fun x46_3 =>
    f265_b50 kad N Z N a0 i1 x46_3 r37_2.2
  else
    some ((0 : Int32), r37_2.2)
set_option maxRecDepth 20000 in
theorem Tf265_b37 {kad : Nat → Nat} {N : Nat} {Z : AZ} {d : Nat} {t : Option Nat × (Nat × Nat)} (hd : 1 ≤ d) : ∀ (a0 : Nat) (i1 : Int32) (s0 : Int32) (s1 : Nat) (I : AI) (r : Int32 × AI), f265_b37 kad N Z a0 i1 s0 s1 I = some r → aGo kad d 265 (37, ([(0, .ref a0), (1, .int i1)], [.int s0, .ref s1])) (aMem Z I, t) (qI Z t r) := by
  intro a0 i1 s0 s1 I r h
  unfold f265_b37 at h
  obtain ⟨u37_1, hxu37_1, h⟩ := Option.bind_eq_some_iff.mp h
  obtain ⟨r37_2, hxr37_2, h⟩ := Option.bind_eq_some_iff.mp h
  refine gg_cv (as := [.int s0]) (r := []) aMi265 rfl rfl rfl aMi185 (Nat.le_of_ble_eq_true rfl) rfl (Nat.le_of_ble_eq_true rfl) (Nat.le_of_ble_eq_true rfl) (by omega) hxu37_1 (Tf185 (by omega) s1 s0 I _ hxr37_2) ?_
  show aGo kad d 265 (40, ([(0, .ref a0), (1, .int i1)], [.int r37_2.1])) (aMem Z r37_2.2, t) _
  refine gg_br (b := decide (¬ r37_2.1 = 0)) (tg := 45) (off := 5) aMi265 rfl rfl rfl rfl (fun hb => ?_) (fun hb => ?_)
  · rw [if_pos (of_decide_eq_true hb)] at h
    refine go_ops aMi265 1 _ (f1 := (46, ([(0, .ref a0), (1, .int i1)], [.ref a0]))) rfl ?_
    obtain ⟨x46_3, hxx46_3, h⟩ := Option.bind_eq_some_iff.mp h
    refine gg_gI aMi265 rfl rfl rfl hxx46_3 ?_
    refine go_ops aMi265 1 _ (f1 := (50, ([(2, .int x46_3), (0, .ref a0), (1, .int i1)], []))) rfl ?_
    refine go_le (lv1 := [(0, .ref a0), (1, .int i1), (2, .int x46_3)]) (aLe_of (show (List.map (fun q => q.1) ([(0, .ref a0), (1, .int i1), (2, .int x46_3)] : ALv)).Nodup from (by show ([0, 1, 2] : List Nat).Nodup; decide)) (aSubL_cons rfl (aSubL_cons rfl (aSubL_cons rfl aSubL_nil)))) ?_
    exact Tf265_b50 hd N a0 i1 x46_3 r37_2.2 _ h
  · rw [if_neg (of_decide_eq_false hb)] at h
    refine go_ops aMi265 1 _ (f1 := (44, ([(0, .ref a0), (1, .int i1)], [.int (0 : Int32)]))) rfl ?_
    cases h
    exact go_ret aMi265 rfl aRetI ⟨rfl, rfl⟩
def f265_b32 (kad : Nat → Nat) (N : Nat) (Z : AZ) (a0 : Nat) (i1 : Int32) (s0 : Nat) (I : AI) : Option (Int32 × AI) :=
  f265_b37 kad N Z a0 i1 (2 : Int32) s0 I
set_option maxRecDepth 20000 in
theorem Tf265_b32 {kad : Nat → Nat} {N : Nat} {Z : AZ} {d : Nat} {t : Option Nat × (Nat × Nat)} (hd : 1 ≤ d) : ∀ (a0 : Nat) (i1 : Int32) (s0 : Nat) (I : AI) (r : Int32 × AI), f265_b32 kad N Z a0 i1 s0 I = some r → aGo kad d 265 (32, ([(0, .ref a0), (1, .int i1)], [.ref s0])) (aMem Z I, t) (qI Z t r) := by
  intro a0 i1 s0 I r h
  unfold f265_b32 at h
  refine go_ops aMi265 2 _ (f1 := (37, ([(0, .ref a0), (1, .int i1)], [.int (2 : Int32), .ref s0]))) rfl ?_
  exact Tf265_b37 hd a0 i1 (2 : Int32) s0 I _ h
def f265 (kad : Nat → Nat) (N : Nat) (Z : AZ) (a0 : Nat) (i1 : Int32) (I : AI) : Option (Int32 × AI) :=
  (f186 kad N Z i1 (0 : Int32) (65535 : Int32) I).bind fun r5_1 =>
  if ¬ r5_1.1 = 0 then
    (gI Z r5_1.2 11 23 a0).bind fun x16_2 =>
    if ¬ x16_2 = (1 : Int32) then
      f265_b32 kad N Z a0 i1 a0 r5_1.2
    else
      (gI Z r5_1.2 11 43 a0).bind fun x24_3 =>
      if ¬ x24_3 = (20 : Int32) then
        f265_b37 kad N Z a0 i1 (0 : Int32) a0 r5_1.2
      else
        f265_b32 kad N Z a0 i1 a0 r5_1.2
  else
    f265_b37 kad N Z a0 i1 (1 : Int32) a0 r5_1.2
set_option maxRecDepth 20000 in
theorem Tf265 {kad : Nat → Nat} {N : Nat} {Z : AZ} {d : Nat} {t : Option Nat × (Nat × Nat)} (hd : 1 ≤ d) : ∀ (a0 : Nat) (i1 : Int32) (I : AI) (r : Int32 × AI), f265 kad N Z a0 i1 I = some r → aGo kad d 265 (0, ([(0, .ref a0), (1, .int i1)], [])) (aMem Z I, t) (qI Z t r) := by
  intro a0 i1 I r h
  unfold f265 at h
  refine go_ops aMi265 3 _ (f1 := (3, ([(0, .ref a0), (1, .int i1)], [.int (0 : Int32), .int i1, .ref a0]))) rfl ?_
  refine gg_kI (Or.inl ⟨rfl, rfl⟩) aMi265 rfl rfl ?_
  obtain ⟨r5_1, hxr5_1, h⟩ := Option.bind_eq_some_iff.mp h
  refine gg_cs (as := [.int i1, .int (0 : Int32), .int (65535 : Int32)]) (r := [.ref a0]) aMi265 rfl rfl rfl aMi186 rfl (Nat.le_of_ble_eq_true rfl) (Nat.le_of_ble_eq_true rfl) (by omega) (Tf186 (by omega) i1 (0 : Int32) (65535 : Int32) I _ hxr5_1) ?_
  show aGo kad d 265 (8, ([(0, .ref a0), (1, .int i1)], [.int r5_1.1, .ref a0])) (aMem Z r5_1.2, t) _
  refine gg_br (b := decide (¬ r5_1.1 = 0)) (tg := 15) (off := 7) aMi265 rfl rfl rfl rfl (fun hb => ?_) (fun hb => ?_)
  · rw [if_pos (of_decide_eq_true hb)] at h
    refine go_ops aMi265 1 _ (f1 := (16, ([(0, .ref a0), (1, .int i1)], [.ref a0, .ref a0]))) rfl ?_
    obtain ⟨x16_2, hxx16_2, h⟩ := Option.bind_eq_some_iff.mp h
    refine gg_gI aMi265 rfl rfl rfl hxx16_2 ?_
    refine go_ops aMi265 1 _ (f1 := (20, ([(0, .ref a0), (1, .int i1)], [.int (1 : Int32), .int x16_2, .ref a0]))) rfl ?_
    refine gg_br (b := decide (¬ x16_2 = (1 : Int32))) (tg := 32) (off := 12) aMi265 rfl rfl rfl rfl (fun hb => ?_) (fun hb => ?_)
    · rw [if_pos (of_decide_eq_true hb)] at h
      exact Tf265_b32 hd a0 i1 a0 r5_1.2 _ h
    · rw [if_neg (of_decide_eq_false hb)] at h
      refine go_ops aMi265 1 _ (f1 := (24, ([(0, .ref a0), (1, .int i1)], [.ref a0, .ref a0]))) rfl ?_
      obtain ⟨x24_3, hxx24_3, h⟩ := Option.bind_eq_some_iff.mp h
      refine gg_gI aMi265 rfl rfl rfl hxx24_3 ?_
      refine go_ops aMi265 1 _ (f1 := (29, ([(0, .ref a0), (1, .int i1)], [.int (20 : Int32), .int x24_3, .ref a0]))) rfl ?_
      refine gg_br (b := decide (¬ x24_3 = (20 : Int32))) (tg := 36) (off := 7) aMi265 rfl rfl rfl rfl (fun hb => ?_) (fun hb => ?_)
      · rw [if_pos (of_decide_eq_true hb)] at h
        refine go_ops aMi265 1 _ (f1 := (37, ([(0, .ref a0), (1, .int i1)], [.int (0 : Int32), .ref a0]))) rfl ?_
        exact Tf265_b37 hd a0 i1 (0 : Int32) a0 r5_1.2 _ h
      · rw [if_neg (of_decide_eq_false hb)] at h
        exact Tf265_b32 hd a0 i1 a0 r5_1.2 _ h
  · rw [if_neg (of_decide_eq_false hb)] at h
    refine go_ops aMi265 2 _ (f1 := (37, ([(0, .ref a0), (1, .int i1)], [.int (1 : Int32), .ref a0]))) rfl ?_
    exact Tf265_b37 hd a0 i1 (1 : Int32) a0 r5_1.2 _ h
-- KernelGymModel.state ()I
def f266 (kad : Nat → Nat) (N : Nat) (Z : AZ) (a0 : Nat) (I : AI) : Option (Int32 × AI) :=
  (pI Z I 11 0 a0 (0 : Int32)).bind fun I2_1 =>
  (gI Z I2_1 11 23 a0).bind fun x6_2 =>
  some (x6_2, I2_1)
set_option maxRecDepth 20000 in
theorem Tf266 {kad : Nat → Nat} {N : Nat} {Z : AZ} {d : Nat} {t : Option Nat × (Nat × Nat)} (hd : 0 ≤ d) : ∀ (a0 : Nat) (I : AI) (r : Int32 × AI), f266 kad N Z a0 I = some r → aGo kad d 266 (0, ([(0, .ref a0)], [])) (aMem Z I, t) (qI Z t r) := by
  intro a0 I r h
  unfold f266 at h
  refine go_ops aMi266 2 _ (f1 := (2, ([(0, .ref a0)], [.int (0 : Int32), .ref a0]))) rfl ?_
  obtain ⟨I2_1, hxI2_1, h⟩ := Option.bind_eq_some_iff.mp h
  refine gg_pI aMi266 rfl rfl rfl rfl (by decide) hxI2_1 ?_
  refine go_ops aMi266 1 _ (f1 := (6, ([(0, .ref a0)], [.ref a0]))) rfl ?_
  obtain ⟨x6_2, hxx6_2, h⟩ := Option.bind_eq_some_iff.mp h
  refine gg_gI aMi266 rfl rfl rfl hxx6_2 ?_
  cases h
  exact go_ret aMi266 rfl aRetI ⟨rfl, rfl⟩
-- KernelGymModel.fault ()I
def f267 (kad : Nat → Nat) (N : Nat) (Z : AZ) (a0 : Nat) (I : AI) : Option (Int32 × AI) :=
  (pI Z I 11 0 a0 (0 : Int32)).bind fun I2_1 =>
  (gI Z I2_1 11 24 a0).bind fun x6_2 =>
  some (x6_2, I2_1)
set_option maxRecDepth 20000 in
theorem Tf267 {kad : Nat → Nat} {N : Nat} {Z : AZ} {d : Nat} {t : Option Nat × (Nat × Nat)} (hd : 0 ≤ d) : ∀ (a0 : Nat) (I : AI) (r : Int32 × AI), f267 kad N Z a0 I = some r → aGo kad d 267 (0, ([(0, .ref a0)], [])) (aMem Z I, t) (qI Z t r) := by
  intro a0 I r h
  unfold f267 at h
  refine go_ops aMi267 2 _ (f1 := (2, ([(0, .ref a0)], [.int (0 : Int32), .ref a0]))) rfl ?_
  obtain ⟨I2_1, hxI2_1, h⟩ := Option.bind_eq_some_iff.mp h
  refine gg_pI aMi267 rfl rfl rfl rfl (by decide) hxI2_1 ?_
  refine go_ops aMi267 1 _ (f1 := (6, ([(0, .ref a0)], [.ref a0]))) rfl ?_
  obtain ⟨x6_2, hxx6_2, h⟩ := Option.bind_eq_some_iff.mp h
  refine gg_gI aMi267 rfl rfl rfl hxx6_2 ?_
  cases h
  exact go_ret aMi267 rfl aRetI ⟨rfl, rfl⟩
-- KernelGymModel.steps ()I
def f268 (kad : Nat → Nat) (N : Nat) (Z : AZ) (a0 : Nat) (I : AI) : Option (Int32 × AI) :=
  (pI Z I 11 0 a0 (0 : Int32)).bind fun I2_1 =>
  (gI Z I2_1 11 38 a0).bind fun x6_2 =>
  some (x6_2, I2_1)
set_option maxRecDepth 20000 in
theorem Tf268 {kad : Nat → Nat} {N : Nat} {Z : AZ} {d : Nat} {t : Option Nat × (Nat × Nat)} (hd : 0 ≤ d) : ∀ (a0 : Nat) (I : AI) (r : Int32 × AI), f268 kad N Z a0 I = some r → aGo kad d 268 (0, ([(0, .ref a0)], [])) (aMem Z I, t) (qI Z t r) := by
  intro a0 I r h
  unfold f268 at h
  refine go_ops aMi268 2 _ (f1 := (2, ([(0, .ref a0)], [.int (0 : Int32), .ref a0]))) rfl ?_
  obtain ⟨I2_1, hxI2_1, h⟩ := Option.bind_eq_some_iff.mp h
  refine gg_pI aMi268 rfl rfl rfl rfl (by decide) hxI2_1 ?_
  refine go_ops aMi268 1 _ (f1 := (6, ([(0, .ref a0)], [.ref a0]))) rfl ?_
  obtain ⟨x6_2, hxx6_2, h⟩ := Option.bind_eq_some_iff.mp h
  refine gg_gI aMi268 rfl rfl rfl hxx6_2 ?_
  cases h
  exact go_ret aMi268 rfl aRetI ⟨rfl, rfl⟩
-- KernelGymModel.kept ()I
def f269 (kad : Nat → Nat) (N : Nat) (Z : AZ) (a0 : Nat) (I : AI) : Option (Int32 × AI) :=
  (pI Z I 11 0 a0 (0 : Int32)).bind fun I2_1 =>
  (gI Z I2_1 11 40 a0).bind fun x6_2 =>
  some (x6_2, I2_1)
set_option maxRecDepth 20000 in
theorem Tf269 {kad : Nat → Nat} {N : Nat} {Z : AZ} {d : Nat} {t : Option Nat × (Nat × Nat)} (hd : 0 ≤ d) : ∀ (a0 : Nat) (I : AI) (r : Int32 × AI), f269 kad N Z a0 I = some r → aGo kad d 269 (0, ([(0, .ref a0)], [])) (aMem Z I, t) (qI Z t r) := by
  intro a0 I r h
  unfold f269 at h
  refine go_ops aMi269 2 _ (f1 := (2, ([(0, .ref a0)], [.int (0 : Int32), .ref a0]))) rfl ?_
  obtain ⟨I2_1, hxI2_1, h⟩ := Option.bind_eq_some_iff.mp h
  refine gg_pI aMi269 rfl rfl rfl rfl (by decide) hxI2_1 ?_
  refine go_ops aMi269 1 _ (f1 := (6, ([(0, .ref a0)], [.ref a0]))) rfl ?_
  obtain ⟨x6_2, hxx6_2, h⟩ := Option.bind_eq_some_iff.mp h
  refine gg_gI aMi269 rfl rfl rfl hxx6_2 ?_
  cases h
  exact go_ret aMi269 rfl aRetI ⟨rfl, rfl⟩
-- KernelGymModel.counter ()I
def f270 (kad : Nat → Nat) (N : Nat) (Z : AZ) (a0 : Nat) (I : AI) : Option (Int32 × AI) :=
  (pI Z I 11 0 a0 (0 : Int32)).bind fun I2_1 =>
  (gI Z I2_1 11 27 a0).bind fun x6_2 =>
  some (x6_2, I2_1)
set_option maxRecDepth 20000 in
theorem Tf270 {kad : Nat → Nat} {N : Nat} {Z : AZ} {d : Nat} {t : Option Nat × (Nat × Nat)} (hd : 0 ≤ d) : ∀ (a0 : Nat) (I : AI) (r : Int32 × AI), f270 kad N Z a0 I = some r → aGo kad d 270 (0, ([(0, .ref a0)], [])) (aMem Z I, t) (qI Z t r) := by
  intro a0 I r h
  unfold f270 at h
  refine go_ops aMi270 2 _ (f1 := (2, ([(0, .ref a0)], [.int (0 : Int32), .ref a0]))) rfl ?_
  obtain ⟨I2_1, hxI2_1, h⟩ := Option.bind_eq_some_iff.mp h
  refine gg_pI aMi270 rfl rfl rfl rfl (by decide) hxI2_1 ?_
  refine go_ops aMi270 1 _ (f1 := (6, ([(0, .ref a0)], [.ref a0]))) rfl ?_
  obtain ⟨x6_2, hxx6_2, h⟩ := Option.bind_eq_some_iff.mp h
  refine gg_gI aMi270 rfl rfl rfl hxx6_2 ?_
  cases h
  exact go_ret aMi270 rfl aRetI ⟨rfl, rfl⟩
-- KernelGymModel.stack ()I
def f271 (kad : Nat → Nat) (N : Nat) (Z : AZ) (a0 : Nat) (I : AI) : Option (Int32 × AI) :=
  (pI Z I 11 0 a0 (0 : Int32)).bind fun I2_1 =>
  (gI Z I2_1 11 28 a0).bind fun x6_2 =>
  some (x6_2, I2_1)
set_option maxRecDepth 20000 in
theorem Tf271 {kad : Nat → Nat} {N : Nat} {Z : AZ} {d : Nat} {t : Option Nat × (Nat × Nat)} (hd : 0 ≤ d) : ∀ (a0 : Nat) (I : AI) (r : Int32 × AI), f271 kad N Z a0 I = some r → aGo kad d 271 (0, ([(0, .ref a0)], [])) (aMem Z I, t) (qI Z t r) := by
  intro a0 I r h
  unfold f271 at h
  refine go_ops aMi271 2 _ (f1 := (2, ([(0, .ref a0)], [.int (0 : Int32), .ref a0]))) rfl ?_
  obtain ⟨I2_1, hxI2_1, h⟩ := Option.bind_eq_some_iff.mp h
  refine gg_pI aMi271 rfl rfl rfl rfl (by decide) hxI2_1 ?_
  refine go_ops aMi271 1 _ (f1 := (6, ([(0, .ref a0)], [.ref a0]))) rfl ?_
  obtain ⟨x6_2, hxx6_2, h⟩ := Option.bind_eq_some_iff.mp h
  refine gg_gI aMi271 rfl rfl rfl hxx6_2 ?_
  cases h
  exact go_ret aMi271 rfl aRetI ⟨rfl, rfl⟩
-- KernelGymModel.flagsOf ()I
def f272_b65 (kad : Nat → Nat) (N : Nat) (Z : AZ) (s0 : Int32) (s1 : Int32) (I : AI) : Option (Int32 × AI) :=
  some ((s1 + s0), I)
set_option maxRecDepth 20000 in
theorem Tf272_b65 {kad : Nat → Nat} {N : Nat} {Z : AZ} {d : Nat} {t : Option Nat × (Nat × Nat)} (hd : 0 ≤ d) : ∀ (s0 : Int32) (s1 : Int32) (I : AI) (r : Int32 × AI), f272_b65 kad N Z s0 s1 I = some r → aGo kad d 272 (65, ([], [.int s0, .int s1])) (aMem Z I, t) (qI Z t r) := by
  intro s0 s1 I r h
  unfold f272_b65 at h
  refine go_ops aMi272 1 _ (f1 := (66, ([], [.int (s1 + s0)]))) rfl ?_
  cases h
  exact go_ret aMi272 rfl aRetI ⟨rfl, rfl⟩
def f272_b51 (kad : Nat → Nat) (N : Nat) (Z : AZ) (a0 : Nat) (s0 : Int32) (s1 : Int32) (I : AI) : Option (Int32 × AI) :=
  (gI Z I 11 33 a0).bind fun x53_1 =>
  if x53_1 = 0 then
    f272_b65 kad N Z (0 : Int32) (s1 + s0) I
  else
    f272_b65 kad N Z (16 : Int32) (s1 + s0) I
set_option maxRecDepth 20000 in
theorem Tf272_b51 {kad : Nat → Nat} {N : Nat} {Z : AZ} {d : Nat} {t : Option Nat × (Nat × Nat)} (hd : 0 ≤ d) : ∀ (a0 : Nat) (s0 : Int32) (s1 : Int32) (I : AI) (r : Int32 × AI), f272_b51 kad N Z a0 s0 s1 I = some r → aGo kad d 272 (51, ([(0, .ref a0)], [.int s0, .int s1])) (aMem Z I, t) (qI Z t r) := by
  intro a0 s0 s1 I r h
  unfold f272_b51 at h
  refine go_ops aMi272 2 _ (f1 := (53, ([(0, .ref a0)], [.ref a0, .int (s1 + s0)]))) rfl ?_
  obtain ⟨x53_1, hxx53_1, h⟩ := Option.bind_eq_some_iff.mp h
  refine gg_gI aMi272 rfl rfl rfl hxx53_1 ?_
  refine gg_br (b := decide (x53_1 = 0)) (tg := 64) (off := 8) aMi272 rfl rfl rfl rfl (fun hb => ?_) (fun hb => ?_)
  · rw [if_pos (of_decide_eq_true hb)] at h
    refine go_ops aMi272 1 _ (f1 := (65, ([(0, .ref a0)], [.int (0 : Int32), .int (s1 + s0)]))) rfl ?_
    refine go_le (lv1 := []) (aLe_of (show (List.map (fun q => q.1) ([] : ALv)).Nodup from (by show ([] : List Nat).Nodup; decide)) aSubL_nil) ?_
    exact Tf272_b65 hd (0 : Int32) (s1 + s0) I _ h
  · rw [if_neg (of_decide_eq_false hb)] at h
    refine go_ops aMi272 2 _ (f1 := (65, ([(0, .ref a0)], [.int (16 : Int32), .int (s1 + s0)]))) rfl ?_
    refine go_le (lv1 := []) (aLe_of (show (List.map (fun q => q.1) ([] : ALv)).Nodup from (by show ([] : List Nat).Nodup; decide)) aSubL_nil) ?_
    exact Tf272_b65 hd (16 : Int32) (s1 + s0) I _ h
def f272_b37 (kad : Nat → Nat) (N : Nat) (Z : AZ) (a0 : Nat) (s0 : Int32) (s1 : Int32) (I : AI) : Option (Int32 × AI) :=
  (gI Z I 11 32 a0).bind fun x39_1 =>
  if x39_1 = 0 then
    f272_b51 kad N Z a0 (0 : Int32) (s1 + s0) I
  else
    f272_b51 kad N Z a0 (8 : Int32) (s1 + s0) I
set_option maxRecDepth 20000 in
theorem Tf272_b37 {kad : Nat → Nat} {N : Nat} {Z : AZ} {d : Nat} {t : Option Nat × (Nat × Nat)} (hd : 0 ≤ d) : ∀ (a0 : Nat) (s0 : Int32) (s1 : Int32) (I : AI) (r : Int32 × AI), f272_b37 kad N Z a0 s0 s1 I = some r → aGo kad d 272 (37, ([(0, .ref a0)], [.int s0, .int s1])) (aMem Z I, t) (qI Z t r) := by
  intro a0 s0 s1 I r h
  unfold f272_b37 at h
  refine go_ops aMi272 2 _ (f1 := (39, ([(0, .ref a0)], [.ref a0, .int (s1 + s0)]))) rfl ?_
  obtain ⟨x39_1, hxx39_1, h⟩ := Option.bind_eq_some_iff.mp h
  refine gg_gI aMi272 rfl rfl rfl hxx39_1 ?_
  refine gg_br (b := decide (x39_1 = 0)) (tg := 50) (off := 8) aMi272 rfl rfl rfl rfl (fun hb => ?_) (fun hb => ?_)
  · rw [if_pos (of_decide_eq_true hb)] at h
    refine go_ops aMi272 1 _ (f1 := (51, ([(0, .ref a0)], [.int (0 : Int32), .int (s1 + s0)]))) rfl ?_
    exact Tf272_b51 hd a0 (0 : Int32) (s1 + s0) I _ h
  · rw [if_neg (of_decide_eq_false hb)] at h
    refine go_ops aMi272 2 _ (f1 := (51, ([(0, .ref a0)], [.int (8 : Int32), .int (s1 + s0)]))) rfl ?_
    exact Tf272_b51 hd a0 (8 : Int32) (s1 + s0) I _ h
def f272_b24 (kad : Nat → Nat) (N : Nat) (Z : AZ) (a0 : Nat) (s0 : Int32) (s1 : Int32) (I : AI) : Option (Int32 × AI) :=
  (gI Z I 11 31 a0).bind fun x26_1 =>
  if x26_1 = 0 then
    f272_b37 kad N Z a0 (0 : Int32) (s1 + s0) I
  else
    f272_b37 kad N Z a0 (4 : Int32) (s1 + s0) I
set_option maxRecDepth 20000 in
theorem Tf272_b24 {kad : Nat → Nat} {N : Nat} {Z : AZ} {d : Nat} {t : Option Nat × (Nat × Nat)} (hd : 0 ≤ d) : ∀ (a0 : Nat) (s0 : Int32) (s1 : Int32) (I : AI) (r : Int32 × AI), f272_b24 kad N Z a0 s0 s1 I = some r → aGo kad d 272 (24, ([(0, .ref a0)], [.int s0, .int s1])) (aMem Z I, t) (qI Z t r) := by
  intro a0 s0 s1 I r h
  unfold f272_b24 at h
  refine go_ops aMi272 2 _ (f1 := (26, ([(0, .ref a0)], [.ref a0, .int (s1 + s0)]))) rfl ?_
  obtain ⟨x26_1, hxx26_1, h⟩ := Option.bind_eq_some_iff.mp h
  refine gg_gI aMi272 rfl rfl rfl hxx26_1 ?_
  refine gg_br (b := decide (x26_1 = 0)) (tg := 36) (off := 7) aMi272 rfl rfl rfl rfl (fun hb => ?_) (fun hb => ?_)
  · rw [if_pos (of_decide_eq_true hb)] at h
    refine go_ops aMi272 1 _ (f1 := (37, ([(0, .ref a0)], [.int (0 : Int32), .int (s1 + s0)]))) rfl ?_
    exact Tf272_b37 hd a0 (0 : Int32) (s1 + s0) I _ h
  · rw [if_neg (of_decide_eq_false hb)] at h
    refine go_ops aMi272 2 _ (f1 := (37, ([(0, .ref a0)], [.int (4 : Int32), .int (s1 + s0)]))) rfl ?_
    exact Tf272_b37 hd a0 (4 : Int32) (s1 + s0) I _ h
def f272_b12 (kad : Nat → Nat) (N : Nat) (Z : AZ) (a0 : Nat) (s0 : Int32) (I : AI) : Option (Int32 × AI) :=
  (gI Z I 11 30 a0).bind fun x13_1 =>
  if x13_1 = 0 then
    f272_b24 kad N Z a0 (0 : Int32) s0 I
  else
    f272_b24 kad N Z a0 (2 : Int32) s0 I
set_option maxRecDepth 20000 in
theorem Tf272_b12 {kad : Nat → Nat} {N : Nat} {Z : AZ} {d : Nat} {t : Option Nat × (Nat × Nat)} (hd : 0 ≤ d) : ∀ (a0 : Nat) (s0 : Int32) (I : AI) (r : Int32 × AI), f272_b12 kad N Z a0 s0 I = some r → aGo kad d 272 (12, ([(0, .ref a0)], [.int s0])) (aMem Z I, t) (qI Z t r) := by
  intro a0 s0 I r h
  unfold f272_b12 at h
  refine go_ops aMi272 1 _ (f1 := (13, ([(0, .ref a0)], [.ref a0, .int s0]))) rfl ?_
  obtain ⟨x13_1, hxx13_1, h⟩ := Option.bind_eq_some_iff.mp h
  refine gg_gI aMi272 rfl rfl rfl hxx13_1 ?_
  refine gg_br (b := decide (x13_1 = 0)) (tg := 23) (off := 7) aMi272 rfl rfl rfl rfl (fun hb => ?_) (fun hb => ?_)
  · rw [if_pos (of_decide_eq_true hb)] at h
    refine go_ops aMi272 1 _ (f1 := (24, ([(0, .ref a0)], [.int (0 : Int32), .int s0]))) rfl ?_
    exact Tf272_b24 hd a0 (0 : Int32) s0 I _ h
  · rw [if_neg (of_decide_eq_false hb)] at h
    refine go_ops aMi272 2 _ (f1 := (24, ([(0, .ref a0)], [.int (2 : Int32), .int s0]))) rfl ?_
    exact Tf272_b24 hd a0 (2 : Int32) s0 I _ h
def f272 (kad : Nat → Nat) (N : Nat) (Z : AZ) (a0 : Nat) (I : AI) : Option (Int32 × AI) :=
  (gI Z I 11 29 a0).bind fun x1_1 =>
  if x1_1 = 0 then
    f272_b12 kad N Z a0 (0 : Int32) I
  else
    f272_b12 kad N Z a0 (1 : Int32) I
set_option maxRecDepth 20000 in
theorem Tf272 {kad : Nat → Nat} {N : Nat} {Z : AZ} {d : Nat} {t : Option Nat × (Nat × Nat)} (hd : 0 ≤ d) : ∀ (a0 : Nat) (I : AI) (r : Int32 × AI), f272 kad N Z a0 I = some r → aGo kad d 272 (0, ([(0, .ref a0)], [])) (aMem Z I, t) (qI Z t r) := by
  intro a0 I r h
  unfold f272 at h
  refine go_ops aMi272 1 _ (f1 := (1, ([(0, .ref a0)], [.ref a0]))) rfl ?_
  obtain ⟨x1_1, hxx1_1, h⟩ := Option.bind_eq_some_iff.mp h
  refine gg_gI aMi272 rfl rfl rfl hxx1_1 ?_
  refine gg_br (b := decide (x1_1 = 0)) (tg := 11) (off := 7) aMi272 rfl rfl rfl rfl (fun hb => ?_) (fun hb => ?_)
  · rw [if_pos (of_decide_eq_true hb)] at h
    refine go_ops aMi272 1 _ (f1 := (12, ([(0, .ref a0)], [.int (0 : Int32)]))) rfl ?_
    exact Tf272_b12 hd a0 (0 : Int32) I _ h
  · rw [if_neg (of_decide_eq_false hb)] at h
    refine go_ops aMi272 2 _ (f1 := (12, ([(0, .ref a0)], [.int (1 : Int32)]))) rfl ?_
    exact Tf272_b12 hd a0 (1 : Int32) I _ h
