-- KernelGym$Assembler.goThroughMacro (II)I
def f9_b9 (kad : Nat → Nat) (N : Nat) (Z : AZ) (rc : Nat → Int32 → Int32 → Int32 → Int32 → AI → Option (Int32 × AI)) (a0 : Nat) (I : AI) : Option (Int32 × AI) :=
  some ((0 : Int32), I)
set_option maxRecDepth 20000 in
theorem Tf9_b9 {kad : Nat → Nat} {N : Nat} {Z : AZ} {d : Nat} {t : Option Nat × (Nat × Nat)} (hd : 1 ≤ d) {rc : Nat → Int32 → Int32 → Int32 → Int32 → AI → Option (Int32 × AI)} (hrc : ∀ a (ha : sh0 kad Z a) i j k m I r, rc a i j k m I = some r → aEv kad (d - 1) 8 [.ref a, .int i, .int j, .int k, .int m] (aMem Z I, t) (qI Z t r)) : ∀ (a0 : Nat) (ha0 : sh0 kad Z a0) (I : AI) (r : Int32 × AI), f9_b9 kad N Z rc a0 I = some r → aGo kad d 9 (9, ([], [])) (aMem Z I, t) (qI Z t r) := by
  intro a0 ha0 I r h
  unfold f9_b9 at h
  refine go_ops aMi9 1 _ (f1 := (10, ([], [.int (0 : Int32)]))) rfl ?_
  cases h
  exact go_ret aMi9 rfl aRetI ⟨rfl, rfl⟩
def f9_e (kad : Nat → Nat) (N : Nat) (Z : AZ) (rc : Nat → Int32 → Int32 → Int32 → Int32 → AI → Option (Int32 × AI)) (a0 : Nat) (i1 : Int32) (i2 : Int32) (I : AI) : Option (Int32 × AI) :=
  if i1 < 0 then
    f9_b9 kad N Z rc a0 I
  else
    if i1 < (5 : Int32) then
      (wI I a0 14 ((I a0 14) + (1 : Int32))).bind fun I18_1 =>
      (ixA 5 i1).bind fun j27_3 =>
      (wB I18_1 (a0 + 5) j27_3 (1 : Int32)).bind fun I27_2 =>
      (ixA 5 i1).bind fun j34_4 =>
      (ixA 5 i1).bind fun j42_5 =>
      (rc a0 ((I27_2 (a0 + 3) j34_4) + (1 : Int32)) (I27_2 (a0 + 4) j42_5) (I27_2 a0 14) (i2 + (1 : Int32)) I27_2).bind fun r50_6 =>
      (ixA 5 i1).bind fun j60_8 =>
      (wB r50_6.2 (a0 + 5) j60_8 (0 : Int32)).bind fun I60_7 =>
      some (r50_6.1, I60_7)
    else
      f9_b9 kad N Z rc a0 I
set_option maxRecDepth 20000 in
theorem Tf9_e {kad : Nat → Nat} {N : Nat} {Z : AZ} {d : Nat} {t : Option Nat × (Nat × Nat)} (hd : 1 ≤ d) {rc : Nat → Int32 → Int32 → Int32 → Int32 → AI → Option (Int32 × AI)} (hrc : ∀ a (ha : sh0 kad Z a) i j k m I r, rc a i j k m I = some r → aEv kad (d - 1) 8 [.ref a, .int i, .int j, .int k, .int m] (aMem Z I, t) (qI Z t r)) : ∀ (a0 : Nat) (ha0 : sh0 kad Z a0) (i1 : Int32) (i2 : Int32) (I : AI) (r : Int32 × AI), f9_e kad N Z rc a0 i1 i2 I = some r → aGo kad d 9 (0, ([(0, .ref a0), (1, .int i1), (2, .int i2)], [])) (aMem Z I, t) (qI Z t r) := by
  intro a0 ha0 i1 i2 I r h
  unfold f9_e at h
  refine go_ops aMi9 1 _ (f1 := (1, ([(0, .ref a0), (1, .int i1), (2, .int i2)], [.int i1]))) rfl ?_
  refine gg_br (b := decide (i1 < 0)) (tg := 9) (off := 8) aMi9 rfl rfl rfl rfl (fun hb => ?_) (fun hb => ?_)
  · rw [if_pos (of_decide_eq_true hb)] at h
    refine go_le (lv1 := []) (aLe_of (show (List.map (fun q => q.1) ([] : ALv)).Nodup from (by show ([] : List Nat).Nodup; decide)) aSubL_nil) ?_
    exact Tf9_b9 hd hrc a0 ha0 I _ h
  · rw [if_neg (of_decide_eq_false hb)] at h
    refine go_ops aMi9 2 _ (f1 := (6, ([(0, .ref a0), (1, .int i1), (2, .int i2)], [.int (5 : Int32), .int i1]))) rfl ?_
    refine gg_br (b := decide (i1 < (5 : Int32))) (tg := 11) (off := 5) aMi9 rfl rfl rfl rfl (fun hb => ?_) (fun hb => ?_)
    · rw [if_pos (of_decide_eq_true hb)] at h
      refine go_ops aMi9 2 _ (f1 := (13, ([(0, .ref a0), (1, .int i1), (2, .int i2)], [.ref a0, .ref a0]))) rfl ?_
      refine gg_gI aMi9 rfl rfl rfl (gI_of (sh0_z ha0)) ?_
      refine go_ops aMi9 2 _ (f1 := (18, ([(0, .ref a0), (1, .int i1), (2, .int i2)], [.int ((I a0 14) + (1 : Int32)), .ref a0]))) rfl ?_
      obtain ⟨I18_1, hxI18_1, h⟩ := Option.bind_eq_some_iff.mp h
      refine gg_pI aMi9 rfl rfl rfl rfl (by decide) (pI_of (sh0_z ha0) hxI18_1) ?_
      refine go_ops aMi9 1 _ (f1 := (22, ([(0, .ref a0), (1, .int i1), (2, .int i2)], [.ref a0]))) rfl ?_
      refine gg_gR (b := (a0 + 5)) aMi9 rfl rfl rfl (gR_of (sh0_z ha0) (sh0_r5 ha0)) ?_
      refine go_ops aMi9 2 _ (f1 := (27, ([(0, .ref a0), (1, .int i1), (2, .int i2)], [.int (1 : Int32), .int i1, .ref (a0 + 5)]))) rfl ?_
      obtain ⟨j27_3, hxj27_3, h⟩ := Option.bind_eq_some_iff.mp h
      obtain ⟨I27_2, hxI27_2, h⟩ := Option.bind_eq_some_iff.mp h
      refine gg_sI (Or.inr ⟨rfl, rfl⟩) aMi9 rfl (sB_of (sh0_a5 ha0) hxj27_3 hxI27_2) ?_
      refine go_ops aMi9 2 _ (f1 := (30, ([(0, .ref a0), (1, .int i1), (2, .int i2)], [.ref a0, .ref a0]))) rfl ?_
      refine gg_gR (b := (a0 + 3)) aMi9 rfl rfl rfl (gR_of (sh0_z ha0) (sh0_r3 ha0)) ?_
      refine go_ops aMi9 1 _ (f1 := (34, ([(0, .ref a0), (1, .int i1), (2, .int i2)], [.int i1, .ref (a0 + 3), .ref a0]))) rfl ?_
      obtain ⟨j34_4, hxj34_4, h⟩ := Option.bind_eq_some_iff.mp h
      refine gg_lI (Or.inl ⟨rfl, rfl⟩) aMi9 rfl (lI_of (sh0_a3 ha0) hxj34_4) ?_
      refine go_ops aMi9 3 _ (f1 := (38, ([(0, .ref a0), (1, .int i1), (2, .int i2)], [.ref a0, .int ((I27_2 (a0 + 3) j34_4) + (1 : Int32)), .ref a0]))) rfl ?_
      refine gg_gR (b := (a0 + 4)) aMi9 rfl rfl rfl (gR_of (sh0_z ha0) (sh0_r4 ha0)) ?_
      refine go_ops aMi9 1 _ (f1 := (42, ([(0, .ref a0), (1, .int i1), (2, .int i2)], [.int i1, .ref (a0 + 4), .int ((I27_2 (a0 + 3) j34_4) + (1 : Int32)), .ref a0]))) rfl ?_
      obtain ⟨j42_5, hxj42_5, h⟩ := Option.bind_eq_some_iff.mp h
      refine gg_lI (Or.inl ⟨rfl, rfl⟩) aMi9 rfl (lI_of (sh0_a4 ha0) hxj42_5) ?_
      refine go_ops aMi9 1 _ (f1 := (44, ([(0, .ref a0), (1, .int i1), (2, .int i2)], [.ref a0, .int (I27_2 (a0 + 4) j42_5), .int ((I27_2 (a0 + 3) j34_4) + (1 : Int32)), .ref a0]))) rfl ?_
      refine gg_gI aMi9 rfl rfl rfl (gI_of (sh0_z ha0)) ?_
      refine go_ops aMi9 3 _ (f1 := (50, ([(0, .ref a0), (1, .int i1), (2, .int i2)], [.int (i2 + (1 : Int32)), .int (I27_2 a0 14), .int (I27_2 (a0 + 4) j42_5), .int ((I27_2 (a0 + 3) j34_4) + (1 : Int32)), .ref a0]))) rfl ?_
      obtain ⟨r50_6, hxr50_6, h⟩ := Option.bind_eq_some_iff.mp h
      refine gg_cv (as := [.int ((I27_2 (a0 + 3) j34_4) + (1 : Int32)), .int (I27_2 (a0 + 4) j42_5), .int (I27_2 a0 14), .int (i2 + (1 : Int32))]) (r := []) aMi9 rfl rfl rfl aMi8 (Nat.le_of_ble_eq_true rfl) rfl (Nat.le_of_ble_eq_true rfl) (Nat.le_of_ble_eq_true rfl) (by omega) (isK_of (sh0_z ha0)) (hrc a0 ha0 ((I27_2 (a0 + 3) j34_4) + (1 : Int32)) (I27_2 (a0 + 4) j42_5) (I27_2 a0 14) (i2 + (1 : Int32)) I27_2 _ hxr50_6) ?_
      show aGo kad d 9 (53, ([(0, .ref a0), (1, .int i1), (2, .int i2)], [.int r50_6.1])) (aMem Z r50_6.2, t) _
      refine go_ops aMi9 2 _ (f1 := (55, ([(3, .int r50_6.1), (0, .ref a0), (1, .int i1), (2, .int i2)], [.ref a0]))) rfl ?_
      refine gg_gR (b := (a0 + 5)) aMi9 rfl rfl rfl (gR_of (sh0_z ha0) (sh0_r5 ha0)) ?_
      refine go_ops aMi9 2 _ (f1 := (60, ([(3, .int r50_6.1), (0, .ref a0), (1, .int i1), (2, .int i2)], [.int (0 : Int32), .int i1, .ref (a0 + 5)]))) rfl ?_
      obtain ⟨j60_8, hxj60_8, h⟩ := Option.bind_eq_some_iff.mp h
      obtain ⟨I60_7, hxI60_7, h⟩ := Option.bind_eq_some_iff.mp h
      refine gg_sI (Or.inr ⟨rfl, rfl⟩) aMi9 rfl (sB_of (sh0_a5 ha0) hxj60_8 hxI60_7) ?_
      refine go_ops aMi9 1 _ (f1 := (62, ([(3, .int r50_6.1), (0, .ref a0), (1, .int i1), (2, .int i2)], [.int r50_6.1]))) rfl ?_
      cases h
      exact go_ret aMi9 rfl aRetI ⟨rfl, rfl⟩
    · rw [if_neg (of_decide_eq_false hb)] at h
      refine go_le (lv1 := []) (aLe_of (show (List.map (fun q => q.1) ([] : ALv)).Nodup from (by show ([] : List Nat).Nodup; decide)) aSubL_nil) ?_
      exact Tf9_b9 hd hrc a0 ha0 I _ h
-- KernelGym$Assembler.goThrough (IIII)I
def f8_b147 (kad : Nat → Nat) (N : Nat) (Z : AZ) (rc : Nat → Int32 → Int32 → Int32 → Int32 → AI → Option (Int32 × AI)) (k7 : Nat → Int32 → Int32 → Int32 → Int32 → AI → Option (Int32 × AI)) (a0 : Nat) (i2 : Int32) (i3 : Int32) (i4 : Int32) (i5 : Int32) (I : AI) : Option (Int32 × AI) :=
  k7 a0 i2 i3 i4 (i5 + (1 : Int32)) I
set_option maxRecDepth 20000 in
theorem Tf8_b147 {kad : Nat → Nat} {N : Nat} {Z : AZ} {d : Nat} {t : Option Nat × (Nat × Nat)} (hd : 4 ≤ d) {rc : Nat → Int32 → Int32 → Int32 → Int32 → AI → Option (Int32 × AI)} (hrc : ∀ a (ha : sh0 kad Z a) i j k m I r, rc a i j k m I = some r → aEv kad (d - 2) 8 [.ref a, .int i, .int j, .int k, .int m] (aMem Z I, t) (qI Z t r)) (k7 : Nat → Int32 → Int32 → Int32 → Int32 → AI → Option (Int32 × AI))  (hk7 : ∀ (a0 : Nat) (ha0 : sh0 kad Z a0) (i2 : Int32) (i3 : Int32) (i4 : Int32) (i5 : Int32) (I : AI) (r : Int32 × AI), k7 a0 i2 i3 i4 i5 I = some r → aGo kad d 8 (7, ([(0, .ref a0), (2, .int i2), (3, .int i3), (4, .int i4), (5, .int i5)], [])) (aMem Z I, t) (qI Z t r)) : ∀ (a0 : Nat) (ha0 : sh0 kad Z a0) (i2 : Int32) (i3 : Int32) (i4 : Int32) (i5 : Int32) (I : AI) (r : Int32 × AI), f8_b147 kad N Z rc k7 a0 i2 i3 i4 i5 I = some r → aGo kad d 8 (147, ([(0, .ref a0), (2, .int i2), (3, .int i3), (4, .int i4), (5, .int i5)], [])) (aMem Z I, t) (qI Z t r) := by
  intro a0 ha0 i2 i3 i4 i5 I r h
  unfold f8_b147 at h
  refine go_ops aMi8 2 _ (f1 := (7, ([(5, .int (i5 + (1 : Int32))), (0, .ref a0), (2, .int i2), (3, .int i3), (4, .int i4)], []))) rfl ?_
  refine go_le (lv1 := [(0, .ref a0), (2, .int i2), (3, .int i3), (4, .int i4), (5, .int (i5 + (1 : Int32)))]) (aLe_of (show (List.map (fun q => q.1) ([(0, .ref a0), (2, .int i2), (3, .int i3), (4, .int i4), (5, .int (i5 + (1 : Int32)))] : ALv)).Nodup from (by show ([0, 2, 3, 4, 5] : List Nat).Nodup; decide)) (aSubL_cons rfl (aSubL_cons rfl (aSubL_cons rfl (aSubL_cons rfl (aSubL_cons rfl aSubL_nil)))))) ?_
  exact hk7 a0 ha0 i2 i3 i4 (i5 + (1 : Int32)) I _ h
def f8_b94 (kad : Nat → Nat) (N : Nat) (Z : AZ) (rc : Nat → Int32 → Int32 → Int32 → Int32 → AI → Option (Int32 × AI)) (k7 : Nat → Int32 → Int32 → Int32 → Int32 → AI → Option (Int32 × AI)) (a0 : Nat) (i2 : Int32) (i3 : Int32) (i4 : Int32) (i5 : Int32) (b6 : Nat) (i7 : Int32) (I : AI) : Option (Int32 × AI) :=
  if i7 = 0 then
    if ¬ (kad (dzo (I b6 0))) = (kad 6) then
      f8_b147 kad N Z rc k7 a0 i2 i3 i4 i5 I
    else
      if (I b6 1) < 0 then
        f8_b147 kad N Z rc k7 a0 i2 i3 i4 i5 I
      else
        if (5 : Int32) ≤ (I b6 1) then
          f8_b147 kad N Z rc k7 a0 i2 i3 i4 i5 I
        else
          (ixA 5 (I b6 1)).bind fun j141_1 =>
          f8_b147 kad N Z rc k7 a0 i2 i3 i4 (if i5 < (I (a0 + 4) j141_1) then (I (a0 + 4) j141_1) else i5) I
  else
    some (i7, I)
set_option maxRecDepth 20000 in
theorem Tf8_b94 {kad : Nat → Nat} {N : Nat} {Z : AZ} {d : Nat} {t : Option Nat × (Nat × Nat)} (hd : 4 ≤ d) {rc : Nat → Int32 → Int32 → Int32 → Int32 → AI → Option (Int32 × AI)} (hrc : ∀ a (ha : sh0 kad Z a) i j k m I r, rc a i j k m I = some r → aEv kad (d - 2) 8 [.ref a, .int i, .int j, .int k, .int m] (aMem Z I, t) (qI Z t r)) (k7 : Nat → Int32 → Int32 → Int32 → Int32 → AI → Option (Int32 × AI))  (hk7 : ∀ (a0 : Nat) (ha0 : sh0 kad Z a0) (i2 : Int32) (i3 : Int32) (i4 : Int32) (i5 : Int32) (I : AI) (r : Int32 × AI), k7 a0 i2 i3 i4 i5 I = some r → aGo kad d 8 (7, ([(0, .ref a0), (2, .int i2), (3, .int i3), (4, .int i4), (5, .int i5)], [])) (aMem Z I, t) (qI Z t r)) : ∀ (a0 : Nat) (ha0 : sh0 kad Z a0) (i2 : Int32) (i3 : Int32) (i4 : Int32) (i5 : Int32) (b6 : Nat) (hb6 : sh7 kad Z b6) (i7 : Int32) (I : AI) (r : Int32 × AI), f8_b94 kad N Z rc k7 a0 i2 i3 i4 i5 b6 i7 I = some r → aGo kad d 8 (94, ([(0, .ref a0), (2, .int i2), (3, .int i3), (4, .int i4), (5, .int i5), (6, .ref b6), (7, .int i7)], [])) (aMem Z I, t) (qI Z t r) := by
  intro a0 ha0 i2 i3 i4 i5 b6 hb6 i7 I r h
  unfold f8_b94 at h
  refine go_ops aMi8 1 _ (f1 := (96, ([(0, .ref a0), (2, .int i2), (3, .int i3), (4, .int i4), (5, .int i5), (6, .ref b6), (7, .int i7)], [.int i7]))) rfl ?_
  refine gg_br (b := decide (i7 = 0)) (tg := 102) (off := 6) aMi8 rfl rfl rfl rfl (fun hb => ?_) (fun hb => ?_)
  · rw [if_pos (of_decide_eq_true hb)] at h
    refine go_ops aMi8 1 _ (f1 := (104, ([(0, .ref a0), (2, .int i2), (3, .int i3), (4, .int i4), (5, .int i5), (6, .ref b6), (7, .int i7)], [.ref b6]))) rfl ?_
    refine gg_gR (b := (kad (dzo (I b6 0)))) aMi8 rfl rfl rfl (gR_of2 (sh7_z hb6) (sh7_d hb6 _)) ?_
    refine gg_gs aMi8 rfl rfl ?_
    refine gg_br (b := decide (¬ (kad (dzo (I b6 0))) = (kad 6))) (tg := 147) (off := 37) aMi8 rfl rfl rfl rfl (fun hb => ?_) (fun hb => ?_)
    · rw [if_pos (of_decide_eq_true hb)] at h
      refine go_le (lv1 := [(0, .ref a0), (2, .int i2), (3, .int i3), (4, .int i4), (5, .int i5)]) (aLe_of (show (List.map (fun q => q.1) ([(0, .ref a0), (2, .int i2), (3, .int i3), (4, .int i4), (5, .int i5)] : ALv)).Nodup from (by show ([0, 2, 3, 4, 5] : List Nat).Nodup; decide)) (aSubL_cons rfl (aSubL_cons rfl (aSubL_cons rfl (aSubL_cons rfl (aSubL_cons rfl aSubL_nil)))))) ?_
      exact Tf8_b147 hd hrc k7 hk7 a0 ha0 i2 i3 i4 i5 I _ h
    · rw [if_neg (of_decide_eq_false hb)] at h
      refine go_ops aMi8 1 _ (f1 := (115, ([(0, .ref a0), (2, .int i2), (3, .int i3), (4, .int i4), (5, .int i5), (6, .ref b6), (7, .int i7)], [.ref b6]))) rfl ?_
      refine gg_gI aMi8 rfl rfl rfl (gI_of (sh7_z hb6)) ?_
      refine gg_br (b := decide ((I b6 1) < 0)) (tg := 147) (off := 29) aMi8 rfl rfl rfl rfl (fun hb => ?_) (fun hb => ?_)
      · rw [if_pos (of_decide_eq_true hb)] at h
        refine go_le (lv1 := [(0, .ref a0), (2, .int i2), (3, .int i3), (4, .int i4), (5, .int i5)]) (aLe_of (show (List.map (fun q => q.1) ([(0, .ref a0), (2, .int i2), (3, .int i3), (4, .int i4), (5, .int i5)] : ALv)).Nodup from (by show ([0, 2, 3, 4, 5] : List Nat).Nodup; decide)) (aSubL_cons rfl (aSubL_cons rfl (aSubL_cons rfl (aSubL_cons rfl (aSubL_cons rfl aSubL_nil)))))) ?_
        exact Tf8_b147 hd hrc k7 hk7 a0 ha0 i2 i3 i4 i5 I _ h
      · rw [if_neg (of_decide_eq_false hb)] at h
        refine go_ops aMi8 1 _ (f1 := (123, ([(0, .ref a0), (2, .int i2), (3, .int i3), (4, .int i4), (5, .int i5), (6, .ref b6), (7, .int i7)], [.ref b6]))) rfl ?_
        refine gg_gI aMi8 rfl rfl rfl (gI_of (sh7_z hb6)) ?_
        refine go_ops aMi8 1 _ (f1 := (127, ([(0, .ref a0), (2, .int i2), (3, .int i3), (4, .int i4), (5, .int i5), (6, .ref b6), (7, .int i7)], [.int (5 : Int32), .int (I b6 1)]))) rfl ?_
        refine gg_br (b := decide ((5 : Int32) ≤ (I b6 1))) (tg := 147) (off := 20) aMi8 rfl rfl rfl rfl (fun hb => ?_) (fun hb => ?_)
        · rw [if_pos (of_decide_eq_true hb)] at h
          refine go_le (lv1 := [(0, .ref a0), (2, .int i2), (3, .int i3), (4, .int i4), (5, .int i5)]) (aLe_of (show (List.map (fun q => q.1) ([(0, .ref a0), (2, .int i2), (3, .int i3), (4, .int i4), (5, .int i5)] : ALv)).Nodup from (by show ([0, 2, 3, 4, 5] : List Nat).Nodup; decide)) (aSubL_cons rfl (aSubL_cons rfl (aSubL_cons rfl (aSubL_cons rfl (aSubL_cons rfl aSubL_nil)))))) ?_
          exact Tf8_b147 hd hrc k7 hk7 a0 ha0 i2 i3 i4 i5 I _ h
        · rw [if_neg (of_decide_eq_false hb)] at h
          refine go_ops aMi8 2 _ (f1 := (133, ([(0, .ref a0), (2, .int i2), (3, .int i3), (4, .int i4), (5, .int i5), (6, .ref b6), (7, .int i7)], [.ref a0, .int i5]))) rfl ?_
          refine gg_gR (b := (a0 + 4)) aMi8 rfl rfl rfl (gR_of (sh0_z ha0) (sh0_r4 ha0)) ?_
          refine go_ops aMi8 1 _ (f1 := (138, ([(0, .ref a0), (2, .int i2), (3, .int i3), (4, .int i4), (5, .int i5), (6, .ref b6), (7, .int i7)], [.ref b6, .ref (a0 + 4), .int i5]))) rfl ?_
          refine gg_gI aMi8 rfl rfl rfl (gI_of (sh7_z hb6)) ?_
          obtain ⟨j141_1, hxj141_1, h⟩ := Option.bind_eq_some_iff.mp h
          refine gg_lI (Or.inl ⟨rfl, rfl⟩) aMi8 rfl (lI_of (sh0_a4 ha0) hxj141_1) ?_
          refine gg_mx aMi8 rfl rfl (Nat.le_of_ble_eq_true rfl) ?_
          refine go_ops aMi8 1 _ (f1 := (147, ([(5, .int (if i5 < (I (a0 + 4) j141_1) then (I (a0 + 4) j141_1) else i5)), (0, .ref a0), (2, .int i2), (3, .int i3), (4, .int i4), (6, .ref b6), (7, .int i7)], []))) rfl ?_
          refine go_le (lv1 := [(0, .ref a0), (2, .int i2), (3, .int i3), (4, .int i4), (5, .int (if i5 < (I (a0 + 4) j141_1) then (I (a0 + 4) j141_1) else i5))]) (aLe_of (show (List.map (fun q => q.1) ([(0, .ref a0), (2, .int i2), (3, .int i3), (4, .int i4), (5, .int (if i5 < (I (a0 + 4) j141_1) then (I (a0 + 4) j141_1) else i5))] : ALv)).Nodup from (by show ([0, 2, 3, 4, 5] : List Nat).Nodup; decide)) (aSubL_cons rfl (aSubL_cons rfl (aSubL_cons rfl (aSubL_cons rfl (aSubL_cons rfl aSubL_nil)))))) ?_
          exact Tf8_b147 hd hrc k7 hk7 a0 ha0 i2 i3 i4 (if i5 < (I (a0 + 4) j141_1) then (I (a0 + 4) j141_1) else i5) I _ h
  · rw [if_neg (of_decide_eq_false hb)] at h
    refine go_ops aMi8 1 _ (f1 := (101, ([(0, .ref a0), (2, .int i2), (3, .int i3), (4, .int i4), (5, .int i5), (6, .ref b6), (7, .int i7)], [.int i7]))) rfl ?_
    cases h
    exact go_ret aMi8 rfl aRetI ⟨rfl, rfl⟩
def f8_b57 (kad : Nat → Nat) (N : Nat) (Z : AZ) (rc : Nat → Int32 → Int32 → Int32 → Int32 → AI → Option (Int32 × AI)) (k7 : Nat → Int32 → Int32 → Int32 → Int32 → AI → Option (Int32 × AI)) (a0 : Nat) (i2 : Int32) (i3 : Int32) (i4 : Int32) (i5 : Int32) (b6 : Nat) (s0 : Int32) (I : AI) : Option (Int32 × AI) :=
  if ¬ s0 = 0 then
    f8_b94 kad N Z rc k7 a0 i2 i3 i4 i5 b6 s0 I
  else
    if ¬ (kad (dzo (I b6 0))) = (kad 8) then
      f8_b94 kad N Z rc k7 a0 i2 i3 i4 i5 b6 s0 I
    else
      if (5 : Int32) ≤ i4 then
        f8_b94 kad N Z rc k7 a0 i2 i3 i4 i5 b6 s0 I
      else
        (f9_e kad N Z rc a0 (I b6 1) i4 I).bind fun r89_1 =>
        f8_b94 kad N Z rc k7 a0 i2 i3 i4 i5 b6 r89_1.1 r89_1.2
set_option maxRecDepth 20000 in
theorem Tf8_b57 {kad : Nat → Nat} {N : Nat} {Z : AZ} {d : Nat} {t : Option Nat × (Nat × Nat)} (hd : 4 ≤ d) {rc : Nat → Int32 → Int32 → Int32 → Int32 → AI → Option (Int32 × AI)} (hrc : ∀ a (ha : sh0 kad Z a) i j k m I r, rc a i j k m I = some r → aEv kad (d - 2) 8 [.ref a, .int i, .int j, .int k, .int m] (aMem Z I, t) (qI Z t r)) (k7 : Nat → Int32 → Int32 → Int32 → Int32 → AI → Option (Int32 × AI))  (hk7 : ∀ (a0 : Nat) (ha0 : sh0 kad Z a0) (i2 : Int32) (i3 : Int32) (i4 : Int32) (i5 : Int32) (I : AI) (r : Int32 × AI), k7 a0 i2 i3 i4 i5 I = some r → aGo kad d 8 (7, ([(0, .ref a0), (2, .int i2), (3, .int i3), (4, .int i4), (5, .int i5)], [])) (aMem Z I, t) (qI Z t r)) : ∀ (a0 : Nat) (ha0 : sh0 kad Z a0) (i2 : Int32) (i3 : Int32) (i4 : Int32) (i5 : Int32) (b6 : Nat) (hb6 : sh7 kad Z b6) (s0 : Int32) (I : AI) (r : Int32 × AI), f8_b57 kad N Z rc k7 a0 i2 i3 i4 i5 b6 s0 I = some r → aGo kad d 8 (57, ([(0, .ref a0), (2, .int i2), (3, .int i3), (4, .int i4), (5, .int i5), (6, .ref b6)], [.int s0])) (aMem Z I, t) (qI Z t r) := by
  intro a0 ha0 i2 i3 i4 i5 b6 hb6 s0 I r h
  unfold f8_b57 at h
  refine go_ops aMi8 2 _ (f1 := (61, ([(7, .int s0), (0, .ref a0), (2, .int i2), (3, .int i3), (4, .int i4), (5, .int i5), (6, .ref b6)], [.int s0]))) rfl ?_
  refine gg_br (b := decide (¬ s0 = 0)) (tg := 94) (off := 33) aMi8 rfl rfl rfl rfl (fun hb => ?_) (fun hb => ?_)
  · rw [if_pos (of_decide_eq_true hb)] at h
    refine go_le (lv1 := [(0, .ref a0), (2, .int i2), (3, .int i3), (4, .int i4), (5, .int i5), (6, .ref b6), (7, .int s0)]) (aLe_of (show (List.map (fun q => q.1) ([(0, .ref a0), (2, .int i2), (3, .int i3), (4, .int i4), (5, .int i5), (6, .ref b6), (7, .int s0)] : ALv)).Nodup from (by show ([0, 2, 3, 4, 5, 6, 7] : List Nat).Nodup; decide)) (aSubL_cons rfl (aSubL_cons rfl (aSubL_cons rfl (aSubL_cons rfl (aSubL_cons rfl (aSubL_cons rfl (aSubL_cons rfl aSubL_nil)))))))) ?_
    exact Tf8_b94 hd hrc k7 hk7 a0 ha0 i2 i3 i4 i5 b6 hb6 s0 I _ h
  · rw [if_neg (of_decide_eq_false hb)] at h
    refine go_ops aMi8 1 _ (f1 := (66, ([(7, .int s0), (0, .ref a0), (2, .int i2), (3, .int i3), (4, .int i4), (5, .int i5), (6, .ref b6)], [.ref b6]))) rfl ?_
    refine gg_gR (b := (kad (dzo (I b6 0)))) aMi8 rfl rfl rfl (gR_of2 (sh7_z hb6) (sh7_d hb6 _)) ?_
    refine gg_gs aMi8 rfl rfl ?_
    refine gg_br (b := decide (¬ (kad (dzo (I b6 0))) = (kad 8))) (tg := 94) (off := 22) aMi8 rfl rfl rfl rfl (fun hb => ?_) (fun hb => ?_)
    · rw [if_pos (of_decide_eq_true hb)] at h
      refine go_le (lv1 := [(0, .ref a0), (2, .int i2), (3, .int i3), (4, .int i4), (5, .int i5), (6, .ref b6), (7, .int s0)]) (aLe_of (show (List.map (fun q => q.1) ([(0, .ref a0), (2, .int i2), (3, .int i3), (4, .int i4), (5, .int i5), (6, .ref b6), (7, .int s0)] : ALv)).Nodup from (by show ([0, 2, 3, 4, 5, 6, 7] : List Nat).Nodup; decide)) (aSubL_cons rfl (aSubL_cons rfl (aSubL_cons rfl (aSubL_cons rfl (aSubL_cons rfl (aSubL_cons rfl (aSubL_cons rfl aSubL_nil)))))))) ?_
      exact Tf8_b94 hd hrc k7 hk7 a0 ha0 i2 i3 i4 i5 b6 hb6 s0 I _ h
    · rw [if_neg (of_decide_eq_false hb)] at h
      refine go_ops aMi8 2 _ (f1 := (78, ([(7, .int s0), (0, .ref a0), (2, .int i2), (3, .int i3), (4, .int i4), (5, .int i5), (6, .ref b6)], [.int (5 : Int32), .int i4]))) rfl ?_
      refine gg_br (b := decide ((5 : Int32) ≤ i4)) (tg := 94) (off := 16) aMi8 rfl rfl rfl rfl (fun hb => ?_) (fun hb => ?_)
      · rw [if_pos (of_decide_eq_true hb)] at h
        refine go_le (lv1 := [(0, .ref a0), (2, .int i2), (3, .int i3), (4, .int i4), (5, .int i5), (6, .ref b6), (7, .int s0)]) (aLe_of (show (List.map (fun q => q.1) ([(0, .ref a0), (2, .int i2), (3, .int i3), (4, .int i4), (5, .int i5), (6, .ref b6), (7, .int s0)] : ALv)).Nodup from (by show ([0, 2, 3, 4, 5, 6, 7] : List Nat).Nodup; decide)) (aSubL_cons rfl (aSubL_cons rfl (aSubL_cons rfl (aSubL_cons rfl (aSubL_cons rfl (aSubL_cons rfl (aSubL_cons rfl aSubL_nil)))))))) ?_
        exact Tf8_b94 hd hrc k7 hk7 a0 ha0 i2 i3 i4 i5 b6 hb6 s0 I _ h
      · rw [if_neg (of_decide_eq_false hb)] at h
        refine go_ops aMi8 2 _ (f1 := (84, ([(7, .int s0), (0, .ref a0), (2, .int i2), (3, .int i3), (4, .int i4), (5, .int i5), (6, .ref b6)], [.ref b6, .ref a0]))) rfl ?_
        refine gg_gI aMi8 rfl rfl rfl (gI_of (sh7_z hb6)) ?_
        refine go_ops aMi8 1 _ (f1 := (89, ([(7, .int s0), (0, .ref a0), (2, .int i2), (3, .int i3), (4, .int i4), (5, .int i5), (6, .ref b6)], [.int i4, .int (I b6 1), .ref a0]))) rfl ?_
        obtain ⟨r89_1, hxr89_1, h⟩ := Option.bind_eq_some_iff.mp h
        refine gg_cv (as := [.int (I b6 1), .int i4]) (r := []) aMi8 rfl rfl rfl aMi9 (Nat.le_of_ble_eq_true rfl) rfl (Nat.le_of_ble_eq_true rfl) (Nat.le_of_ble_eq_true rfl) (by omega) (isK_of (sh0_z ha0)) (Tf9_e (d := d - 1) (by omega) (fun a ha i j k m I r h => hrc a ha i j k m I r h) a0 ha0 (I b6 1) i4 I _ hxr89_1) ?_
        show aGo kad d 8 (92, ([(7, .int s0), (0, .ref a0), (2, .int i2), (3, .int i3), (4, .int i4), (5, .int i5), (6, .ref b6)], [.int r89_1.1])) (aMem Z r89_1.2, t) _
        refine go_ops aMi8 1 _ (f1 := (94, ([(7, .int r89_1.1), (0, .ref a0), (2, .int i2), (3, .int i3), (4, .int i4), (5, .int i5), (6, .ref b6)], []))) rfl ?_
        refine go_le (lv1 := [(0, .ref a0), (2, .int i2), (3, .int i3), (4, .int i4), (5, .int i5), (6, .ref b6), (7, .int r89_1.1)]) (aLe_of (show (List.map (fun q => q.1) ([(0, .ref a0), (2, .int i2), (3, .int i3), (4, .int i4), (5, .int i5), (6, .ref b6), (7, .int r89_1.1)] : ALv)).Nodup from (by show ([0, 2, 3, 4, 5, 6, 7] : List Nat).Nodup; decide)) (aSubL_cons rfl (aSubL_cons rfl (aSubL_cons rfl (aSubL_cons rfl (aSubL_cons rfl (aSubL_cons rfl (aSubL_cons rfl aSubL_nil)))))))) ?_
        exact Tf8_b94 hd hrc k7 hk7 a0 ha0 i2 i3 i4 i5 b6 hb6 r89_1.1 r89_1.2 _ h
def f8_b153 (kad : Nat → Nat) (N : Nat) (Z : AZ) (rc : Nat → Int32 → Int32 → Int32 → Int32 → AI → Option (Int32 × AI)) (a0 : Nat) (I : AI) : Option (Int32 × AI) :=
  some ((0 : Int32), I)
set_option maxRecDepth 20000 in
theorem Tf8_b153 {kad : Nat → Nat} {N : Nat} {Z : AZ} {d : Nat} {t : Option Nat × (Nat × Nat)} (hd : 4 ≤ d) {rc : Nat → Int32 → Int32 → Int32 → Int32 → AI → Option (Int32 × AI)} (hrc : ∀ a (ha : sh0 kad Z a) i j k m I r, rc a i j k m I = some r → aEv kad (d - 2) 8 [.ref a, .int i, .int j, .int k, .int m] (aMem Z I, t) (qI Z t r)) : ∀ (a0 : Nat) (ha0 : sh0 kad Z a0) (I : AI) (r : Int32 × AI), f8_b153 kad N Z rc a0 I = some r → aGo kad d 8 (153, ([], [])) (aMem Z I, t) (qI Z t r) := by
  intro a0 ha0 I r h
  unfold f8_b153 at h
  refine go_ops aMi8 1 _ (f1 := (154, ([], [.int (0 : Int32)]))) rfl ?_
  cases h
  exact go_ret aMi8 rfl aRetI ⟨rfl, rfl⟩
def f8_b7 (kad : Nat → Nat) (N : Nat) (Z : AZ) (rc : Nat → Int32 → Int32 → Int32 → Int32 → AI → Option (Int32 × AI)) : Nat → Nat → Int32 → Int32 → Int32 → Int32 → AI → Option (Int32 × AI)
  | 0, _, _, _, _, _, _ => none
  | F + 1, a0, i2, i3, i4, i5, I =>
    if i2 ≤ i5 then
      f8_b153 kad N Z rc a0 I
    else
      if (100 : Int32) ≤ i5 then
        f8_b153 kad N Z rc a0 I
      else
        (ixA 100 i5).bind fun j26_1 =>
        if (I a0 12) = 0 then
          (f10 kad N Z a0 (a0 + (12 + j26_1)) i5 i3 I).bind fun r54_2 =>
          f8_b57 kad N Z rc (fun p0 p1 p2 p3 p4 I => f8_b7 kad N Z rc F p0 p1 p2 p3 p4 I) a0 i2 i3 i4 i5 (a0 + (12 + j26_1)) r54_2.1 r54_2.2
        else
          (f17 kad N Z a0 (a0 + (12 + j26_1)) i5 i3 I).bind fun r42_3 =>
          f8_b57 kad N Z rc (fun p0 p1 p2 p3 p4 I => f8_b7 kad N Z rc F p0 p1 p2 p3 p4 I) a0 i2 i3 i4 i5 (a0 + (12 + j26_1)) r42_3.1 r42_3.2
set_option maxRecDepth 20000 in
theorem Tf8_b7 {kad : Nat → Nat} {N : Nat} {Z : AZ} {d : Nat} {t : Option Nat × (Nat × Nat)} (hd : 4 ≤ d) {rc : Nat → Int32 → Int32 → Int32 → Int32 → AI → Option (Int32 × AI)} (hrc : ∀ a (ha : sh0 kad Z a) i j k m I r, rc a i j k m I = some r → aEv kad (d - 2) 8 [.ref a, .int i, .int j, .int k, .int m] (aMem Z I, t) (qI Z t r)) : ∀ (F : Nat) (a0 : Nat) (ha0 : sh0 kad Z a0) (i2 : Int32) (i3 : Int32) (i4 : Int32) (i5 : Int32) (I : AI) (r : Int32 × AI), f8_b7 kad N Z rc F a0 i2 i3 i4 i5 I = some r → aGo kad d 8 (7, ([(0, .ref a0), (2, .int i2), (3, .int i3), (4, .int i4), (5, .int i5)], [])) (aMem Z I, t) (qI Z t r) := by
  intro F
  induction F with
  | zero => intro a0 ha0 i2 i3 i4 i5 I r h; cases h
  | succ F ih =>
    intro a0 ha0 i2 i3 i4 i5 I r h
    unfold f8_b7 at h
    refine go_ops aMi8 2 _ (f1 := (10, ([(0, .ref a0), (2, .int i2), (3, .int i3), (4, .int i4), (5, .int i5)], [.int i2, .int i5]))) rfl ?_
    refine gg_br (b := decide (i2 ≤ i5)) (tg := 153) (off := 143) aMi8 rfl rfl rfl rfl (fun hb => ?_) (fun hb => ?_)
    · rw [if_pos (of_decide_eq_true hb)] at h
      refine go_le (lv1 := []) (aLe_of (show (List.map (fun q => q.1) ([] : ALv)).Nodup from (by show ([] : List Nat).Nodup; decide)) aSubL_nil) ?_
      exact Tf8_b153 hd hrc a0 ha0 I _ h
    · rw [if_neg (of_decide_eq_false hb)] at h
      refine go_ops aMi8 2 _ (f1 := (17, ([(0, .ref a0), (2, .int i2), (3, .int i3), (4, .int i4), (5, .int i5)], [.int (100 : Int32), .int i5]))) rfl ?_
      refine gg_br (b := decide ((100 : Int32) ≤ i5)) (tg := 153) (off := 136) aMi8 rfl rfl rfl rfl (fun hb => ?_) (fun hb => ?_)
      · rw [if_pos (of_decide_eq_true hb)] at h
        refine go_le (lv1 := []) (aLe_of (show (List.map (fun q => q.1) ([] : ALv)).Nodup from (by show ([] : List Nat).Nodup; decide)) aSubL_nil) ?_
        exact Tf8_b153 hd hrc a0 ha0 I _ h
      · rw [if_neg (of_decide_eq_false hb)] at h
        refine go_ops aMi8 1 _ (f1 := (21, ([(0, .ref a0), (2, .int i2), (3, .int i3), (4, .int i4), (5, .int i5)], [.ref a0]))) rfl ?_
        refine gg_gR (b := (a0 + 2)) aMi8 rfl rfl rfl (gR_of (sh0_z ha0) (sh0_r2 ha0)) ?_
        refine go_ops aMi8 1 _ (f1 := (26, ([(0, .ref a0), (2, .int i2), (3, .int i3), (4, .int i4), (5, .int i5)], [.int i5, .ref (a0 + 2)]))) rfl ?_
        obtain ⟨j26_1, hxj26_1, h⟩ := Option.bind_eq_some_iff.mp h
        refine gg_lR (b := (a0 + (12 + j26_1))) aMi8 rfl (lR_of (sh0_a2 ha0) (by decide) hxj26_1 (sh0_e2 ha0 j26_1 (ixA_lt hxj26_1))) ?_
        refine go_ops aMi8 2 _ (f1 := (30, ([(6, .ref (a0 + (12 + j26_1))), (0, .ref a0), (2, .int i2), (3, .int i3), (4, .int i4), (5, .int i5)], [.ref a0]))) rfl ?_
        refine gg_gI aMi8 rfl rfl rfl (gI_of (sh0_z ha0)) ?_
        refine gg_br (b := decide ((I a0 12) = 0)) (tg := 48) (off := 15) aMi8 rfl rfl rfl rfl (fun hb => ?_) (fun hb => ?_)
        · rw [if_pos (of_decide_eq_true hb)] at h
          refine go_ops aMi8 4 _ (f1 := (54, ([(6, .ref (a0 + (12 + j26_1))), (0, .ref a0), (2, .int i2), (3, .int i3), (4, .int i4), (5, .int i5)], [.int i3, .int i5, .ref (a0 + (12 + j26_1)), .ref a0]))) rfl ?_
          obtain ⟨r54_2, hxr54_2, h⟩ := Option.bind_eq_some_iff.mp h
          refine gg_cv (as := [.ref (a0 + (12 + j26_1)), .int i5, .int i3]) (r := []) aMi8 rfl rfl rfl aMi10 (Nat.le_of_ble_eq_true rfl) rfl (Nat.le_of_ble_eq_true rfl) (Nat.le_of_ble_eq_true rfl) (by omega) (isK_of (sh0_z ha0)) (Tf10 (by omega) a0 ha0 (a0 + (12 + j26_1)) (sh0_f2 ha0 j26_1 (ixA_lt hxj26_1)) i5 i3 I _ hxr54_2) ?_
          show aGo kad d 8 (57, ([(6, .ref (a0 + (12 + j26_1))), (0, .ref a0), (2, .int i2), (3, .int i3), (4, .int i4), (5, .int i5)], [.int r54_2.1])) (aMem Z r54_2.2, t) _
          refine go_le (lv1 := [(0, .ref a0), (2, .int i2), (3, .int i3), (4, .int i4), (5, .int i5), (6, .ref (a0 + (12 + j26_1)))]) (aLe_of (show (List.map (fun q => q.1) ([(0, .ref a0), (2, .int i2), (3, .int i3), (4, .int i4), (5, .int i5), (6, .ref (a0 + (12 + j26_1)))] : ALv)).Nodup from (by show ([0, 2, 3, 4, 5, 6] : List Nat).Nodup; decide)) (aSubL_cons rfl (aSubL_cons rfl (aSubL_cons rfl (aSubL_cons rfl (aSubL_cons rfl (aSubL_cons rfl aSubL_nil))))))) ?_
          exact Tf8_b57 hd hrc (fun p0 p1 p2 p3 p4 I => f8_b7 kad N Z rc F p0 p1 p2 p3 p4 I) (fun p0 q0 p1 p2 p3 p4 I r hh => ih p0 q0 p1 p2 p3 p4 I r hh) a0 ha0 i2 i3 i4 i5 (a0 + (12 + j26_1)) (sh0_f2 ha0 j26_1 (ixA_lt hxj26_1)) r54_2.1 r54_2.2 _ h
        · rw [if_neg (of_decide_eq_false hb)] at h
          refine go_ops aMi8 4 _ (f1 := (42, ([(6, .ref (a0 + (12 + j26_1))), (0, .ref a0), (2, .int i2), (3, .int i3), (4, .int i4), (5, .int i5)], [.int i3, .int i5, .ref (a0 + (12 + j26_1)), .ref a0]))) rfl ?_
          obtain ⟨r42_3, hxr42_3, h⟩ := Option.bind_eq_some_iff.mp h
          refine gg_cv (as := [.ref (a0 + (12 + j26_1)), .int i5, .int i3]) (r := []) aMi8 rfl rfl rfl aMi17 (Nat.le_of_ble_eq_true rfl) rfl (Nat.le_of_ble_eq_true rfl) (Nat.le_of_ble_eq_true rfl) (by omega) (isK_of (sh0_z ha0)) (Tf17 (by omega) a0 ha0 (a0 + (12 + j26_1)) (sh0_f2 ha0 j26_1 (ixA_lt hxj26_1)) i5 i3 I _ hxr42_3) ?_
          show aGo kad d 8 (45, ([(6, .ref (a0 + (12 + j26_1))), (0, .ref a0), (2, .int i2), (3, .int i3), (4, .int i4), (5, .int i5)], [.int r42_3.1])) (aMem Z r42_3.2, t) _
          refine go_ops aMi8 1 _ (f1 := (57, ([(6, .ref (a0 + (12 + j26_1))), (0, .ref a0), (2, .int i2), (3, .int i3), (4, .int i4), (5, .int i5)], [.int r42_3.1]))) rfl ?_
          refine go_le (lv1 := [(0, .ref a0), (2, .int i2), (3, .int i3), (4, .int i4), (5, .int i5), (6, .ref (a0 + (12 + j26_1)))]) (aLe_of (show (List.map (fun q => q.1) ([(0, .ref a0), (2, .int i2), (3, .int i3), (4, .int i4), (5, .int i5), (6, .ref (a0 + (12 + j26_1)))] : ALv)).Nodup from (by show ([0, 2, 3, 4, 5, 6] : List Nat).Nodup; decide)) (aSubL_cons rfl (aSubL_cons rfl (aSubL_cons rfl (aSubL_cons rfl (aSubL_cons rfl (aSubL_cons rfl aSubL_nil))))))) ?_
          exact Tf8_b57 hd hrc (fun p0 p1 p2 p3 p4 I => f8_b7 kad N Z rc F p0 p1 p2 p3 p4 I) (fun p0 q0 p1 p2 p3 p4 I r hh => ih p0 q0 p1 p2 p3 p4 I r hh) a0 ha0 i2 i3 i4 i5 (a0 + (12 + j26_1)) (sh0_f2 ha0 j26_1 (ixA_lt hxj26_1)) r42_3.1 r42_3.2 _ h
def f8_e (kad : Nat → Nat) (N : Nat) (Z : AZ) (rc : Nat → Int32 → Int32 → Int32 → Int32 → AI → Option (Int32 × AI)) (a0 : Nat) (i1 : Int32) (i2 : Int32) (i3 : Int32) (i4 : Int32) (I : AI) : Option (Int32 × AI) :=
  f8_b7 kad N Z rc N a0 i2 i3 i4 (if i1 < (0 : Int32) then (0 : Int32) else i1) I
set_option maxRecDepth 20000 in
theorem Tf8_e {kad : Nat → Nat} {N : Nat} {Z : AZ} {d : Nat} {t : Option Nat × (Nat × Nat)} (hd : 4 ≤ d) {rc : Nat → Int32 → Int32 → Int32 → Int32 → AI → Option (Int32 × AI)} (hrc : ∀ a (ha : sh0 kad Z a) i j k m I r, rc a i j k m I = some r → aEv kad (d - 2) 8 [.ref a, .int i, .int j, .int k, .int m] (aMem Z I, t) (qI Z t r)) : ∀ (a0 : Nat) (ha0 : sh0 kad Z a0) (i1 : Int32) (i2 : Int32) (i3 : Int32) (i4 : Int32) (I : AI) (r : Int32 × AI), f8_e kad N Z rc a0 i1 i2 i3 i4 I = some r → aGo kad d 8 (0, ([(0, .ref a0), (1, .int i1), (2, .int i2), (3, .int i3), (4, .int i4)], [])) (aMem Z I, t) (qI Z t r) := by
  intro a0 ha0 i1 i2 i3 i4 I r h
  unfold f8_e at h
  refine go_ops aMi8 2 _ (f1 := (2, ([(0, .ref a0), (1, .int i1), (2, .int i2), (3, .int i3), (4, .int i4)], [.int (0 : Int32), .int i1]))) rfl ?_
  refine gg_mx aMi8 rfl rfl (Nat.le_of_ble_eq_true rfl) ?_
  refine go_ops aMi8 1 _ (f1 := (7, ([(5, .int (if i1 < (0 : Int32) then (0 : Int32) else i1)), (0, .ref a0), (1, .int i1), (2, .int i2), (3, .int i3), (4, .int i4)], []))) rfl ?_
  refine go_le (lv1 := [(0, .ref a0), (2, .int i2), (3, .int i3), (4, .int i4), (5, .int (if i1 < (0 : Int32) then (0 : Int32) else i1))]) (aLe_of (show (List.map (fun q => q.1) ([(0, .ref a0), (2, .int i2), (3, .int i3), (4, .int i4), (5, .int (if i1 < (0 : Int32) then (0 : Int32) else i1))] : ALv)).Nodup from (by show ([0, 2, 3, 4, 5] : List Nat).Nodup; decide)) (aSubL_cons rfl (aSubL_cons rfl (aSubL_cons rfl (aSubL_cons rfl (aSubL_cons rfl aSubL_nil)))))) ?_
  exact Tf8_b7 hd hrc N a0 ha0 i2 i3 i4 (if i1 < (0 : Int32) then (0 : Int32) else i1) I _ h
def f8_r (kad : Nat → Nat) (N : Nat) (Z : AZ) : Nat → Nat → Int32 → Int32 → Int32 → Int32 → AI → Option (Int32 × AI)
  | 0, _, _, _, _, _, _ => none
  | k + 1, a, i, j, m, q, I => f8_e kad N Z (f8_r kad N Z k) a i j m q I
set_option maxRecDepth 20000 in
theorem Tf8_r {kad : Nat → Nat} {N : Nat} {Z : AZ} {t : Option Nat × (Nat × Nat)} : ∀ (F d : Nat) (_ : 4 + 2 * F ≤ d) (a : Nat) (ha : sh0 kad Z a) (i j m q : Int32) (I : AI) (r : Int32 × AI), f8_r kad N Z F a i j m q I = some r → aEv kad d 8 [.ref a, .int i, .int j, .int m, .int q] (aMem Z I, t) (qI Z t r) := by
  intro F
  induction F with
  | zero => intro d hd a ha i j m q I r h; cases h
  | succ F ih =>
    intro d hd a ha i j m q I r h
    exact Tf8_e (by omega) (fun a ha i j m q I r h => ih (d - 2) (by omega) a ha i j m q I r h) a ha i j m q I r h
def f8 (kad : Nat → Nat) (N : Nat) (Z : AZ) (a : Nat) (i j m q : Int32) (I : AI) : Option (Int32 × AI) := f8_r kad N Z 7 a i j m q I
theorem Tf8 {kad : Nat → Nat} {N : Nat} {Z : AZ} {d : Nat} {t : Option Nat × (Nat × Nat)} (hd : 18 ≤ d) (a : Nat) (ha : sh0 kad Z a) (i j m q : Int32) (I : AI) (r : Int32 × AI) (h : f8 kad N Z a i j m q I = some r) : aEv kad d 8 [.ref a, .int i, .int j, .int m, .int q] (aMem Z I, t) (qI Z t r) := Tf8_r 7 d (by omega) a ha i j m q I r h
-- KernelGym$Assembler.findError ()I
def f5 (kad : Nat → Nat) (N : Nat) (Z : AZ) (a0 : Nat) (I : AI) : Option (Int32 × AI) :=
  (f53 kad N Z (a0 + 3) (Int32.ofInt (-1)) I).bind fun r5_1 =>
  (f53 kad N Z (a0 + 7) (Int32.ofInt (-1)) r5_1.2).bind fun r13_2 =>
  (f6 kad N Z a0 (0 : Int32) r13_2.2).bind fun r18_3 =>
  (f8 kad N Z a0 (0 : Int32) ((r18_3.2) a0 0) (0 : Int32) (0 : Int32) r18_3.2).bind fun r29_4 =>
  if r29_4.1 = 0 then
    (ixA 2 (0 : Int32)).bind fun j46_6 =>
    (wI r29_4.2 (a0 + 11) j46_6 (8 : Int32)).bind fun I46_5 =>
    (ixA 2 (0 : Int32)).bind fun j59_7 =>
    (ixA 2 (1 : Int32)).bind fun j61_9 =>
    (wI I46_5 (a0 + 11) j61_9 ((8 : Int32) + (I46_5 (a0 + 10) j59_7))).bind fun I61_8 =>
    (f6 kad N Z a0 (1 : Int32) I61_8).bind fun r64_10 =>
    (f8 kad N Z a0 (0 : Int32) ((r64_10.2) a0 0) (0 : Int32) (0 : Int32) r64_10.2).bind fun r75_11 =>
    some (r75_11.1, r75_11.2)
  else
    some (r29_4.1, r29_4.2)
set_option maxRecDepth 20000 in
theorem Tf5 {kad : Nat → Nat} {N : Nat} {Z : AZ} {d : Nat} {t : Option Nat × (Nat × Nat)} (hd : 19 ≤ d) : ∀ (a0 : Nat) (ha0 : sh0 kad Z a0) (I : AI) (r : Int32 × AI), f5 kad N Z a0 I = some r → aGo kad d 5 (0, ([(0, .ref a0)], [])) (aMem Z I, t) (qI Z t r) := by
  intro a0 ha0 I r h
  unfold f5 at h
  refine go_ops aMi5 1 _ (f1 := (1, ([(0, .ref a0)], [.ref a0]))) rfl ?_
  refine gg_gR (b := (a0 + 3)) aMi5 rfl rfl rfl (gR_of (sh0_z ha0) (sh0_r3 ha0)) ?_
  refine go_ops aMi5 1 _ (f1 := (5, ([(0, .ref a0)], [.int (Int32.ofInt (-1)), .ref (a0 + 3)]))) rfl ?_
  obtain ⟨r5_1, hxr5_1, h⟩ := Option.bind_eq_some_iff.mp h
  refine gg_cs (as := [.ref (a0 + 3), .int (Int32.ofInt (-1))]) (r := []) aMi5 rfl rfl rfl aMi53 rfl (Nat.le_of_ble_eq_true rfl) (Nat.le_of_ble_eq_true rfl) (by omega) (Tf53 (by omega) (a0 + 3) (Int32.ofInt (-1)) I _ hxr5_1) ?_
  show aGo kad d 5 (8, ([(0, .ref a0)], [])) (aMem Z r5_1.2, t) _
  refine go_ops aMi5 1 _ (f1 := (9, ([(0, .ref a0)], [.ref a0]))) rfl ?_
  refine gg_gR (b := (a0 + 7)) aMi5 rfl rfl rfl (gR_of (sh0_z ha0) (sh0_r7 ha0)) ?_
  refine go_ops aMi5 1 _ (f1 := (13, ([(0, .ref a0)], [.int (Int32.ofInt (-1)), .ref (a0 + 7)]))) rfl ?_
  obtain ⟨r13_2, hxr13_2, h⟩ := Option.bind_eq_some_iff.mp h
  refine gg_cs (as := [.ref (a0 + 7), .int (Int32.ofInt (-1))]) (r := []) aMi5 rfl rfl rfl aMi53 rfl (Nat.le_of_ble_eq_true rfl) (Nat.le_of_ble_eq_true rfl) (by omega) (Tf53 (by omega) (a0 + 7) (Int32.ofInt (-1)) r5_1.2 _ hxr13_2) ?_
  show aGo kad d 5 (16, ([(0, .ref a0)], [])) (aMem Z r13_2.2, t) _
  refine go_ops aMi5 2 _ (f1 := (18, ([(0, .ref a0)], [.int (0 : Int32), .ref a0]))) rfl ?_
  obtain ⟨r18_3, hxr18_3, h⟩ := Option.bind_eq_some_iff.mp h
  refine gg_cv (as := [.int (0 : Int32)]) (r := []) aMi5 rfl rfl rfl aMi6 (Nat.le_of_ble_eq_true rfl) rfl (Nat.le_of_ble_eq_true rfl) (Nat.le_of_ble_eq_true rfl) (by omega) (isK_of (sh0_z ha0)) (Tf6 (by omega) a0 ha0 (0 : Int32) r13_2.2 _ hxr18_3) ?_
  show aGo kad d 5 (21, ([(0, .ref a0)], [])) (aMem Z r18_3.2, t) _
  refine go_ops aMi5 3 _ (f1 := (24, ([(0, .ref a0)], [.ref a0, .int (0 : Int32), .ref a0]))) rfl ?_
  refine gg_gI aMi5 rfl rfl rfl (gI_of (sh0_z ha0)) ?_
  refine go_ops aMi5 2 _ (f1 := (29, ([(0, .ref a0)], [.int (0 : Int32), .int (0 : Int32), .int ((r18_3.2) a0 0), .int (0 : Int32), .ref a0]))) rfl ?_
  obtain ⟨r29_4, hxr29_4, h⟩ := Option.bind_eq_some_iff.mp h
  refine gg_cv (as := [.int (0 : Int32), .int ((r18_3.2) a0 0), .int (0 : Int32), .int (0 : Int32)]) (r := []) aMi5 rfl rfl rfl aMi8 (Nat.le_of_ble_eq_true rfl) rfl (Nat.le_of_ble_eq_true rfl) (Nat.le_of_ble_eq_true rfl) (by omega) (isK_of (sh0_z ha0)) (Tf8 (by omega) a0 ha0 (0 : Int32) ((r18_3.2) a0 0) (0 : Int32) (0 : Int32) r18_3.2 _ hxr29_4) ?_
  show aGo kad d 5 (32, ([(0, .ref a0)], [.int r29_4.1])) (aMem Z r29_4.2, t) _
  refine go_ops aMi5 2 _ (f1 := (34, ([(1, .int r29_4.1), (0, .ref a0)], [.int r29_4.1]))) rfl ?_
  refine gg_br (b := decide (r29_4.1 = 0)) (tg := 39) (off := 5) aMi5 rfl rfl rfl rfl (fun hb => ?_) (fun hb => ?_)
  · rw [if_pos (of_decide_eq_true hb)] at h
    refine go_ops aMi5 1 _ (f1 := (40, ([(1, .int r29_4.1), (0, .ref a0)], [.ref a0]))) rfl ?_
    refine gg_gR (b := (a0 + 11)) aMi5 rfl rfl rfl (gR_of (sh0_z ha0) (sh0_r11 ha0)) ?_
    refine go_ops aMi5 2 _ (f1 := (46, ([(1, .int r29_4.1), (0, .ref a0)], [.int (8 : Int32), .int (0 : Int32), .ref (a0 + 11)]))) rfl ?_
    obtain ⟨j46_6, hxj46_6, h⟩ := Option.bind_eq_some_iff.mp h
    obtain ⟨I46_5, hxI46_5, h⟩ := Option.bind_eq_some_iff.mp h
    refine gg_sI (Or.inl ⟨rfl, rfl⟩) aMi5 rfl (sI_of (sh0_a11 ha0) hxj46_6 hxI46_5) ?_
    refine go_ops aMi5 1 _ (f1 := (48, ([(1, .int r29_4.1), (0, .ref a0)], [.ref a0]))) rfl ?_
    refine gg_gR (b := (a0 + 11)) aMi5 rfl rfl rfl (gR_of (sh0_z ha0) (sh0_r11 ha0)) ?_
    refine go_ops aMi5 3 _ (f1 := (55, ([(1, .int r29_4.1), (0, .ref a0)], [.ref a0, .int (8 : Int32), .int (1 : Int32), .ref (a0 + 11)]))) rfl ?_
    refine gg_gR (b := (a0 + 10)) aMi5 rfl rfl rfl (gR_of (sh0_z ha0) (sh0_r10 ha0)) ?_
    refine go_ops aMi5 1 _ (f1 := (59, ([(1, .int r29_4.1), (0, .ref a0)], [.int (0 : Int32), .ref (a0 + 10), .int (8 : Int32), .int (1 : Int32), .ref (a0 + 11)]))) rfl ?_
    obtain ⟨j59_7, hxj59_7, h⟩ := Option.bind_eq_some_iff.mp h
    refine gg_lI (Or.inl ⟨rfl, rfl⟩) aMi5 rfl (lI_of (sh0_a10 ha0) hxj59_7) ?_
    refine go_ops aMi5 1 _ (f1 := (61, ([(1, .int r29_4.1), (0, .ref a0)], [.int ((8 : Int32) + (I46_5 (a0 + 10) j59_7)), .int (1 : Int32), .ref (a0 + 11)]))) rfl ?_
    obtain ⟨j61_9, hxj61_9, h⟩ := Option.bind_eq_some_iff.mp h
    obtain ⟨I61_8, hxI61_8, h⟩ := Option.bind_eq_some_iff.mp h
    refine gg_sI (Or.inl ⟨rfl, rfl⟩) aMi5 rfl (sI_of (sh0_a11 ha0) hxj61_9 hxI61_8) ?_
    refine go_ops aMi5 2 _ (f1 := (64, ([(1, .int r29_4.1), (0, .ref a0)], [.int (1 : Int32), .ref a0]))) rfl ?_
    obtain ⟨r64_10, hxr64_10, h⟩ := Option.bind_eq_some_iff.mp h
    refine gg_cv (as := [.int (1 : Int32)]) (r := []) aMi5 rfl rfl rfl aMi6 (Nat.le_of_ble_eq_true rfl) rfl (Nat.le_of_ble_eq_true rfl) (Nat.le_of_ble_eq_true rfl) (by omega) (isK_of (sh0_z ha0)) (Tf6 (by omega) a0 ha0 (1 : Int32) I61_8 _ hxr64_10) ?_
    show aGo kad d 5 (67, ([(1, .int r29_4.1), (0, .ref a0)], [])) (aMem Z r64_10.2, t) _
    refine go_ops aMi5 3 _ (f1 := (70, ([(1, .int r29_4.1), (0, .ref a0)], [.ref a0, .int (0 : Int32), .ref a0]))) rfl ?_
    refine gg_gI aMi5 rfl rfl rfl (gI_of (sh0_z ha0)) ?_
    refine go_ops aMi5 2 _ (f1 := (75, ([(1, .int r29_4.1), (0, .ref a0)], [.int (0 : Int32), .int (0 : Int32), .int ((r64_10.2) a0 0), .int (0 : Int32), .ref a0]))) rfl ?_
    obtain ⟨r75_11, hxr75_11, h⟩ := Option.bind_eq_some_iff.mp h
    refine gg_cv (as := [.int (0 : Int32), .int ((r64_10.2) a0 0), .int (0 : Int32), .int (0 : Int32)]) (r := []) aMi5 rfl rfl rfl aMi8 (Nat.le_of_ble_eq_true rfl) rfl (Nat.le_of_ble_eq_true rfl) (Nat.le_of_ble_eq_true rfl) (by omega) (isK_of (sh0_z ha0)) (Tf8 (by omega) a0 ha0 (0 : Int32) ((r64_10.2) a0 0) (0 : Int32) (0 : Int32) r64_10.2 _ hxr75_11) ?_
    show aGo kad d 5 (78, ([(1, .int r29_4.1), (0, .ref a0)], [.int r75_11.1])) (aMem Z r75_11.2, t) _
    cases h
    exact go_ret aMi5 rfl aRetI ⟨rfl, rfl⟩
  · rw [if_neg (of_decide_eq_false hb)] at h
    refine go_ops aMi5 1 _ (f1 := (38, ([(1, .int r29_4.1), (0, .ref a0)], [.int r29_4.1]))) rfl ?_
    cases h
    exact go_ret aMi5 rfl aRetI ⟨rfl, rfl⟩
-- KernelGym$Disk.entryWord (II)I
def f50_b46 (kad : Nat → Nat) (N : Nat) (Z : AZ) (a0 : Nat) (s0 : Int32) (I : AI) : Option (Int32 × AI) :=
  some (s0, I)
set_option maxRecDepth 20000 in
theorem Tf50_b46 {kad : Nat → Nat} {N : Nat} {Z : AZ} {d : Nat} {t : Option Nat × (Nat × Nat)} (hd : 0 ≤ d) : ∀ (a0 : Nat) (ha0 : sh3 kad Z a0) (s0 : Int32) (I : AI) (r : Int32 × AI), f50_b46 kad N Z a0 s0 I = some r → aGo kad d 50 (46, ([], [.int s0])) (aMem Z I, t) (qI Z t r) := by
  intro a0 ha0 s0 I r h
  unfold f50_b46 at h
  cases h
  exact go_ret aMi50 rfl aRetI ⟨rfl, rfl⟩
def f50_b24 (kad : Nat → Nat) (N : Nat) (Z : AZ) (a0 : Nat) (i1 : Int32) (i2 : Int32) (s0 : Int32) (I : AI) : Option (Int32 × AI) :=
  if s0 = 0 then
    f50_b46 kad N Z a0 (0 : Int32) I
  else
    (ixA 256 (((40 : Int32) + (i1 * (4 : Int32))) + i2)).bind fun j41_1 =>
    f50_b46 kad N Z a0 (I (a0 + 1) j41_1) I
set_option maxRecDepth 20000 in
theorem Tf50_b24 {kad : Nat → Nat} {N : Nat} {Z : AZ} {d : Nat} {t : Option Nat × (Nat × Nat)} (hd : 0 ≤ d) : ∀ (a0 : Nat) (ha0 : sh3 kad Z a0) (i1 : Int32) (i2 : Int32) (s0 : Int32) (I : AI) (r : Int32 × AI), f50_b24 kad N Z a0 i1 i2 s0 I = some r → aGo kad d 50 (24, ([(0, .ref a0), (1, .int i1), (2, .int i2)], [.int s0])) (aMem Z I, t) (qI Z t r) := by
  intro a0 ha0 i1 i2 s0 I r h
  unfold f50_b24 at h
  refine go_ops aMi50 2 _ (f1 := (26, ([(3, .int s0), (0, .ref a0), (1, .int i1), (2, .int i2)], [.int s0]))) rfl ?_
  refine gg_br (b := decide (s0 = 0)) (tg := 45) (off := 19) aMi50 rfl rfl rfl rfl (fun hb => ?_) (fun hb => ?_)
  · rw [if_pos (of_decide_eq_true hb)] at h
    refine go_ops aMi50 1 _ (f1 := (46, ([(3, .int s0), (0, .ref a0), (1, .int i1), (2, .int i2)], [.int (0 : Int32)]))) rfl ?_
    refine go_le (lv1 := []) (aLe_of (show (List.map (fun q => q.1) ([] : ALv)).Nodup from (by show ([] : List Nat).Nodup; decide)) aSubL_nil) ?_
    exact Tf50_b46 hd a0 ha0 (0 : Int32) I _ h
  · rw [if_neg (of_decide_eq_false hb)] at h
    refine go_ops aMi50 1 _ (f1 := (30, ([(3, .int s0), (0, .ref a0), (1, .int i1), (2, .int i2)], [.ref a0]))) rfl ?_
    refine gg_gR (b := (a0 + 1)) aMi50 rfl rfl rfl (gR_of (sh3_z ha0) (sh3_r0 ha0)) ?_
    refine go_ops aMi50 7 _ (f1 := (41, ([(3, .int s0), (0, .ref a0), (1, .int i1), (2, .int i2)], [.int (((40 : Int32) + (i1 * (4 : Int32))) + i2), .ref (a0 + 1)]))) rfl ?_
    obtain ⟨j41_1, hxj41_1, h⟩ := Option.bind_eq_some_iff.mp h
    refine gg_lI (Or.inl ⟨rfl, rfl⟩) aMi50 rfl (lI_of (sh3_a0 ha0) hxj41_1) ?_
    refine go_ops aMi50 1 _ (f1 := (46, ([(3, .int s0), (0, .ref a0), (1, .int i1), (2, .int i2)], [.int (I (a0 + 1) j41_1)]))) rfl ?_
    refine go_le (lv1 := []) (aLe_of (show (List.map (fun q => q.1) ([] : ALv)).Nodup from (by show ([] : List Nat).Nodup; decide)) aSubL_nil) ?_
    exact Tf50_b46 hd a0 ha0 (I (a0 + 1) j41_1) I _ h
def f50_b23 (kad : Nat → Nat) (N : Nat) (Z : AZ) (a0 : Nat) (i1 : Int32) (i2 : Int32) (I : AI) : Option (Int32 × AI) :=
  f50_b24 kad N Z a0 i1 i2 (0 : Int32) I
set_option maxRecDepth 20000 in
theorem Tf50_b23 {kad : Nat → Nat} {N : Nat} {Z : AZ} {d : Nat} {t : Option Nat × (Nat × Nat)} (hd : 0 ≤ d) : ∀ (a0 : Nat) (ha0 : sh3 kad Z a0) (i1 : Int32) (i2 : Int32) (I : AI) (r : Int32 × AI), f50_b23 kad N Z a0 i1 i2 I = some r → aGo kad d 50 (23, ([(0, .ref a0), (1, .int i1), (2, .int i2)], [])) (aMem Z I, t) (qI Z t r) := by
  intro a0 ha0 i1 i2 I r h
  unfold f50_b23 at h
  refine go_ops aMi50 1 _ (f1 := (24, ([(0, .ref a0), (1, .int i1), (2, .int i2)], [.int (0 : Int32)]))) rfl ?_
  exact Tf50_b24 hd a0 ha0 i1 i2 (0 : Int32) I _ h
def f50 (kad : Nat → Nat) (N : Nat) (Z : AZ) (a0 : Nat) (i1 : Int32) (i2 : Int32) (I : AI) : Option (Int32 × AI) :=
  if i1 < 0 then
    f50_b23 kad N Z a0 i1 i2 I
  else
    if (6 : Int32) ≤ i1 then
      f50_b23 kad N Z a0 i1 i2 I
    else
      if i2 < 0 then
        f50_b23 kad N Z a0 i1 i2 I
      else
        if (4 : Int32) ≤ i2 then
          f50_b23 kad N Z a0 i1 i2 I
        else
          f50_b24 kad N Z a0 i1 i2 (1 : Int32) I
set_option maxRecDepth 20000 in
theorem Tf50 {kad : Nat → Nat} {N : Nat} {Z : AZ} {d : Nat} {t : Option Nat × (Nat × Nat)} (hd : 0 ≤ d) : ∀ (a0 : Nat) (ha0 : sh3 kad Z a0) (i1 : Int32) (i2 : Int32) (I : AI) (r : Int32 × AI), f50 kad N Z a0 i1 i2 I = some r → aGo kad d 50 (0, ([(0, .ref a0), (1, .int i1), (2, .int i2)], [])) (aMem Z I, t) (qI Z t r) := by
  intro a0 ha0 i1 i2 I r h
  unfold f50 at h
  refine go_ops aMi50 1 _ (f1 := (1, ([(0, .ref a0), (1, .int i1), (2, .int i2)], [.int i1]))) rfl ?_
  refine gg_br (b := decide (i1 < 0)) (tg := 23) (off := 22) aMi50 rfl rfl rfl rfl (fun hb => ?_) (fun hb => ?_)
  · rw [if_pos (of_decide_eq_true hb)] at h
    exact Tf50_b23 hd a0 ha0 i1 i2 I _ h
  · rw [if_neg (of_decide_eq_false hb)] at h
    refine go_ops aMi50 2 _ (f1 := (7, ([(0, .ref a0), (1, .int i1), (2, .int i2)], [.int (6 : Int32), .int i1]))) rfl ?_
    refine gg_br (b := decide ((6 : Int32) ≤ i1)) (tg := 23) (off := 16) aMi50 rfl rfl rfl rfl (fun hb => ?_) (fun hb => ?_)
    · rw [if_pos (of_decide_eq_true hb)] at h
      exact Tf50_b23 hd a0 ha0 i1 i2 I _ h
    · rw [if_neg (of_decide_eq_false hb)] at h
      refine go_ops aMi50 1 _ (f1 := (11, ([(0, .ref a0), (1, .int i1), (2, .int i2)], [.int i2]))) rfl ?_
      refine gg_br (b := decide (i2 < 0)) (tg := 23) (off := 12) aMi50 rfl rfl rfl rfl (fun hb => ?_) (fun hb => ?_)
      · rw [if_pos (of_decide_eq_true hb)] at h
        exact Tf50_b23 hd a0 ha0 i1 i2 I _ h
      · rw [if_neg (of_decide_eq_false hb)] at h
        refine go_ops aMi50 2 _ (f1 := (16, ([(0, .ref a0), (1, .int i1), (2, .int i2)], [.int (4 : Int32), .int i2]))) rfl ?_
        refine gg_br (b := decide ((4 : Int32) ≤ i2)) (tg := 23) (off := 7) aMi50 rfl rfl rfl rfl (fun hb => ?_) (fun hb => ?_)
        · rw [if_pos (of_decide_eq_true hb)] at h
          exact Tf50_b23 hd a0 ha0 i1 i2 I _ h
        · rw [if_neg (of_decide_eq_false hb)] at h
          refine go_ops aMi50 2 _ (f1 := (24, ([(0, .ref a0), (1, .int i1), (2, .int i2)], [.int (1 : Int32)]))) rfl ?_
          exact Tf50_b24 hd a0 ha0 i1 i2 (1 : Int32) I _ h
-- KernelGym$Disk.entryOf (I)I
def f51_b2 (kad : Nat → Nat) (N : Nat) (Z : AZ) : Nat → Nat → Int32 → Int32 → AI → Option (Int32 × AI)
  | 0, _, _, _, _ => none
  | F + 1, a0, i1, i2, I =>
    if (6 : Int32) ≤ i2 then
      some ((Int32.ofInt (-1)), I)
    else
      (f50 kad N Z a0 i2 (0 : Int32) I).bind fun r11_1 =>
      if ¬ r11_1.1 = i1 then
        f51_b2 kad N Z F a0 i1 (i2 + (1 : Int32)) r11_1.2
      else
        some (i2, r11_1.2)
set_option maxRecDepth 20000 in
theorem Tf51_b2 {kad : Nat → Nat} {N : Nat} {Z : AZ} {d : Nat} {t : Option Nat × (Nat × Nat)} (hd : 1 ≤ d) : ∀ (F : Nat) (a0 : Nat) (ha0 : sh3 kad Z a0) (i1 : Int32) (i2 : Int32) (I : AI) (r : Int32 × AI), f51_b2 kad N Z F a0 i1 i2 I = some r → aGo kad d 51 (2, ([(0, .ref a0), (1, .int i1), (2, .int i2)], [])) (aMem Z I, t) (qI Z t r) := by
  intro F
  induction F with
  | zero => intro a0 ha0 i1 i2 I r h; cases h
  | succ F ih =>
    intro a0 ha0 i1 i2 I r h
    unfold f51_b2 at h
    refine go_ops aMi51 2 _ (f1 := (5, ([(0, .ref a0), (1, .int i1), (2, .int i2)], [.int (6 : Int32), .int i2]))) rfl ?_
    refine gg_br (b := decide ((6 : Int32) ≤ i2)) (tg := 26) (off := 21) aMi51 rfl rfl rfl rfl (fun hb => ?_) (fun hb => ?_)
    · rw [if_pos (of_decide_eq_true hb)] at h
      refine go_ops aMi51 1 _ (f1 := (27, ([(0, .ref a0), (1, .int i1), (2, .int i2)], [.int (Int32.ofInt (-1))]))) rfl ?_
      cases h
      exact go_ret aMi51 rfl aRetI ⟨rfl, rfl⟩
    · rw [if_neg (of_decide_eq_false hb)] at h
      refine go_ops aMi51 3 _ (f1 := (11, ([(0, .ref a0), (1, .int i1), (2, .int i2)], [.int (0 : Int32), .int i2, .ref a0]))) rfl ?_
      obtain ⟨r11_1, hxr11_1, h⟩ := Option.bind_eq_some_iff.mp h
      refine gg_cv (as := [.int i2, .int (0 : Int32)]) (r := []) aMi51 rfl rfl rfl aMi50 (Nat.le_of_ble_eq_true rfl) rfl (Nat.le_of_ble_eq_true rfl) (Nat.le_of_ble_eq_true rfl) (by omega) (isK_of (sh3_z ha0)) (Tf50 (by omega) a0 ha0 i2 (0 : Int32) I _ hxr11_1) ?_
      show aGo kad d 51 (14, ([(0, .ref a0), (1, .int i1), (2, .int i2)], [.int r11_1.1])) (aMem Z r11_1.2, t) _
      refine go_ops aMi51 1 _ (f1 := (15, ([(0, .ref a0), (1, .int i1), (2, .int i2)], [.int i1, .int r11_1.1]))) rfl ?_
      refine gg_br (b := decide (¬ r11_1.1 = i1)) (tg := 20) (off := 5) aMi51 rfl rfl rfl rfl (fun hb => ?_) (fun hb => ?_)
      · rw [if_pos (of_decide_eq_true hb)] at h
        refine go_ops aMi51 2 _ (f1 := (2, ([(2, .int (i2 + (1 : Int32))), (0, .ref a0), (1, .int i1)], []))) rfl ?_
        refine go_le (lv1 := [(0, .ref a0), (1, .int i1), (2, .int (i2 + (1 : Int32)))]) (aLe_of (show (List.map (fun q => q.1) ([(0, .ref a0), (1, .int i1), (2, .int (i2 + (1 : Int32)))] : ALv)).Nodup from (by show ([0, 1, 2] : List Nat).Nodup; decide)) (aSubL_cons rfl (aSubL_cons rfl (aSubL_cons rfl aSubL_nil)))) ?_
        exact ih a0 ha0 i1 (i2 + (1 : Int32)) r11_1.2 _ h
      · rw [if_neg (of_decide_eq_false hb)] at h
        refine go_ops aMi51 1 _ (f1 := (19, ([(0, .ref a0), (1, .int i1), (2, .int i2)], [.int i2]))) rfl ?_
        cases h
        exact go_ret aMi51 rfl aRetI ⟨rfl, rfl⟩
def f51 (kad : Nat → Nat) (N : Nat) (Z : AZ) (a0 : Nat) (i1 : Int32) (I : AI) : Option (Int32 × AI) :=
  f51_b2 kad N Z N a0 i1 (0 : Int32) I
set_option maxRecDepth 20000 in
theorem Tf51 {kad : Nat → Nat} {N : Nat} {Z : AZ} {d : Nat} {t : Option Nat × (Nat × Nat)} (hd : 1 ≤ d) : ∀ (a0 : Nat) (ha0 : sh3 kad Z a0) (i1 : Int32) (I : AI) (r : Int32 × AI), f51 kad N Z a0 i1 I = some r → aGo kad d 51 (0, ([(0, .ref a0), (1, .int i1)], [])) (aMem Z I, t) (qI Z t r) := by
  intro a0 ha0 i1 I r h
  unfold f51 at h
  refine go_ops aMi51 2 _ (f1 := (2, ([(2, .int (0 : Int32)), (0, .ref a0), (1, .int i1)], []))) rfl ?_
  refine go_le (lv1 := [(0, .ref a0), (1, .int i1), (2, .int (0 : Int32))]) (aLe_of (show (List.map (fun q => q.1) ([(0, .ref a0), (1, .int i1), (2, .int (0 : Int32))] : ALv)).Nodup from (by show ([0, 1, 2] : List Nat).Nodup; decide)) (aSubL_cons rfl (aSubL_cons rfl (aSubL_cons rfl aSubL_nil)))) ?_
  exact Tf51_b2 hd N a0 ha0 i1 (0 : Int32) I _ h
-- KernelGym$Clerk.needsBlock (I)Z
def f28_b12 (kad : Nat → Nat) (N : Nat) (Z : AZ) (s0 : Int32) (I : AI) : Option (Int32 × AI) :=
  if s0 = 0 ∨ s0 = 1 then some (s0, I) else none
set_option maxRecDepth 20000 in
theorem Tf28_b12 {kad : Nat → Nat} {N : Nat} {Z : AZ} {d : Nat} {t : Option Nat × (Nat × Nat)} (hd : 0 ≤ d) : ∀ (s0 : Int32) (I : AI) (r : Int32 × AI), f28_b12 kad N Z s0 I = some r → aGo kad d 28 (12, ([], [.int s0])) (aMem Z I, t) (qI Z t r) := by
  intro s0 I r h
  unfold f28_b12 at h
  split at h
  · rename_i hz
    cases h
    exact go_ret aMi28 rfl (aRetZ hz) ⟨rfl, rfl⟩
  · cases h
def f28 (kad : Nat → Nat) (N : Nat) (Z : AZ) (i0 : Int32) (I : AI) : Option (Int32 × AI) :=
  if ¬ (i0 - i0 / (8 : Int32) * (8 : Int32)) = 0 then
    f28_b12 kad N Z (0 : Int32) I
  else
    f28_b12 kad N Z (1 : Int32) I
set_option maxRecDepth 20000 in
theorem Tf28 {kad : Nat → Nat} {N : Nat} {Z : AZ} {d : Nat} {t : Option Nat × (Nat × Nat)} (hd : 0 ≤ d) : ∀ (i0 : Int32) (I : AI) (r : Int32 × AI), f28 kad N Z i0 I = some r → aGo kad d 28 (0, ([(0, .int i0)], [])) (aMem Z I, t) (qI Z t r) := by
  intro i0 I r h
  unfold f28 at h
  refine go_ops aMi28 3 _ (f1 := (4, ([(0, .int i0)], [.int (i0 - i0 / (8 : Int32) * (8 : Int32))]))) rfl ?_
  refine gg_br (b := decide (¬ (i0 - i0 / (8 : Int32) * (8 : Int32)) = 0)) (tg := 11) (off := 7) aMi28 rfl rfl rfl rfl (fun hb => ?_) (fun hb => ?_)
  · rw [if_pos (of_decide_eq_true hb)] at h
    refine go_ops aMi28 1 _ (f1 := (12, ([(0, .int i0)], [.int (0 : Int32)]))) rfl ?_
    refine go_le (lv1 := []) (aLe_of (show (List.map (fun q => q.1) ([] : ALv)).Nodup from (by show ([] : List Nat).Nodup; decide)) aSubL_nil) ?_
    exact Tf28_b12 hd (0 : Int32) I _ h
  · rw [if_neg (of_decide_eq_false hb)] at h
    refine go_ops aMi28 2 _ (f1 := (12, ([(0, .int i0)], [.int (1 : Int32)]))) rfl ?_
    refine go_le (lv1 := []) (aLe_of (show (List.map (fun q => q.1) ([] : ALv)).Nodup from (by show ([] : List Nat).Nodup; decide)) aSubL_nil) ?_
    exact Tf28_b12 hd (1 : Int32) I _ h
-- KernelGym$Disk.usedBlocks ()J
def f55 (kad : Nat → Nat) (N : Nat) (Z : AZ) (a0 : Nat) (I : AI) : Option (Int64 × AI) :=
  (ixA 256 (32 : Int32)).bind fun j6_1 =>
  (ixA 256 (33 : Int32)).bind fun j14_2 =>
  some ((((I (a0 + 1) j6_1).toInt64) ||| (((I (a0 + 1) j14_2).toInt64) <<< ((16 : Int32).toInt64 &&& 63))), I)
set_option maxRecDepth 20000 in
theorem Tf55 {kad : Nat → Nat} {N : Nat} {Z : AZ} {d : Nat} {t : Option Nat × (Nat × Nat)} (hd : 0 ≤ d) : ∀ (a0 : Nat) (ha0 : sh3 kad Z a0) (I : AI) (r : Int64 × AI), f55 kad N Z a0 I = some r → aGo kad d 55 (0, ([(0, .ref a0)], [])) (aMem Z I, t) (qJ Z t r) := by
  intro a0 ha0 I r h
  unfold f55 at h
  refine go_ops aMi55 1 _ (f1 := (1, ([(0, .ref a0)], [.ref a0]))) rfl ?_
  refine gg_gR (b := (a0 + 1)) aMi55 rfl rfl rfl (gR_of (sh3_z ha0) (sh3_r0 ha0)) ?_
  refine go_ops aMi55 1 _ (f1 := (6, ([(0, .ref a0)], [.int (32 : Int32), .ref (a0 + 1)]))) rfl ?_
  obtain ⟨j6_1, hxj6_1, h⟩ := Option.bind_eq_some_iff.mp h
  refine gg_lI (Or.inl ⟨rfl, rfl⟩) aMi55 rfl (lI_of (sh3_a0 ha0) hxj6_1) ?_
  refine go_ops aMi55 2 _ (f1 := (9, ([(0, .ref a0)], [.ref a0, .long ((I (a0 + 1) j6_1).toInt64)]))) rfl ?_
  refine gg_gR (b := (a0 + 1)) aMi55 rfl rfl rfl (gR_of (sh3_z ha0) (sh3_r0 ha0)) ?_
  refine go_ops aMi55 1 _ (f1 := (14, ([(0, .ref a0)], [.int (33 : Int32), .ref (a0 + 1), .long ((I (a0 + 1) j6_1).toInt64)]))) rfl ?_
  obtain ⟨j14_2, hxj14_2, h⟩ := Option.bind_eq_some_iff.mp h
  refine gg_lI (Or.inl ⟨rfl, rfl⟩) aMi55 rfl (lI_of (sh3_a0 ha0) hxj14_2) ?_
  refine go_ops aMi55 4 _ (f1 := (20, ([(0, .ref a0)], [.long (((I (a0 + 1) j6_1).toInt64) ||| (((I (a0 + 1) j14_2).toInt64) <<< ((16 : Int32).toInt64 &&& 63)))]))) rfl ?_
  cases h
  exact go_ret aMi55 rfl rfl ⟨rfl, rfl⟩
-- KernelGym$Disk.firstFreeBlock ()I
def f56_b8 (kad : Nat → Nat) (N : Nat) (Z : AZ) : Nat → Nat → Int64 → Int32 → AI → Option (Int32 × AI)
  | 0, _, _, _, _ => none
  | F + 1, a0, l1, i3, I =>
    if (32 : Int32) ≤ i3 then
      some ((Int32.ofInt (-1)), I)
    else
      if ¬ (lg_cmp ((l1 >>> (i3.toInt64 &&& 63)) &&& (1 : Int64)) (0 : Int64)) = 0 then
        f56_b8 kad N Z F a0 l1 (i3 + (1 : Int32)) I
      else
        some (i3, I)
set_option maxRecDepth 20000 in
theorem Tf56_b8 {kad : Nat → Nat} {N : Nat} {Z : AZ} {d : Nat} {t : Option Nat × (Nat × Nat)} (hd : 1 ≤ d) : ∀ (F : Nat) (a0 : Nat) (ha0 : sh3 kad Z a0) (l1 : Int64) (i3 : Int32) (I : AI) (r : Int32 × AI), f56_b8 kad N Z F a0 l1 i3 I = some r → aGo kad d 56 (8, ([(1, .long l1), (3, .int i3)], [])) (aMem Z I, t) (qI Z t r) := by
  intro F
  induction F with
  | zero => intro a0 ha0 l1 i3 I r h; cases h
  | succ F ih =>
    intro a0 ha0 l1 i3 I r h
    unfold f56_b8 at h
    refine go_ops aMi56 2 _ (f1 := (11, ([(1, .long l1), (3, .int i3)], [.int (32 : Int32), .int i3]))) rfl ?_
    refine gg_br (b := decide ((32 : Int32) ≤ i3)) (tg := 32) (off := 21) aMi56 rfl rfl rfl rfl (fun hb => ?_) (fun hb => ?_)
    · rw [if_pos (of_decide_eq_true hb)] at h
      refine go_ops aMi56 1 _ (f1 := (33, ([(1, .long l1), (3, .int i3)], [.int (Int32.ofInt (-1))]))) rfl ?_
      cases h
      exact go_ret aMi56 rfl aRetI ⟨rfl, rfl⟩
    · rw [if_neg (of_decide_eq_false hb)] at h
      refine go_ops aMi56 7 _ (f1 := (21, ([(1, .long l1), (3, .int i3)], [.int (lg_cmp ((l1 >>> (i3.toInt64 &&& 63)) &&& (1 : Int64)) (0 : Int64))]))) rfl ?_
      refine gg_br (b := decide (¬ (lg_cmp ((l1 >>> (i3.toInt64 &&& 63)) &&& (1 : Int64)) (0 : Int64)) = 0)) (tg := 26) (off := 5) aMi56 rfl rfl rfl rfl (fun hb => ?_) (fun hb => ?_)
      · rw [if_pos (of_decide_eq_true hb)] at h
        refine go_ops aMi56 2 _ (f1 := (8, ([(3, .int (i3 + (1 : Int32))), (1, .long l1)], []))) rfl ?_
        refine go_le (lv1 := [(1, .long l1), (3, .int (i3 + (1 : Int32)))]) (aLe_of (show (List.map (fun q => q.1) ([(1, .long l1), (3, .int (i3 + (1 : Int32)))] : ALv)).Nodup from (by show ([1, 3] : List Nat).Nodup; decide)) (aSubL_cons rfl (aSubL_cons rfl aSubL_nil))) ?_
        exact ih a0 ha0 l1 (i3 + (1 : Int32)) I _ h
      · rw [if_neg (of_decide_eq_false hb)] at h
        refine go_ops aMi56 1 _ (f1 := (25, ([(1, .long l1), (3, .int i3)], [.int i3]))) rfl ?_
        cases h
        exact go_ret aMi56 rfl aRetI ⟨rfl, rfl⟩
def f56 (kad : Nat → Nat) (N : Nat) (Z : AZ) (a0 : Nat) (I : AI) : Option (Int32 × AI) :=
  (f55 kad N Z a0 I).bind fun r1_1 =>
  f56_b8 kad N Z N a0 r1_1.1 (8 : Int32) r1_1.2
set_option maxRecDepth 20000 in
theorem Tf56 {kad : Nat → Nat} {N : Nat} {Z : AZ} {d : Nat} {t : Option Nat × (Nat × Nat)} (hd : 1 ≤ d) : ∀ (a0 : Nat) (ha0 : sh3 kad Z a0) (I : AI) (r : Int32 × AI), f56 kad N Z a0 I = some r → aGo kad d 56 (0, ([(0, .ref a0)], [])) (aMem Z I, t) (qI Z t r) := by
  intro a0 ha0 I r h
  unfold f56 at h
  refine go_ops aMi56 1 _ (f1 := (1, ([(0, .ref a0)], [.ref a0]))) rfl ?_
  obtain ⟨r1_1, hxr1_1, h⟩ := Option.bind_eq_some_iff.mp h
  refine gg_cv (as := []) (r := []) aMi56 rfl rfl rfl aMi55 (Nat.le_of_ble_eq_true rfl) rfl (Nat.le_of_ble_eq_true rfl) (Nat.le_of_ble_eq_true rfl) (by omega) (isK_of (sh3_z ha0)) (Tf55 (by omega) a0 ha0 I _ hxr1_1) ?_
  show aGo kad d 56 (4, ([(0, .ref a0)], [.long r1_1.1])) (aMem Z r1_1.2, t) _
  refine go_ops aMi56 3 _ (f1 := (8, ([(3, .int (8 : Int32)), (1, .long r1_1.1), (0, .ref a0)], []))) rfl ?_
  refine go_le (lv1 := [(1, .long r1_1.1), (3, .int (8 : Int32))]) (aLe_of (show (List.map (fun q => q.1) ([(1, .long r1_1.1), (3, .int (8 : Int32))] : ALv)).Nodup from (by show ([1, 3] : List Nat).Nodup; decide)) (aSubL_cons rfl (aSubL_cons rfl aSubL_nil))) ?_
  exact Tf56_b8 hd N a0 ha0 r1_1.1 (8 : Int32) r1_1.2 _ h
-- KernelGym$Clerk.resultOf (II[ILKernelGym$Disk;)I
def f26_b10 (kad : Nat → Nat) (N : Nat) (Z : AZ) (a0 : Nat) (a4 : Nat) (I : AI) : Option (Int32 × AI) :=
  some ((9 : Int32), I)
set_option maxRecDepth 20000 in
theorem Tf26_b10 {kad : Nat → Nat} {N : Nat} {Z : AZ} {d : Nat} {t : Option Nat × (Nat × Nat)} (hd : 2 ≤ d) : ∀ (a0 : Nat) (ha0 : sh1 kad Z a0) (a4 : Nat) (ha4 : sh3 kad Z a4) (I : AI) (r : Int32 × AI), f26_b10 kad N Z a0 a4 I = some r → aGo kad d 26 (10, ([], [])) (aMem Z I, t) (qI Z t r) := by
  intro a0 ha0 a4 ha4 I r h
  unfold f26_b10 at h
  refine go_ops aMi26 1 _ (f1 := (12, ([], [.int (9 : Int32)]))) rfl ?_
  cases h
  exact go_ret aMi26 rfl aRetI ⟨rfl, rfl⟩
def f26_b45 (kad : Nat → Nat) (N : Nat) (Z : AZ) (a0 : Nat) (a4 : Nat) (s0 : Int32) (I : AI) : Option (Int32 × AI) :=
  some (s0, I)
set_option maxRecDepth 20000 in
theorem Tf26_b45 {kad : Nat → Nat} {N : Nat} {Z : AZ} {d : Nat} {t : Option Nat × (Nat × Nat)} (hd : 2 ≤ d) : ∀ (a0 : Nat) (ha0 : sh1 kad Z a0) (a4 : Nat) (ha4 : sh3 kad Z a4) (s0 : Int32) (I : AI) (r : Int32 × AI), f26_b45 kad N Z a0 a4 s0 I = some r → aGo kad d 26 (45, ([], [.int s0])) (aMem Z I, t) (qI Z t r) := by
  intro a0 ha0 a4 ha4 s0 I r h
  unfold f26_b45 at h
  cases h
  exact go_ret aMi26 rfl aRetI ⟨rfl, rfl⟩
def f26_b27 (kad : Nat → Nat) (N : Nat) (Z : AZ) (a0 : Nat) (a4 : Nat) (I : AI) : Option (Int32 × AI) :=
  f26_b45 kad N Z a0 a4 (1 : Int32) I
set_option maxRecDepth 20000 in
theorem Tf26_b27 {kad : Nat → Nat} {N : Nat} {Z : AZ} {d : Nat} {t : Option Nat × (Nat × Nat)} (hd : 2 ≤ d) : ∀ (a0 : Nat) (ha0 : sh1 kad Z a0) (a4 : Nat) (ha4 : sh3 kad Z a4) (I : AI) (r : Int32 × AI), f26_b27 kad N Z a0 a4 I = some r → aGo kad d 26 (27, ([], [])) (aMem Z I, t) (qI Z t r) := by
  intro a0 ha0 a4 ha4 I r h
  unfold f26_b27 at h
  refine go_ops aMi26 2 _ (f1 := (45, ([], [.int (1 : Int32)]))) rfl ?_
  exact Tf26_b45 hd a0 ha0 a4 ha4 (1 : Int32) I _ h
def f26_b62 (kad : Nat → Nat) (N : Nat) (Z : AZ) (a0 : Nat) (a4 : Nat) (I : AI) : Option (Int32 × AI) :=
  some ((1 : Int32), I)
set_option maxRecDepth 20000 in
theorem Tf26_b62 {kad : Nat → Nat} {N : Nat} {Z : AZ} {d : Nat} {t : Option Nat × (Nat × Nat)} (hd : 2 ≤ d) : ∀ (a0 : Nat) (ha0 : sh1 kad Z a0) (a4 : Nat) (ha4 : sh3 kad Z a4) (I : AI) (r : Int32 × AI), f26_b62 kad N Z a0 a4 I = some r → aGo kad d 26 (62, ([], [])) (aMem Z I, t) (qI Z t r) := by
  intro a0 ha0 a4 ha4 I r h
  unfold f26_b62 at h
  refine go_ops aMi26 1 _ (f1 := (63, ([], [.int (1 : Int32)]))) rfl ?_
  cases h
  exact go_ret aMi26 rfl aRetI ⟨rfl, rfl⟩
def f26_b110 (kad : Nat → Nat) (N : Nat) (Z : AZ) (a0 : Nat) (a4 : Nat) (s0 : Int32) (I : AI) : Option (Int32 × AI) :=
  some (s0, I)
set_option maxRecDepth 20000 in
theorem Tf26_b110 {kad : Nat → Nat} {N : Nat} {Z : AZ} {d : Nat} {t : Option Nat × (Nat × Nat)} (hd : 2 ≤ d) : ∀ (a0 : Nat) (ha0 : sh1 kad Z a0) (a4 : Nat) (ha4 : sh3 kad Z a4) (s0 : Int32) (I : AI) (r : Int32 × AI), f26_b110 kad N Z a0 a4 s0 I = some r → aGo kad d 26 (110, ([], [.int s0])) (aMem Z I, t) (qI Z t r) := by
  intro a0 ha0 a4 ha4 s0 I r h
  unfold f26_b110 at h
  cases h
  exact go_ret aMi26 rfl aRetI ⟨rfl, rfl⟩
def f26_b109 (kad : Nat → Nat) (N : Nat) (Z : AZ) (a0 : Nat) (a4 : Nat) (I : AI) : Option (Int32 × AI) :=
  f26_b110 kad N Z a0 a4 (0 : Int32) I
set_option maxRecDepth 20000 in
theorem Tf26_b109 {kad : Nat → Nat} {N : Nat} {Z : AZ} {d : Nat} {t : Option Nat × (Nat × Nat)} (hd : 2 ≤ d) : ∀ (a0 : Nat) (ha0 : sh1 kad Z a0) (a4 : Nat) (ha4 : sh3 kad Z a4) (I : AI) (r : Int32 × AI), f26_b109 kad N Z a0 a4 I = some r → aGo kad d 26 (109, ([], [])) (aMem Z I, t) (qI Z t r) := by
  intro a0 ha0 a4 ha4 I r h
  unfold f26_b109 at h
  refine go_ops aMi26 1 _ (f1 := (110, ([], [.int (0 : Int32)]))) rfl ?_
  exact Tf26_b110 hd a0 ha0 a4 ha4 (0 : Int32) I _ h
def f26_b134 (kad : Nat → Nat) (N : Nat) (Z : AZ) (a0 : Nat) (a4 : Nat) (s0 : Int32) (I : AI) : Option (Int32 × AI) :=
  some (s0, I)
set_option maxRecDepth 20000 in
theorem Tf26_b134 {kad : Nat → Nat} {N : Nat} {Z : AZ} {d : Nat} {t : Option Nat × (Nat × Nat)} (hd : 2 ≤ d) : ∀ (a0 : Nat) (ha0 : sh1 kad Z a0) (a4 : Nat) (ha4 : sh3 kad Z a4) (s0 : Int32) (I : AI) (r : Int32 × AI), f26_b134 kad N Z a0 a4 s0 I = some r → aGo kad d 26 (134, ([], [.int s0])) (aMem Z I, t) (qI Z t r) := by
  intro a0 ha0 a4 ha4 s0 I r h
  unfold f26_b134 at h
  cases h
  exact go_ret aMi26 rfl aRetI ⟨rfl, rfl⟩
def f26_b133 (kad : Nat → Nat) (N : Nat) (Z : AZ) (a0 : Nat) (a4 : Nat) (I : AI) : Option (Int32 × AI) :=
  f26_b134 kad N Z a0 a4 (0 : Int32) I
set_option maxRecDepth 20000 in
theorem Tf26_b133 {kad : Nat → Nat} {N : Nat} {Z : AZ} {d : Nat} {t : Option Nat × (Nat × Nat)} (hd : 2 ≤ d) : ∀ (a0 : Nat) (ha0 : sh1 kad Z a0) (a4 : Nat) (ha4 : sh3 kad Z a4) (I : AI) (r : Int32 × AI), f26_b133 kad N Z a0 a4 I = some r → aGo kad d 26 (133, ([], [])) (aMem Z I, t) (qI Z t r) := by
  intro a0 ha0 a4 ha4 I r h
  unfold f26_b133 at h
  refine go_ops aMi26 1 _ (f1 := (134, ([], [.int (0 : Int32)]))) rfl ?_
  exact Tf26_b134 hd a0 ha0 a4 ha4 (0 : Int32) I _ h
def f26_b121 (kad : Nat → Nat) (N : Nat) (Z : AZ) (a0 : Nat) (a4 : Nat) (b3 : Nat) (i5 : Int32) (I : AI) : Option (Int32 × AI) :=
  (lI Z I 100 b3 (1 : Int32)).bind fun x123_1 =>
  if x123_1 < i5 then
    f26_b133 kad N Z a0 a4 I
  else
    f26_b134 kad N Z a0 a4 (2 : Int32) I
set_option maxRecDepth 20000 in
theorem Tf26_b121 {kad : Nat → Nat} {N : Nat} {Z : AZ} {d : Nat} {t : Option Nat × (Nat × Nat)} (hd : 2 ≤ d) : ∀ (a0 : Nat) (ha0 : sh1 kad Z a0) (a4 : Nat) (ha4 : sh3 kad Z a4) (b3 : Nat) (i5 : Int32) (I : AI) (r : Int32 × AI), f26_b121 kad N Z a0 a4 b3 i5 I = some r → aGo kad d 26 (121, ([(3, .ref b3), (5, .int i5)], [])) (aMem Z I, t) (qI Z t r) := by
  intro a0 ha0 a4 ha4 b3 i5 I r h
  unfold f26_b121 at h
  refine go_ops aMi26 2 _ (f1 := (123, ([(3, .ref b3), (5, .int i5)], [.int (1 : Int32), .ref b3]))) rfl ?_
  obtain ⟨x123_1, hxx123_1, h⟩ := Option.bind_eq_some_iff.mp h
  refine gg_lI (Or.inl ⟨rfl, rfl⟩) aMi26 rfl hxx123_1 ?_
  refine go_ops aMi26 1 _ (f1 := (126, ([(3, .ref b3), (5, .int i5)], [.int i5, .int x123_1]))) rfl ?_
  refine gg_br (b := decide (x123_1 < i5)) (tg := 133) (off := 7) aMi26 rfl rfl rfl rfl (fun hb => ?_) (fun hb => ?_)
  · rw [if_pos (of_decide_eq_true hb)] at h
    refine go_le (lv1 := []) (aLe_of (show (List.map (fun q => q.1) ([] : ALv)).Nodup from (by show ([] : List Nat).Nodup; decide)) aSubL_nil) ?_
    exact Tf26_b133 hd a0 ha0 a4 ha4 I _ h
  · rw [if_neg (of_decide_eq_false hb)] at h
    refine go_ops aMi26 2 _ (f1 := (134, ([(3, .ref b3), (5, .int i5)], [.int (2 : Int32)]))) rfl ?_
    refine go_le (lv1 := []) (aLe_of (show (List.map (fun q => q.1) ([] : ALv)).Nodup from (by show ([] : List Nat).Nodup; decide)) aSubL_nil) ?_
    exact Tf26_b134 hd a0 ha0 a4 ha4 (2 : Int32) I _ h
def f26_b64 (kad : Nat → Nat) (N : Nat) (Z : AZ) (a0 : Nat) (a4 : Nat) (i1 : Int32) (i2 : Int32) (b3 : Nat) (I : AI) : Option (Int32 × AI) :=
  (f50 kad N Z a4 i2 (1 : Int32) I).bind fun r68_1 =>
  if ¬ i1 = (1 : Int32) then
    if i1 = (2 : Int32) then
      f26_b121 kad N Z a0 a4 b3 r68_1.1 r68_1.2
    else
      if ¬ i1 = (3 : Int32) then
        f26_b133 kad N Z a0 a4 r68_1.2
      else
        f26_b121 kad N Z a0 a4 b3 r68_1.1 r68_1.2
  else
    if r68_1.1 < (16 : Int32) then
      (f28 kad N Z r68_1.1 r68_1.2).bind fun r91_2 =>
      if r91_2.1 = 0 then
        f26_b109 kad N Z a0 a4 r91_2.2
      else
        (f56 kad N Z a4 r91_2.2).bind fun r99_3 =>
        if 0 ≤ r99_3.1 then
          f26_b109 kad N Z a0 a4 r99_3.2
        else
          f26_b110 kad N Z a0 a4 (3 : Int32) r99_3.2
    else
      f26_b110 kad N Z a0 a4 (2 : Int32) r68_1.2
set_option maxRecDepth 20000 in
theorem Tf26_b64 {kad : Nat → Nat} {N : Nat} {Z : AZ} {d : Nat} {t : Option Nat × (Nat × Nat)} (hd : 2 ≤ d) : ∀ (a0 : Nat) (ha0 : sh1 kad Z a0) (a4 : Nat) (ha4 : sh3 kad Z a4) (i1 : Int32) (i2 : Int32) (b3 : Nat) (I : AI) (r : Int32 × AI), f26_b64 kad N Z a0 a4 i1 i2 b3 I = some r → aGo kad d 26 (64, ([(1, .int i1), (2, .int i2), (3, .ref b3), (4, .ref a4)], [])) (aMem Z I, t) (qI Z t r) := by
  intro a0 ha0 a4 ha4 i1 i2 b3 I r h
  unfold f26_b64 at h
  refine go_ops aMi26 3 _ (f1 := (68, ([(1, .int i1), (2, .int i2), (3, .ref b3), (4, .ref a4)], [.int (1 : Int32), .int i2, .ref a4]))) rfl ?_
  obtain ⟨r68_1, hxr68_1, h⟩ := Option.bind_eq_some_iff.mp h
  refine gg_cv (as := [.int i2, .int (1 : Int32)]) (r := []) aMi26 rfl rfl rfl aMi50 (Nat.le_of_ble_eq_true rfl) rfl (Nat.le_of_ble_eq_true rfl) (Nat.le_of_ble_eq_true rfl) (by omega) (isK_of (sh3_z ha4)) (Tf50 (by omega) a4 ha4 i2 (1 : Int32) I _ hxr68_1) ?_
  show aGo kad d 26 (71, ([(1, .int i1), (2, .int i2), (3, .ref b3), (4, .ref a4)], [.int r68_1.1])) (aMem Z r68_1.2, t) _
  refine go_ops aMi26 3 _ (f1 := (75, ([(5, .int r68_1.1), (1, .int i1), (2, .int i2), (3, .ref b3), (4, .ref a4)], [.int (1 : Int32), .int i1]))) rfl ?_
  refine gg_br (b := decide (¬ i1 = (1 : Int32))) (tg := 111) (off := 36) aMi26 rfl rfl rfl rfl (fun hb => ?_) (fun hb => ?_)
  · rw [if_pos (of_decide_eq_true hb)] at h
    refine go_ops aMi26 2 _ (f1 := (113, ([(5, .int r68_1.1), (1, .int i1), (2, .int i2), (3, .ref b3), (4, .ref a4)], [.int (2 : Int32), .int i1]))) rfl ?_
    refine gg_br (b := decide (i1 = (2 : Int32))) (tg := 121) (off := 8) aMi26 rfl rfl rfl rfl (fun hb => ?_) (fun hb => ?_)
    · rw [if_pos (of_decide_eq_true hb)] at h
      refine go_le (lv1 := [(3, .ref b3), (5, .int r68_1.1)]) (aLe_of (show (List.map (fun q => q.1) ([(3, .ref b3), (5, .int r68_1.1)] : ALv)).Nodup from (by show ([3, 5] : List Nat).Nodup; decide)) (aSubL_cons rfl (aSubL_cons rfl aSubL_nil))) ?_
      exact Tf26_b121 hd a0 ha0 a4 ha4 b3 r68_1.1 r68_1.2 _ h
    · rw [if_neg (of_decide_eq_false hb)] at h
      refine go_ops aMi26 2 _ (f1 := (118, ([(5, .int r68_1.1), (1, .int i1), (2, .int i2), (3, .ref b3), (4, .ref a4)], [.int (3 : Int32), .int i1]))) rfl ?_
      refine gg_br (b := decide (¬ i1 = (3 : Int32))) (tg := 133) (off := 15) aMi26 rfl rfl rfl rfl (fun hb => ?_) (fun hb => ?_)
      · rw [if_pos (of_decide_eq_true hb)] at h
        refine go_le (lv1 := []) (aLe_of (show (List.map (fun q => q.1) ([] : ALv)).Nodup from (by show ([] : List Nat).Nodup; decide)) aSubL_nil) ?_
        exact Tf26_b133 hd a0 ha0 a4 ha4 r68_1.2 _ h
      · rw [if_neg (of_decide_eq_false hb)] at h
        refine go_le (lv1 := [(3, .ref b3), (5, .int r68_1.1)]) (aLe_of (show (List.map (fun q => q.1) ([(3, .ref b3), (5, .int r68_1.1)] : ALv)).Nodup from (by show ([3, 5] : List Nat).Nodup; decide)) (aSubL_cons rfl (aSubL_cons rfl aSubL_nil))) ?_
        exact Tf26_b121 hd a0 ha0 a4 ha4 b3 r68_1.1 r68_1.2 _ h
  · rw [if_neg (of_decide_eq_false hb)] at h
    refine go_ops aMi26 2 _ (f1 := (82, ([(5, .int r68_1.1), (1, .int i1), (2, .int i2), (3, .ref b3), (4, .ref a4)], [.int (16 : Int32), .int r68_1.1]))) rfl ?_
    refine gg_br (b := decide (r68_1.1 < (16 : Int32))) (tg := 89) (off := 7) aMi26 rfl rfl rfl rfl (fun hb => ?_) (fun hb => ?_)
    · rw [if_pos (of_decide_eq_true hb)] at h
      refine go_ops aMi26 1 _ (f1 := (91, ([(5, .int r68_1.1), (1, .int i1), (2, .int i2), (3, .ref b3), (4, .ref a4)], [.int r68_1.1]))) rfl ?_
      obtain ⟨r91_2, hxr91_2, h⟩ := Option.bind_eq_some_iff.mp h
      refine gg_cs (as := [.int r68_1.1]) (r := []) aMi26 rfl rfl rfl aMi28 rfl (Nat.le_of_ble_eq_true rfl) (Nat.le_of_ble_eq_true rfl) (by omega) (Tf28 (by omega) r68_1.1 r68_1.2 _ hxr91_2) ?_
      show aGo kad d 26 (94, ([(5, .int r68_1.1), (1, .int i1), (2, .int i2), (3, .ref b3), (4, .ref a4)], [.int r91_2.1])) (aMem Z r91_2.2, t) _
      refine gg_br (b := decide (r91_2.1 = 0)) (tg := 109) (off := 15) aMi26 rfl rfl rfl rfl (fun hb => ?_) (fun hb => ?_)
      · rw [if_pos (of_decide_eq_true hb)] at h
        refine go_le (lv1 := []) (aLe_of (show (List.map (fun q => q.1) ([] : ALv)).Nodup from (by show ([] : List Nat).Nodup; decide)) aSubL_nil) ?_
        exact Tf26_b109 hd a0 ha0 a4 ha4 r91_2.2 _ h
      · rw [if_neg (of_decide_eq_false hb)] at h
        refine go_ops aMi26 1 _ (f1 := (99, ([(5, .int r68_1.1), (1, .int i1), (2, .int i2), (3, .ref b3), (4, .ref a4)], [.ref a4]))) rfl ?_
        obtain ⟨r99_3, hxr99_3, h⟩ := Option.bind_eq_some_iff.mp h
        refine gg_cv (as := []) (r := []) aMi26 rfl rfl rfl aMi56 (Nat.le_of_ble_eq_true rfl) rfl (Nat.le_of_ble_eq_true rfl) (Nat.le_of_ble_eq_true rfl) (by omega) (isK_of (sh3_z ha4)) (Tf56 (by omega) a4 ha4 r91_2.2 _ hxr99_3) ?_
        show aGo kad d 26 (102, ([(5, .int r68_1.1), (1, .int i1), (2, .int i2), (3, .ref b3), (4, .ref a4)], [.int r99_3.1])) (aMem Z r99_3.2, t) _
        refine gg_br (b := decide (0 ≤ r99_3.1)) (tg := 109) (off := 7) aMi26 rfl rfl rfl rfl (fun hb => ?_) (fun hb => ?_)
        · rw [if_pos (of_decide_eq_true hb)] at h
          refine go_le (lv1 := []) (aLe_of (show (List.map (fun q => q.1) ([] : ALv)).Nodup from (by show ([] : List Nat).Nodup; decide)) aSubL_nil) ?_
          exact Tf26_b109 hd a0 ha0 a4 ha4 r99_3.2 _ h
        · rw [if_neg (of_decide_eq_false hb)] at h
          refine go_ops aMi26 2 _ (f1 := (110, ([(5, .int r68_1.1), (1, .int i1), (2, .int i2), (3, .ref b3), (4, .ref a4)], [.int (3 : Int32)]))) rfl ?_
          refine go_le (lv1 := []) (aLe_of (show (List.map (fun q => q.1) ([] : ALv)).Nodup from (by show ([] : List Nat).Nodup; decide)) aSubL_nil) ?_
          exact Tf26_b110 hd a0 ha0 a4 ha4 (3 : Int32) r99_3.2 _ h
    · rw [if_neg (of_decide_eq_false hb)] at h
      refine go_ops aMi26 2 _ (f1 := (110, ([(5, .int r68_1.1), (1, .int i1), (2, .int i2), (3, .ref b3), (4, .ref a4)], [.int (2 : Int32)]))) rfl ?_
      refine go_le (lv1 := []) (aLe_of (show (List.map (fun q => q.1) ([] : ALv)).Nodup from (by show ([] : List Nat).Nodup; decide)) aSubL_nil) ?_
      exact Tf26_b110 hd a0 ha0 a4 ha4 (2 : Int32) r68_1.2 _ h
def f26 (kad : Nat → Nat) (N : Nat) (Z : AZ) (a0 : Nat) (i1 : Int32) (i2 : Int32) (b3 : Nat) (a4 : Nat) (I : AI) : Option (Int32 × AI) :=
  if i1 < 0 then
    f26_b10 kad N Z a0 a4 I
  else
    if i1 ≤ (6 : Int32) then
      if ¬ i1 = 0 then
        if i2 < 0 then
          f26_b62 kad N Z a0 a4 I
        else
          if ¬ i1 = (6 : Int32) then
            f26_b64 kad N Z a0 a4 i1 i2 b3 I
          else
            (lI Z I 100 b3 (1 : Int32)).bind fun x58_1 =>
            if ¬ x58_1 = 0 then
              f26_b64 kad N Z a0 a4 i1 i2 b3 I
            else
              f26_b62 kad N Z a0 a4 I
      else
        if 0 ≤ i2 then
          f26_b27 kad N Z a0 a4 I
        else
          (lI Z I 100 b3 (0 : Int32)).bind fun x23_2 =>
          if ¬ x23_2 = 0 then
            (f51 kad N Z a4 (0 : Int32) I).bind fun r34_3 =>
            if 0 ≤ r34_3.1 then
              f26_b45 kad N Z a0 a4 (0 : Int32) r34_3.2
            else
              f26_b45 kad N Z a0 a4 (2 : Int32) r34_3.2
          else
            f26_b27 kad N Z a0 a4 I
    else
      f26_b10 kad N Z a0 a4 I
set_option maxRecDepth 20000 in
theorem Tf26 {kad : Nat → Nat} {N : Nat} {Z : AZ} {d : Nat} {t : Option Nat × (Nat × Nat)} (hd : 2 ≤ d) : ∀ (a0 : Nat) (ha0 : sh1 kad Z a0) (i1 : Int32) (i2 : Int32) (b3 : Nat) (a4 : Nat) (ha4 : sh3 kad Z a4) (I : AI) (r : Int32 × AI), f26 kad N Z a0 i1 i2 b3 a4 I = some r → aGo kad d 26 (0, ([(0, .ref a0), (1, .int i1), (2, .int i2), (3, .ref b3), (4, .ref a4)], [])) (aMem Z I, t) (qI Z t r) := by
  intro a0 ha0 i1 i2 b3 a4 ha4 I r h
  unfold f26 at h
  refine go_ops aMi26 1 _ (f1 := (1, ([(0, .ref a0), (1, .int i1), (2, .int i2), (3, .ref b3), (4, .ref a4)], [.int i1]))) rfl ?_
  refine gg_br (b := decide (i1 < 0)) (tg := 10) (off := 9) aMi26 rfl rfl rfl rfl (fun hb => ?_) (fun hb => ?_)
  · rw [if_pos (of_decide_eq_true hb)] at h
    refine go_le (lv1 := []) (aLe_of (show (List.map (fun q => q.1) ([] : ALv)).Nodup from (by show ([] : List Nat).Nodup; decide)) aSubL_nil) ?_
    exact Tf26_b10 hd a0 ha0 a4 ha4 I _ h
  · rw [if_neg (of_decide_eq_false hb)] at h
    refine go_ops aMi26 2 _ (f1 := (7, ([(0, .ref a0), (1, .int i1), (2, .int i2), (3, .ref b3), (4, .ref a4)], [.int (6 : Int32), .int i1]))) rfl ?_
    refine gg_br (b := decide (i1 ≤ (6 : Int32))) (tg := 13) (off := 6) aMi26 rfl rfl rfl rfl (fun hb => ?_) (fun hb => ?_)
    · rw [if_pos (of_decide_eq_true hb)] at h
      refine go_ops aMi26 1 _ (f1 := (14, ([(0, .ref a0), (1, .int i1), (2, .int i2), (3, .ref b3), (4, .ref a4)], [.int i1]))) rfl ?_
      refine gg_br (b := decide (¬ i1 = 0)) (tg := 46) (off := 32) aMi26 rfl rfl rfl rfl (fun hb => ?_) (fun hb => ?_)
      · rw [if_pos (of_decide_eq_true hb)] at h
        refine go_ops aMi26 1 _ (f1 := (47, ([(0, .ref a0), (1, .int i1), (2, .int i2), (3, .ref b3), (4, .ref a4)], [.int i2]))) rfl ?_
        refine gg_br (b := decide (i2 < 0)) (tg := 62) (off := 15) aMi26 rfl rfl rfl rfl (fun hb => ?_) (fun hb => ?_)
        · rw [if_pos (of_decide_eq_true hb)] at h
          refine go_le (lv1 := []) (aLe_of (show (List.map (fun q => q.1) ([] : ALv)).Nodup from (by show ([] : List Nat).Nodup; decide)) aSubL_nil) ?_
          exact Tf26_b62 hd a0 ha0 a4 ha4 I _ h
        · rw [if_neg (of_decide_eq_false hb)] at h
          refine go_ops aMi26 2 _ (f1 := (53, ([(0, .ref a0), (1, .int i1), (2, .int i2), (3, .ref b3), (4, .ref a4)], [.int (6 : Int32), .int i1]))) rfl ?_
          refine gg_br (b := decide (¬ i1 = (6 : Int32))) (tg := 64) (off := 11) aMi26 rfl rfl rfl rfl (fun hb => ?_) (fun hb => ?_)
          · rw [if_pos (of_decide_eq_true hb)] at h
            refine go_le (lv1 := [(1, .int i1), (2, .int i2), (3, .ref b3), (4, .ref a4)]) (aLe_of (show (List.map (fun q => q.1) ([(1, .int i1), (2, .int i2), (3, .ref b3), (4, .ref a4)] : ALv)).Nodup from (by show ([1, 2, 3, 4] : List Nat).Nodup; decide)) (aSubL_cons rfl (aSubL_cons rfl (aSubL_cons rfl (aSubL_cons rfl aSubL_nil))))) ?_
            exact Tf26_b64 hd a0 ha0 a4 ha4 i1 i2 b3 I _ h
          · rw [if_neg (of_decide_eq_false hb)] at h
            refine go_ops aMi26 2 _ (f1 := (58, ([(0, .ref a0), (1, .int i1), (2, .int i2), (3, .ref b3), (4, .ref a4)], [.int (1 : Int32), .ref b3]))) rfl ?_
            obtain ⟨x58_1, hxx58_1, h⟩ := Option.bind_eq_some_iff.mp h
            refine gg_lI (Or.inl ⟨rfl, rfl⟩) aMi26 rfl hxx58_1 ?_
            refine gg_br (b := decide (¬ x58_1 = 0)) (tg := 64) (off := 5) aMi26 rfl rfl rfl rfl (fun hb => ?_) (fun hb => ?_)
            · rw [if_pos (of_decide_eq_true hb)] at h
              refine go_le (lv1 := [(1, .int i1), (2, .int i2), (3, .ref b3), (4, .ref a4)]) (aLe_of (show (List.map (fun q => q.1) ([(1, .int i1), (2, .int i2), (3, .ref b3), (4, .ref a4)] : ALv)).Nodup from (by show ([1, 2, 3, 4] : List Nat).Nodup; decide)) (aSubL_cons rfl (aSubL_cons rfl (aSubL_cons rfl (aSubL_cons rfl aSubL_nil))))) ?_
              exact Tf26_b64 hd a0 ha0 a4 ha4 i1 i2 b3 I _ h
            · rw [if_neg (of_decide_eq_false hb)] at h
              refine go_le (lv1 := []) (aLe_of (show (List.map (fun q => q.1) ([] : ALv)).Nodup from (by show ([] : List Nat).Nodup; decide)) aSubL_nil) ?_
              exact Tf26_b62 hd a0 ha0 a4 ha4 I _ h
      · rw [if_neg (of_decide_eq_false hb)] at h
        refine go_ops aMi26 1 _ (f1 := (18, ([(0, .ref a0), (1, .int i1), (2, .int i2), (3, .ref b3), (4, .ref a4)], [.int i2]))) rfl ?_
        refine gg_br (b := decide (0 ≤ i2)) (tg := 27) (off := 9) aMi26 rfl rfl rfl rfl (fun hb => ?_) (fun hb => ?_)
        · rw [if_pos (of_decide_eq_true hb)] at h
          refine go_le (lv1 := []) (aLe_of (show (List.map (fun q => q.1) ([] : ALv)).Nodup from (by show ([] : List Nat).Nodup; decide)) aSubL_nil) ?_
          exact Tf26_b27 hd a0 ha0 a4 ha4 I _ h
        · rw [if_neg (of_decide_eq_false hb)] at h
          refine go_ops aMi26 2 _ (f1 := (23, ([(0, .ref a0), (1, .int i1), (2, .int i2), (3, .ref b3), (4, .ref a4)], [.int (0 : Int32), .ref b3]))) rfl ?_
          obtain ⟨x23_2, hxx23_2, h⟩ := Option.bind_eq_some_iff.mp h
          refine gg_lI (Or.inl ⟨rfl, rfl⟩) aMi26 rfl hxx23_2 ?_
          refine gg_br (b := decide (¬ x23_2 = 0)) (tg := 31) (off := 7) aMi26 rfl rfl rfl rfl (fun hb => ?_) (fun hb => ?_)
          · rw [if_pos (of_decide_eq_true hb)] at h
            refine go_ops aMi26 2 _ (f1 := (34, ([(0, .ref a0), (1, .int i1), (2, .int i2), (3, .ref b3), (4, .ref a4)], [.int (0 : Int32), .ref a4]))) rfl ?_
            obtain ⟨r34_3, hxr34_3, h⟩ := Option.bind_eq_some_iff.mp h
            refine gg_cv (as := [.int (0 : Int32)]) (r := []) aMi26 rfl rfl rfl aMi51 (Nat.le_of_ble_eq_true rfl) rfl (Nat.le_of_ble_eq_true rfl) (Nat.le_of_ble_eq_true rfl) (by omega) (isK_of (sh3_z ha4)) (Tf51 (by omega) a4 ha4 (0 : Int32) I _ hxr34_3) ?_
            show aGo kad d 26 (37, ([(0, .ref a0), (1, .int i1), (2, .int i2), (3, .ref b3), (4, .ref a4)], [.int r34_3.1])) (aMem Z r34_3.2, t) _
            refine gg_br (b := decide (0 ≤ r34_3.1)) (tg := 44) (off := 7) aMi26 rfl rfl rfl rfl (fun hb => ?_) (fun hb => ?_)
            · rw [if_pos (of_decide_eq_true hb)] at h
              refine go_ops aMi26 1 _ (f1 := (45, ([(0, .ref a0), (1, .int i1), (2, .int i2), (3, .ref b3), (4, .ref a4)], [.int (0 : Int32)]))) rfl ?_
              refine go_le (lv1 := []) (aLe_of (show (List.map (fun q => q.1) ([] : ALv)).Nodup from (by show ([] : List Nat).Nodup; decide)) aSubL_nil) ?_
              exact Tf26_b45 hd a0 ha0 a4 ha4 (0 : Int32) r34_3.2 _ h
            · rw [if_neg (of_decide_eq_false hb)] at h
              refine go_ops aMi26 2 _ (f1 := (45, ([(0, .ref a0), (1, .int i1), (2, .int i2), (3, .ref b3), (4, .ref a4)], [.int (2 : Int32)]))) rfl ?_
              refine go_le (lv1 := []) (aLe_of (show (List.map (fun q => q.1) ([] : ALv)).Nodup from (by show ([] : List Nat).Nodup; decide)) aSubL_nil) ?_
              exact Tf26_b45 hd a0 ha0 a4 ha4 (2 : Int32) r34_3.2 _ h
          · rw [if_neg (of_decide_eq_false hb)] at h
            refine go_le (lv1 := []) (aLe_of (show (List.map (fun q => q.1) ([] : ALv)).Nodup from (by show ([] : List Nat).Nodup; decide)) aSubL_nil) ?_
            exact Tf26_b27 hd a0 ha0 a4 ha4 I _ h
    · rw [if_neg (of_decide_eq_false hb)] at h
      refine go_le (lv1 := []) (aLe_of (show (List.map (fun q => q.1) ([] : ALv)).Nodup from (by show ([] : List Nat).Nodup; decide)) aSubL_nil) ?_
      exact Tf26_b10 hd a0 ha0 a4 ha4 I _ h
-- KernelGym$Clerk.begin (LKernelGym$Disk;)V
def f27_b18 (kad : Nat → Nat) (N : Nat) (Z : AZ) : Nat → Nat → Nat → Int32 → AI → Option (Unit × AI)
  | 0, _, _, _, _ => none
  | F + 1, a0, a1, i2, I =>
    if (32 : Int32) ≤ i2 then
      some ((), I)
    else
      (ixA 32 i2).bind fun j30_2 =>
      (wB I (a0 + 2) j30_2 (0 : Int32)).bind fun I30_1 =>
      f27_b18 kad N Z F a0 a1 (i2 + (1 : Int32)) I30_1
set_option maxRecDepth 20000 in
theorem Tf27_b18 {kad : Nat → Nat} {N : Nat} {Z : AZ} {d : Nat} {t : Option Nat × (Nat × Nat)} (hd : 0 ≤ d) : ∀ (F : Nat) (a0 : Nat) (ha0 : sh1 kad Z a0) (a1 : Nat) (ha1 : sh3 kad Z a1) (i2 : Int32) (I : AI) (r : Unit × AI), f27_b18 kad N Z F a0 a1 i2 I = some r → aGo kad d 27 (18, ([(0, .ref a0), (2, .int i2)], [])) (aMem Z I, t) (qV Z t r) := by
  intro F
  induction F with
  | zero => intro a0 ha0 a1 ha1 i2 I r h; cases h
  | succ F ih =>
    intro a0 ha0 a1 ha1 i2 I r h
    unfold f27_b18 at h
    refine go_ops aMi27 2 _ (f1 := (21, ([(0, .ref a0), (2, .int i2)], [.int (32 : Int32), .int i2]))) rfl ?_
    refine gg_br (b := decide ((32 : Int32) ≤ i2)) (tg := 37) (off := 16) aMi27 rfl rfl rfl rfl (fun hb => ?_) (fun hb => ?_)
    · rw [if_pos (of_decide_eq_true hb)] at h
      cases h
      exact go_ret aMi27 rfl rfl ⟨rfl, rfl⟩
    · rw [if_neg (of_decide_eq_false hb)] at h
      refine go_ops aMi27 1 _ (f1 := (25, ([(0, .ref a0), (2, .int i2)], [.ref a0]))) rfl ?_
      refine gg_gR (b := (a0 + 2)) aMi27 rfl rfl rfl (gR_of (sh1_z ha0) (sh1_r1 ha0)) ?_
      refine go_ops aMi27 2 _ (f1 := (30, ([(0, .ref a0), (2, .int i2)], [.int (0 : Int32), .int i2, .ref (a0 + 2)]))) rfl ?_
      obtain ⟨j30_2, hxj30_2, h⟩ := Option.bind_eq_some_iff.mp h
      obtain ⟨I30_1, hxI30_1, h⟩ := Option.bind_eq_some_iff.mp h
      refine gg_sI (Or.inr ⟨rfl, rfl⟩) aMi27 rfl (sB_of (sh1_a1 ha0) hxj30_2 hxI30_1) ?_
      refine go_ops aMi27 2 _ (f1 := (18, ([(2, .int (i2 + (1 : Int32))), (0, .ref a0)], []))) rfl ?_
      refine go_le (lv1 := [(0, .ref a0), (2, .int (i2 + (1 : Int32)))]) (aLe_of (show (List.map (fun q => q.1) ([(0, .ref a0), (2, .int (i2 + (1 : Int32)))] : ALv)).Nodup from (by show ([0, 2] : List Nat).Nodup; decide)) (aSubL_cons rfl (aSubL_cons rfl aSubL_nil))) ?_
      exact ih a0 ha0 a1 ha1 (i2 + (1 : Int32)) I30_1 _ h
def f27 (kad : Nat → Nat) (N : Nat) (Z : AZ) (a0 : Nat) (a1 : Nat) (I : AI) : Option (Unit × AI) :=
  (cA I (a1 + 1) 256 (0 : Int32) (a0 + 1) 256 (0 : Int32) (256 : Int32)).bind fun I13_1 =>
  f27_b18 kad N Z N a0 a1 (0 : Int32) I13_1
set_option maxRecDepth 20000 in
theorem Tf27 {kad : Nat → Nat} {N : Nat} {Z : AZ} {d : Nat} {t : Option Nat × (Nat × Nat)} (hd : 0 ≤ d) : ∀ (a0 : Nat) (ha0 : sh1 kad Z a0) (a1 : Nat) (ha1 : sh3 kad Z a1) (I : AI) (r : Unit × AI), f27 kad N Z a0 a1 I = some r → aGo kad d 27 (0, ([(0, .ref a0), (1, .ref a1)], [])) (aMem Z I, t) (qV Z t r) := by
  intro a0 ha0 a1 ha1 I r h
  unfold f27 at h
  refine go_ops aMi27 1 _ (f1 := (1, ([(0, .ref a0), (1, .ref a1)], [.ref a1]))) rfl ?_
  refine gg_gR (b := (a1 + 1)) aMi27 rfl rfl rfl (gR_of (sh3_z ha1) (sh3_r0 ha1)) ?_
  refine go_ops aMi27 2 _ (f1 := (6, ([(0, .ref a0), (1, .ref a1)], [.ref a0, .int (0 : Int32), .ref (a1 + 1)]))) rfl ?_
  refine gg_gR (b := (a0 + 1)) aMi27 rfl rfl rfl (gR_of (sh1_z ha0) (sh1_r0 ha0)) ?_
  refine go_ops aMi27 2 _ (f1 := (13, ([(0, .ref a0), (1, .ref a1)], [.int (256 : Int32), .int (0 : Int32), .ref (a0 + 1), .int (0 : Int32), .ref (a1 + 1)]))) rfl ?_
  obtain ⟨I13_1, hxI13_1, h⟩ := Option.bind_eq_some_iff.mp h
  refine gg_cp aMi27 rfl rfl (Nat.le_of_ble_eq_true rfl) (cI_of (sh3_a0 ha1) (sh1_a0 ha0) hxI13_1) ?_
  refine go_ops aMi27 2 _ (f1 := (18, ([(2, .int (0 : Int32)), (0, .ref a0), (1, .ref a1)], []))) rfl ?_
  refine go_le (lv1 := [(0, .ref a0), (2, .int (0 : Int32))]) (aLe_of (show (List.map (fun q => q.1) ([(0, .ref a0), (2, .int (0 : Int32))] : ALv)).Nodup from (by show ([0, 2] : List Nat).Nodup; decide)) (aSubL_cons rfl (aSubL_cons rfl aSubL_nil))) ?_
  exact Tf27_b18 hd N a0 ha0 a1 ha1 (0 : Int32) I13_1 _ h
-- KernelGym$Clerk.putInEntry (III)V
def f34_b48 (kad : Nat → Nat) (N : Nat) (Z : AZ) (a0 : Nat) (I : AI) : Option (Unit × AI) :=
  some ((), I)
set_option maxRecDepth 20000 in
theorem Tf34_b48 {kad : Nat → Nat} {N : Nat} {Z : AZ} {d : Nat} {t : Option Nat × (Nat × Nat)} (hd : 0 ≤ d) : ∀ (a0 : Nat) (ha0 : sh1 kad Z a0) (I : AI) (r : Unit × AI), f34_b48 kad N Z a0 I = some r → aGo kad d 34 (48, ([], [])) (aMem Z I, t) (qV Z t r) := by
  intro a0 ha0 I r h
  unfold f34_b48 at h
  cases h
  exact go_ret aMi34 rfl rfl ⟨rfl, rfl⟩
def f34 (kad : Nat → Nat) (N : Nat) (Z : AZ) (a0 : Nat) (i1 : Int32) (i2 : Int32) (i3 : Int32) (I : AI) : Option (Unit × AI) :=
  if i1 < 0 then
    f34_b48 kad N Z a0 I
  else
    if (6 : Int32) ≤ i1 then
      f34_b48 kad N Z a0 I
    else
      if i2 < 0 then
        f34_b48 kad N Z a0 I
      else
        if (4 : Int32) ≤ i2 then
          f34_b48 kad N Z a0 I
        else
          (ixA 256 (((40 : Int32) + (i1 * (4 : Int32))) + i2)).bind fun j36_2 =>
          (wI I (a0 + 1) j36_2 i3).bind fun I36_1 =>
          (ixA 32 ((((40 : Int32) + (i1 * (4 : Int32))) + i2) / (8 : Int32))).bind fun j47_4 =>
          (wB I36_1 (a0 + 2) j47_4 (1 : Int32)).bind fun I47_3 =>
          f34_b48 kad N Z a0 I47_3
set_option maxRecDepth 20000 in
theorem Tf34 {kad : Nat → Nat} {N : Nat} {Z : AZ} {d : Nat} {t : Option Nat × (Nat × Nat)} (hd : 0 ≤ d) : ∀ (a0 : Nat) (ha0 : sh1 kad Z a0) (i1 : Int32) (i2 : Int32) (i3 : Int32) (I : AI) (r : Unit × AI), f34 kad N Z a0 i1 i2 i3 I = some r → aGo kad d 34 (0, ([(0, .ref a0), (1, .int i1), (2, .int i2), (3, .int i3)], [])) (aMem Z I, t) (qV Z t r) := by
  intro a0 ha0 i1 i2 i3 I r h
  unfold f34 at h
  refine go_ops aMi34 1 _ (f1 := (1, ([(0, .ref a0), (1, .int i1), (2, .int i2), (3, .int i3)], [.int i1]))) rfl ?_
  refine gg_br (b := decide (i1 < 0)) (tg := 48) (off := 47) aMi34 rfl rfl rfl rfl (fun hb => ?_) (fun hb => ?_)
  · rw [if_pos (of_decide_eq_true hb)] at h
    refine go_le (lv1 := []) (aLe_of (show (List.map (fun q => q.1) ([] : ALv)).Nodup from (by show ([] : List Nat).Nodup; decide)) aSubL_nil) ?_
    exact Tf34_b48 hd a0 ha0 I _ h
  · rw [if_neg (of_decide_eq_false hb)] at h
    refine go_ops aMi34 2 _ (f1 := (7, ([(0, .ref a0), (1, .int i1), (2, .int i2), (3, .int i3)], [.int (6 : Int32), .int i1]))) rfl ?_
    refine gg_br (b := decide ((6 : Int32) ≤ i1)) (tg := 48) (off := 41) aMi34 rfl rfl rfl rfl (fun hb => ?_) (fun hb => ?_)
    · rw [if_pos (of_decide_eq_true hb)] at h
      refine go_le (lv1 := []) (aLe_of (show (List.map (fun q => q.1) ([] : ALv)).Nodup from (by show ([] : List Nat).Nodup; decide)) aSubL_nil) ?_
      exact Tf34_b48 hd a0 ha0 I _ h
    · rw [if_neg (of_decide_eq_false hb)] at h
      refine go_ops aMi34 1 _ (f1 := (11, ([(0, .ref a0), (1, .int i1), (2, .int i2), (3, .int i3)], [.int i2]))) rfl ?_
      refine gg_br (b := decide (i2 < 0)) (tg := 48) (off := 37) aMi34 rfl rfl rfl rfl (fun hb => ?_) (fun hb => ?_)
      · rw [if_pos (of_decide_eq_true hb)] at h
        refine go_le (lv1 := []) (aLe_of (show (List.map (fun q => q.1) ([] : ALv)).Nodup from (by show ([] : List Nat).Nodup; decide)) aSubL_nil) ?_
        exact Tf34_b48 hd a0 ha0 I _ h
      · rw [if_neg (of_decide_eq_false hb)] at h
        refine go_ops aMi34 2 _ (f1 := (16, ([(0, .ref a0), (1, .int i1), (2, .int i2), (3, .int i3)], [.int (4 : Int32), .int i2]))) rfl ?_
        refine gg_br (b := decide ((4 : Int32) ≤ i2)) (tg := 48) (off := 32) aMi34 rfl rfl rfl rfl (fun hb => ?_) (fun hb => ?_)
        · rw [if_pos (of_decide_eq_true hb)] at h
          refine go_le (lv1 := []) (aLe_of (show (List.map (fun q => q.1) ([] : ALv)).Nodup from (by show ([] : List Nat).Nodup; decide)) aSubL_nil) ?_
          exact Tf34_b48 hd a0 ha0 I _ h
        · rw [if_neg (of_decide_eq_false hb)] at h
          refine go_ops aMi34 9 _ (f1 := (30, ([(4, .int (((40 : Int32) + (i1 * (4 : Int32))) + i2)), (0, .ref a0), (1, .int i1), (2, .int i2), (3, .int i3)], [.ref a0]))) rfl ?_
          refine gg_gR (b := (a0 + 1)) aMi34 rfl rfl rfl (gR_of (sh1_z ha0) (sh1_r0 ha0)) ?_
          refine go_ops aMi34 2 _ (f1 := (36, ([(4, .int (((40 : Int32) + (i1 * (4 : Int32))) + i2)), (0, .ref a0), (1, .int i1), (2, .int i2), (3, .int i3)], [.int i3, .int (((40 : Int32) + (i1 * (4 : Int32))) + i2), .ref (a0 + 1)]))) rfl ?_
          obtain ⟨j36_2, hxj36_2, h⟩ := Option.bind_eq_some_iff.mp h
          obtain ⟨I36_1, hxI36_1, h⟩ := Option.bind_eq_some_iff.mp h
          refine gg_sI (Or.inl ⟨rfl, rfl⟩) aMi34 rfl (sI_of (sh1_a0 ha0) hxj36_2 hxI36_1) ?_
          refine go_ops aMi34 1 _ (f1 := (38, ([(4, .int (((40 : Int32) + (i1 * (4 : Int32))) + i2)), (0, .ref a0), (1, .int i1), (2, .int i2), (3, .int i3)], [.ref a0]))) rfl ?_
          refine gg_gR (b := (a0 + 2)) aMi34 rfl rfl rfl (gR_of (sh1_z ha0) (sh1_r1 ha0)) ?_
          refine go_ops aMi34 4 _ (f1 := (47, ([(4, .int (((40 : Int32) + (i1 * (4 : Int32))) + i2)), (0, .ref a0), (1, .int i1), (2, .int i2), (3, .int i3)], [.int (1 : Int32), .int ((((40 : Int32) + (i1 * (4 : Int32))) + i2) / (8 : Int32)), .ref (a0 + 2)]))) rfl ?_
          obtain ⟨j47_4, hxj47_4, h⟩ := Option.bind_eq_some_iff.mp h
          obtain ⟨I47_3, hxI47_3, h⟩ := Option.bind_eq_some_iff.mp h
          refine gg_sI (Or.inr ⟨rfl, rfl⟩) aMi34 rfl (sB_of (sh1_a1 ha0) hxj47_4 hxI47_3) ?_
          refine go_le (lv1 := []) (aLe_of (show (List.map (fun q => q.1) ([] : ALv)).Nodup from (by show ([] : List Nat).Nodup; decide)) aSubL_nil) ?_
          exact Tf34_b48 hd a0 ha0 I47_3 _ h
-- KernelGym$Disk.whichBlock (I)I
def f48_b11 (kad : Nat → Nat) (N : Nat) (Z : AZ) (s0 : Int32) (I : AI) : Option (Int32 × AI) :=
  some (s0, I)
set_option maxRecDepth 20000 in
theorem Tf48_b11 {kad : Nat → Nat} {N : Nat} {Z : AZ} {d : Nat} {t : Option Nat × (Nat × Nat)} (hd : 0 ≤ d) : ∀ (s0 : Int32) (I : AI) (r : Int32 × AI), f48_b11 kad N Z s0 I = some r → aGo kad d 48 (11, ([], [.int s0])) (aMem Z I, t) (qI Z t r) := by
  intro s0 I r h
  unfold f48_b11 at h
  cases h
  exact go_ret aMi48 rfl aRetI ⟨rfl, rfl⟩
def f48 (kad : Nat → Nat) (N : Nat) (Z : AZ) (i0 : Int32) (I : AI) : Option (Int32 × AI) :=
  if (8 : Int32) ≤ i0 then
    f48_b11 kad N Z (3 : Int32) I
  else
    f48_b11 kad N Z (2 : Int32) I
set_option maxRecDepth 20000 in
theorem Tf48 {kad : Nat → Nat} {N : Nat} {Z : AZ} {d : Nat} {t : Option Nat × (Nat × Nat)} (hd : 0 ≤ d) : ∀ (i0 : Int32) (I : AI) (r : Int32 × AI), f48 kad N Z i0 I = some r → aGo kad d 48 (0, ([(0, .int i0)], [])) (aMem Z I, t) (qI Z t r) := by
  intro i0 I r h
  unfold f48 at h
  refine go_ops aMi48 2 _ (f1 := (3, ([(0, .int i0)], [.int (8 : Int32), .int i0]))) rfl ?_
  refine gg_br (b := decide ((8 : Int32) ≤ i0)) (tg := 10) (off := 7) aMi48 rfl rfl rfl rfl (fun hb => ?_) (fun hb => ?_)
  · rw [if_pos (of_decide_eq_true hb)] at h
    refine go_ops aMi48 1 _ (f1 := (11, ([(0, .int i0)], [.int (3 : Int32)]))) rfl ?_
    refine go_le (lv1 := []) (aLe_of (show (List.map (fun q => q.1) ([] : ALv)).Nodup from (by show ([] : List Nat).Nodup; decide)) aSubL_nil) ?_
    exact Tf48_b11 hd (3 : Int32) I _ h
  · rw [if_neg (of_decide_eq_false hb)] at h
    refine go_ops aMi48 2 _ (f1 := (11, ([(0, .int i0)], [.int (2 : Int32)]))) rfl ?_
    refine go_le (lv1 := []) (aLe_of (show (List.map (fun q => q.1) ([] : ALv)).Nodup from (by show ([] : List Nat).Nodup; decide)) aSubL_nil) ?_
    exact Tf48_b11 hd (2 : Int32) I _ h
-- KernelGym$Clerk.setUsed (IZ)V
def f33_b66 (kad : Nat → Nat) (N : Nat) (Z : AZ) (a0 : Nat) (I : AI) : Option (Unit × AI) :=
  some ((), I)
set_option maxRecDepth 20000 in
theorem Tf33_b66 {kad : Nat → Nat} {N : Nat} {Z : AZ} {d : Nat} {t : Option Nat × (Nat × Nat)} (hd : 0 ≤ d) : ∀ (a0 : Nat) (ha0 : sh1 kad Z a0) (I : AI) (r : Unit × AI), f33_b66 kad N Z a0 I = some r → aGo kad d 33 (66, ([], [])) (aMem Z I, t) (qV Z t r) := by
  intro a0 ha0 I r h
  unfold f33_b66 at h
  cases h
  exact go_ret aMi33 rfl rfl ⟨rfl, rfl⟩
def f33_b58 (kad : Nat → Nat) (N : Nat) (Z : AZ) (a0 : Nat) (s0 : Int32) (s1 : Int32) (I : AI) : Option (Unit × AI) :=
  (ixA 256 s1).bind fun j58_2 =>
  (wI I (a0 + 1) j58_2 s0).bind fun I58_1 =>
  (ixA 32 (4 : Int32)).bind fun j65_4 =>
  (wB I58_1 (a0 + 2) j65_4 (1 : Int32)).bind fun I65_3 =>
  f33_b66 kad N Z a0 I65_3
set_option maxRecDepth 20000 in
theorem Tf33_b58 {kad : Nat → Nat} {N : Nat} {Z : AZ} {d : Nat} {t : Option Nat × (Nat × Nat)} (hd : 0 ≤ d) : ∀ (a0 : Nat) (ha0 : sh1 kad Z a0) (s0 : Int32) (s1 : Int32) (I : AI) (r : Unit × AI), f33_b58 kad N Z a0 s0 s1 I = some r → aGo kad d 33 (58, ([(0, .ref a0)], [.int s0, .int s1, .ref (a0 + 1)])) (aMem Z I, t) (qV Z t r) := by
  intro a0 ha0 s0 s1 I r h
  unfold f33_b58 at h
  obtain ⟨j58_2, hxj58_2, h⟩ := Option.bind_eq_some_iff.mp h
  obtain ⟨I58_1, hxI58_1, h⟩ := Option.bind_eq_some_iff.mp h
  refine gg_sI (Or.inl ⟨rfl, rfl⟩) aMi33 rfl (sI_of (sh1_a0 ha0) hxj58_2 hxI58_1) ?_
  refine go_ops aMi33 1 _ (f1 := (60, ([(0, .ref a0)], [.ref a0]))) rfl ?_
  refine gg_gR (b := (a0 + 2)) aMi33 rfl rfl rfl (gR_of (sh1_z ha0) (sh1_r1 ha0)) ?_
  refine go_ops aMi33 2 _ (f1 := (65, ([(0, .ref a0)], [.int (1 : Int32), .int (4 : Int32), .ref (a0 + 2)]))) rfl ?_
  obtain ⟨j65_4, hxj65_4, h⟩ := Option.bind_eq_some_iff.mp h
  obtain ⟨I65_3, hxI65_3, h⟩ := Option.bind_eq_some_iff.mp h
  refine gg_sI (Or.inr ⟨rfl, rfl⟩) aMi33 rfl (sB_of (sh1_a1 ha0) hxj65_4 hxI65_3) ?_
  refine go_le (lv1 := []) (aLe_of (show (List.map (fun q => q.1) ([] : ALv)).Nodup from (by show ([] : List Nat).Nodup; decide)) aSubL_nil) ?_
  exact Tf33_b66 hd a0 ha0 I65_3 _ h
def f33 (kad : Nat → Nat) (N : Nat) (Z : AZ) (a0 : Nat) (i1 : Int32) (i2 : Int32) (I : AI) : Option (Unit × AI) :=
  if i1 < 0 then
    f33_b66 kad N Z a0 I
  else
    if (32 : Int32) ≤ i1 then
      f33_b66 kad N Z a0 I
    else
      if i2 = 0 then
        (ixA 256 ((32 : Int32) + (i1 / (16 : Int32)))).bind fun j52_1 =>
        f33_b58 kad N Z a0 ((I (a0 + 1) j52_1) &&& (((1 : Int32) <<< ((i1 - i1 / (16 : Int32) * (16 : Int32)) &&& 31)) ^^^ (Int32.ofInt (-1)))) ((32 : Int32) + (i1 / (16 : Int32))) I
      else
        (ixA 256 ((32 : Int32) + (i1 / (16 : Int32)))).bind fun j40_2 =>
        f33_b58 kad N Z a0 ((I (a0 + 1) j40_2) ||| ((1 : Int32) <<< ((i1 - i1 / (16 : Int32) * (16 : Int32)) &&& 31))) ((32 : Int32) + (i1 / (16 : Int32))) I
set_option maxRecDepth 20000 in
theorem Tf33 {kad : Nat → Nat} {N : Nat} {Z : AZ} {d : Nat} {t : Option Nat × (Nat × Nat)} (hd : 0 ≤ d) : ∀ (a0 : Nat) (ha0 : sh1 kad Z a0) (i1 : Int32) (i2 : Int32) (I : AI) (r : Unit × AI), f33 kad N Z a0 i1 i2 I = some r → aGo kad d 33 (0, ([(0, .ref a0), (1, .int i1), (2, .int i2)], [])) (aMem Z I, t) (qV Z t r) := by
  intro a0 ha0 i1 i2 I r h
  unfold f33 at h
  refine go_ops aMi33 1 _ (f1 := (1, ([(0, .ref a0), (1, .int i1), (2, .int i2)], [.int i1]))) rfl ?_
  refine gg_br (b := decide (i1 < 0)) (tg := 66) (off := 65) aMi33 rfl rfl rfl rfl (fun hb => ?_) (fun hb => ?_)
  · rw [if_pos (of_decide_eq_true hb)] at h
    refine go_le (lv1 := []) (aLe_of (show (List.map (fun q => q.1) ([] : ALv)).Nodup from (by show ([] : List Nat).Nodup; decide)) aSubL_nil) ?_
    exact Tf33_b66 hd a0 ha0 I _ h
  · rw [if_neg (of_decide_eq_false hb)] at h
    refine go_ops aMi33 2 _ (f1 := (7, ([(0, .ref a0), (1, .int i1), (2, .int i2)], [.int (32 : Int32), .int i1]))) rfl ?_
    refine gg_br (b := decide ((32 : Int32) ≤ i1)) (tg := 66) (off := 59) aMi33 rfl rfl rfl rfl (fun hb => ?_) (fun hb => ?_)
    · rw [if_pos (of_decide_eq_true hb)] at h
      refine go_le (lv1 := []) (aLe_of (show (List.map (fun q => q.1) ([] : ALv)).Nodup from (by show ([] : List Nat).Nodup; decide)) aSubL_nil) ?_
      exact Tf33_b66 hd a0 ha0 I _ h
    · rw [if_neg (of_decide_eq_false hb)] at h
      refine go_ops aMi33 13 _ (f1 := (27, ([(4, .int ((1 : Int32) <<< ((i1 - i1 / (16 : Int32) * (16 : Int32)) &&& 31))), (3, .int ((32 : Int32) + (i1 / (16 : Int32)))), (0, .ref a0), (1, .int i1), (2, .int i2)], [.ref a0]))) rfl ?_
      refine gg_gR (b := (a0 + 1)) aMi33 rfl rfl rfl (gR_of (sh1_z ha0) (sh1_r0 ha0)) ?_
      refine go_ops aMi33 2 _ (f1 := (32, ([(4, .int ((1 : Int32) <<< ((i1 - i1 / (16 : Int32) * (16 : Int32)) &&& 31))), (3, .int ((32 : Int32) + (i1 / (16 : Int32)))), (0, .ref a0), (1, .int i1), (2, .int i2)], [.int i2, .int ((32 : Int32) + (i1 / (16 : Int32))), .ref (a0 + 1)]))) rfl ?_
      refine gg_br (b := decide (i2 = 0)) (tg := 47) (off := 15) aMi33 rfl rfl rfl rfl (fun hb => ?_) (fun hb => ?_)
      · rw [if_pos (of_decide_eq_true hb)] at h
        refine go_ops aMi33 1 _ (f1 := (48, ([(4, .int ((1 : Int32) <<< ((i1 - i1 / (16 : Int32) * (16 : Int32)) &&& 31))), (3, .int ((32 : Int32) + (i1 / (16 : Int32)))), (0, .ref a0), (1, .int i1), (2, .int i2)], [.ref a0, .int ((32 : Int32) + (i1 / (16 : Int32))), .ref (a0 + 1)]))) rfl ?_
        refine gg_gR (b := (a0 + 1)) aMi33 rfl rfl rfl (gR_of (sh1_z ha0) (sh1_r0 ha0)) ?_
        refine go_ops aMi33 1 _ (f1 := (52, ([(4, .int ((1 : Int32) <<< ((i1 - i1 / (16 : Int32) * (16 : Int32)) &&& 31))), (3, .int ((32 : Int32) + (i1 / (16 : Int32)))), (0, .ref a0), (1, .int i1), (2, .int i2)], [.int ((32 : Int32) + (i1 / (16 : Int32))), .ref (a0 + 1), .int ((32 : Int32) + (i1 / (16 : Int32))), .ref (a0 + 1)]))) rfl ?_
        obtain ⟨j52_1, hxj52_1, h⟩ := Option.bind_eq_some_iff.mp h
        refine gg_lI (Or.inl ⟨rfl, rfl⟩) aMi33 rfl (lI_of (sh1_a0 ha0) hxj52_1) ?_
        refine go_ops aMi33 4 _ (f1 := (58, ([(4, .int ((1 : Int32) <<< ((i1 - i1 / (16 : Int32) * (16 : Int32)) &&& 31))), (3, .int ((32 : Int32) + (i1 / (16 : Int32)))), (0, .ref a0), (1, .int i1), (2, .int i2)], [.int ((I (a0 + 1) j52_1) &&& (((1 : Int32) <<< ((i1 - i1 / (16 : Int32) * (16 : Int32)) &&& 31)) ^^^ (Int32.ofInt (-1)))), .int ((32 : Int32) + (i1 / (16 : Int32))), .ref (a0 + 1)]))) rfl ?_
        refine go_le (lv1 := [(0, .ref a0)]) (aLe_of (show (List.map (fun q => q.1) ([(0, .ref a0)] : ALv)).Nodup from (by show ([0] : List Nat).Nodup; decide)) (aSubL_cons rfl aSubL_nil)) ?_
        exact Tf33_b58 hd a0 ha0 ((I (a0 + 1) j52_1) &&& (((1 : Int32) <<< ((i1 - i1 / (16 : Int32) * (16 : Int32)) &&& 31)) ^^^ (Int32.ofInt (-1)))) ((32 : Int32) + (i1 / (16 : Int32))) I _ h
      · rw [if_neg (of_decide_eq_false hb)] at h
        refine go_ops aMi33 1 _ (f1 := (36, ([(4, .int ((1 : Int32) <<< ((i1 - i1 / (16 : Int32) * (16 : Int32)) &&& 31))), (3, .int ((32 : Int32) + (i1 / (16 : Int32)))), (0, .ref a0), (1, .int i1), (2, .int i2)], [.ref a0, .int ((32 : Int32) + (i1 / (16 : Int32))), .ref (a0 + 1)]))) rfl ?_
        refine gg_gR (b := (a0 + 1)) aMi33 rfl rfl rfl (gR_of (sh1_z ha0) (sh1_r0 ha0)) ?_
        refine go_ops aMi33 1 _ (f1 := (40, ([(4, .int ((1 : Int32) <<< ((i1 - i1 / (16 : Int32) * (16 : Int32)) &&& 31))), (3, .int ((32 : Int32) + (i1 / (16 : Int32)))), (0, .ref a0), (1, .int i1), (2, .int i2)], [.int ((32 : Int32) + (i1 / (16 : Int32))), .ref (a0 + 1), .int ((32 : Int32) + (i1 / (16 : Int32))), .ref (a0 + 1)]))) rfl ?_
        obtain ⟨j40_2, hxj40_2, h⟩ := Option.bind_eq_some_iff.mp h
        refine gg_lI (Or.inl ⟨rfl, rfl⟩) aMi33 rfl (lI_of (sh1_a0 ha0) hxj40_2) ?_
        refine go_ops aMi33 3 _ (f1 := (58, ([(4, .int ((1 : Int32) <<< ((i1 - i1 / (16 : Int32) * (16 : Int32)) &&& 31))), (3, .int ((32 : Int32) + (i1 / (16 : Int32)))), (0, .ref a0), (1, .int i1), (2, .int i2)], [.int ((I (a0 + 1) j40_2) ||| ((1 : Int32) <<< ((i1 - i1 / (16 : Int32) * (16 : Int32)) &&& 31))), .int ((32 : Int32) + (i1 / (16 : Int32))), .ref (a0 + 1)]))) rfl ?_
        refine go_le (lv1 := [(0, .ref a0)]) (aLe_of (show (List.map (fun q => q.1) ([(0, .ref a0)] : ALv)).Nodup from (by show ([0] : List Nat).Nodup; decide)) (aSubL_cons rfl aSubL_nil)) ?_
        exact Tf33_b58 hd a0 ha0 ((I (a0 + 1) j40_2) ||| ((1 : Int32) <<< ((i1 - i1 / (16 : Int32) * (16 : Int32)) &&& 31))) ((32 : Int32) + (i1 / (16 : Int32))) I _ h
-- KernelGym$Clerk.put (III)V
def f35_b39 (kad : Nat → Nat) (N : Nat) (Z : AZ) (a0 : Nat) (I : AI) : Option (Unit × AI) :=
  some ((), I)
set_option maxRecDepth 20000 in
theorem Tf35_b39 {kad : Nat → Nat} {N : Nat} {Z : AZ} {d : Nat} {t : Option Nat × (Nat × Nat)} (hd : 0 ≤ d) : ∀ (a0 : Nat) (ha0 : sh1 kad Z a0) (I : AI) (r : Unit × AI), f35_b39 kad N Z a0 I = some r → aGo kad d 35 (39, ([], [])) (aMem Z I, t) (qV Z t r) := by
  intro a0 ha0 I r h
  unfold f35_b39 at h
  cases h
  exact go_ret aMi35 rfl rfl ⟨rfl, rfl⟩
def f35 (kad : Nat → Nat) (N : Nat) (Z : AZ) (a0 : Nat) (i1 : Int32) (i2 : Int32) (i3 : Int32) (I : AI) : Option (Unit × AI) :=
  if i1 < 0 then
    f35_b39 kad N Z a0 I
  else
    if (32 : Int32) ≤ i1 then
      f35_b39 kad N Z a0 I
    else
      if i2 < 0 then
        f35_b39 kad N Z a0 I
      else
        if (8 : Int32) ≤ i2 then
          f35_b39 kad N Z a0 I
        else
          (ixA 256 ((i1 * (8 : Int32)) + i2)).bind fun j31_2 =>
          (wI I (a0 + 1) j31_2 i3).bind fun I31_1 =>
          (ixA 32 i1).bind fun j38_4 =>
          (wB I31_1 (a0 + 2) j38_4 (1 : Int32)).bind fun I38_3 =>
          f35_b39 kad N Z a0 I38_3
set_option maxRecDepth 20000 in
theorem Tf35 {kad : Nat → Nat} {N : Nat} {Z : AZ} {d : Nat} {t : Option Nat × (Nat × Nat)} (hd : 0 ≤ d) : ∀ (a0 : Nat) (ha0 : sh1 kad Z a0) (i1 : Int32) (i2 : Int32) (i3 : Int32) (I : AI) (r : Unit × AI), f35 kad N Z a0 i1 i2 i3 I = some r → aGo kad d 35 (0, ([(0, .ref a0), (1, .int i1), (2, .int i2), (3, .int i3)], [])) (aMem Z I, t) (qV Z t r) := by
  intro a0 ha0 i1 i2 i3 I r h
  unfold f35 at h
  refine go_ops aMi35 1 _ (f1 := (1, ([(0, .ref a0), (1, .int i1), (2, .int i2), (3, .int i3)], [.int i1]))) rfl ?_
  refine gg_br (b := decide (i1 < 0)) (tg := 39) (off := 38) aMi35 rfl rfl rfl rfl (fun hb => ?_) (fun hb => ?_)
  · rw [if_pos (of_decide_eq_true hb)] at h
    refine go_le (lv1 := []) (aLe_of (show (List.map (fun q => q.1) ([] : ALv)).Nodup from (by show ([] : List Nat).Nodup; decide)) aSubL_nil) ?_
    exact Tf35_b39 hd a0 ha0 I _ h
  · rw [if_neg (of_decide_eq_false hb)] at h
    refine go_ops aMi35 2 _ (f1 := (7, ([(0, .ref a0), (1, .int i1), (2, .int i2), (3, .int i3)], [.int (32 : Int32), .int i1]))) rfl ?_
    refine gg_br (b := decide ((32 : Int32) ≤ i1)) (tg := 39) (off := 32) aMi35 rfl rfl rfl rfl (fun hb => ?_) (fun hb => ?_)
    · rw [if_pos (of_decide_eq_true hb)] at h
      refine go_le (lv1 := []) (aLe_of (show (List.map (fun q => q.1) ([] : ALv)).Nodup from (by show ([] : List Nat).Nodup; decide)) aSubL_nil) ?_
      exact Tf35_b39 hd a0 ha0 I _ h
    · rw [if_neg (of_decide_eq_false hb)] at h
      refine go_ops aMi35 1 _ (f1 := (11, ([(0, .ref a0), (1, .int i1), (2, .int i2), (3, .int i3)], [.int i2]))) rfl ?_
      refine gg_br (b := decide (i2 < 0)) (tg := 39) (off := 28) aMi35 rfl rfl rfl rfl (fun hb => ?_) (fun hb => ?_)
      · rw [if_pos (of_decide_eq_true hb)] at h
        refine go_le (lv1 := []) (aLe_of (show (List.map (fun q => q.1) ([] : ALv)).Nodup from (by show ([] : List Nat).Nodup; decide)) aSubL_nil) ?_
        exact Tf35_b39 hd a0 ha0 I _ h
      · rw [if_neg (of_decide_eq_false hb)] at h
        refine go_ops aMi35 2 _ (f1 := (17, ([(0, .ref a0), (1, .int i1), (2, .int i2), (3, .int i3)], [.int (8 : Int32), .int i2]))) rfl ?_
        refine gg_br (b := decide ((8 : Int32) ≤ i2)) (tg := 39) (off := 22) aMi35 rfl rfl rfl rfl (fun hb => ?_) (fun hb => ?_)
        · rw [if_pos (of_decide_eq_true hb)] at h
          refine go_le (lv1 := []) (aLe_of (show (List.map (fun q => q.1) ([] : ALv)).Nodup from (by show ([] : List Nat).Nodup; decide)) aSubL_nil) ?_
          exact Tf35_b39 hd a0 ha0 I _ h
        · rw [if_neg (of_decide_eq_false hb)] at h
          refine go_ops aMi35 1 _ (f1 := (21, ([(0, .ref a0), (1, .int i1), (2, .int i2), (3, .int i3)], [.ref a0]))) rfl ?_
          refine gg_gR (b := (a0 + 1)) aMi35 rfl rfl rfl (gR_of (sh1_z ha0) (sh1_r0 ha0)) ?_
          refine go_ops aMi35 6 _ (f1 := (31, ([(0, .ref a0), (1, .int i1), (2, .int i2), (3, .int i3)], [.int i3, .int ((i1 * (8 : Int32)) + i2), .ref (a0 + 1)]))) rfl ?_
          obtain ⟨j31_2, hxj31_2, h⟩ := Option.bind_eq_some_iff.mp h
          obtain ⟨I31_1, hxI31_1, h⟩ := Option.bind_eq_some_iff.mp h
          refine gg_sI (Or.inl ⟨rfl, rfl⟩) aMi35 rfl (sI_of (sh1_a0 ha0) hxj31_2 hxI31_1) ?_
          refine go_ops aMi35 1 _ (f1 := (33, ([(0, .ref a0), (1, .int i1), (2, .int i2), (3, .int i3)], [.ref a0]))) rfl ?_
          refine gg_gR (b := (a0 + 2)) aMi35 rfl rfl rfl (gR_of (sh1_z ha0) (sh1_r1 ha0)) ?_
          refine go_ops aMi35 2 _ (f1 := (38, ([(0, .ref a0), (1, .int i1), (2, .int i2), (3, .int i3)], [.int (1 : Int32), .int i1, .ref (a0 + 2)]))) rfl ?_
          obtain ⟨j38_4, hxj38_4, h⟩ := Option.bind_eq_some_iff.mp h
          obtain ⟨I38_3, hxI38_3, h⟩ := Option.bind_eq_some_iff.mp h
          refine gg_sI (Or.inr ⟨rfl, rfl⟩) aMi35 rfl (sB_of (sh1_a1 ha0) hxj38_4 hxI38_3) ?_
          refine go_le (lv1 := []) (aLe_of (show (List.map (fun q => q.1) ([] : ALv)).Nodup from (by show ([] : List Nat).Nodup; decide)) aSubL_nil) ?_
          exact Tf35_b39 hd a0 ha0 I38_3 _ h
-- KernelGym$Clerk.append (IIILKernelGym$Disk;)V
def f30_b87 (kad : Nat → Nat) (N : Nat) (Z : AZ) (a0 : Nat) (a4 : Nat) (i1 : Int32) (i2 : Int32) (i5 : Int32) (i7 : Int32) (I : AI) : Option (Unit × AI) :=
  (f35 kad N Z a0 i7 (i5 - i5 / (8 : Int32) * (8 : Int32)) i2 I).bind fun r96_1 =>
  (f34 kad N Z a0 i1 (1 : Int32) (i5 + (1 : Int32)) r96_1.2).bind fun r106_2 =>
  some ((), r106_2.2)
set_option maxRecDepth 20000 in
theorem Tf30_b87 {kad : Nat → Nat} {N : Nat} {Z : AZ} {d : Nat} {t : Option Nat × (Nat × Nat)} (hd : 1 ≤ d) : ∀ (a0 : Nat) (ha0 : sh1 kad Z a0) (a4 : Nat) (ha4 : sh3 kad Z a4) (i1 : Int32) (i2 : Int32) (i5 : Int32) (i7 : Int32) (I : AI) (r : Unit × AI), f30_b87 kad N Z a0 a4 i1 i2 i5 i7 I = some r → aGo kad d 30 (87, ([(0, .ref a0), (1, .int i1), (2, .int i2), (5, .int i5), (7, .int i7)], [])) (aMem Z I, t) (qV Z t r) := by
  intro a0 ha0 a4 ha4 i1 i2 i5 i7 I r h
  unfold f30_b87 at h
  refine go_ops aMi30 6 _ (f1 := (96, ([(0, .ref a0), (1, .int i1), (2, .int i2), (5, .int i5), (7, .int i7)], [.int i2, .int (i5 - i5 / (8 : Int32) * (8 : Int32)), .int i7, .ref a0]))) rfl ?_
  obtain ⟨r96_1, hxr96_1, h⟩ := Option.bind_eq_some_iff.mp h
  refine gg_cv (as := [.int i7, .int (i5 - i5 / (8 : Int32) * (8 : Int32)), .int i2]) (r := []) aMi30 rfl rfl rfl aMi35 (Nat.le_of_ble_eq_true rfl) rfl (Nat.le_of_ble_eq_true rfl) (Nat.le_of_ble_eq_true rfl) (by omega) (isK_of (sh1_z ha0)) (Tf35 (by omega) a0 ha0 i7 (i5 - i5 / (8 : Int32) * (8 : Int32)) i2 I _ hxr96_1) ?_
  show aGo kad d 30 (99, ([(0, .ref a0), (1, .int i1), (2, .int i2), (5, .int i5), (7, .int i7)], [])) (aMem Z r96_1.2, t) _
  refine go_ops aMi30 6 _ (f1 := (106, ([(0, .ref a0), (1, .int i1), (2, .int i2), (5, .int i5), (7, .int i7)], [.int (i5 + (1 : Int32)), .int (1 : Int32), .int i1, .ref a0]))) rfl ?_
  obtain ⟨r106_2, hxr106_2, h⟩ := Option.bind_eq_some_iff.mp h
  refine gg_cv (as := [.int i1, .int (1 : Int32), .int (i5 + (1 : Int32))]) (r := []) aMi30 rfl rfl rfl aMi34 (Nat.le_of_ble_eq_true rfl) rfl (Nat.le_of_ble_eq_true rfl) (Nat.le_of_ble_eq_true rfl) (by omega) (isK_of (sh1_z ha0)) (Tf34 (by omega) a0 ha0 i1 (1 : Int32) (i5 + (1 : Int32)) r96_1.2 _ hxr106_2) ?_
  show aGo kad d 30 (109, ([(0, .ref a0), (1, .int i1), (2, .int i2), (5, .int i5), (7, .int i7)], [])) (aMem Z r106_2.2, t) _
  cases h
  exact go_ret aMi30 rfl rfl ⟨rfl, rfl⟩
def f30_b65 (kad : Nat → Nat) (N : Nat) (Z : AZ) : Nat → Nat → Nat → Int32 → Int32 → Int32 → Int32 → Int32 → AI → Option (Unit × AI)
  | 0, _, _, _, _, _, _, _, _ => none
  | F + 1, a0, a4, i1, i2, i5, i7, i8, I =>
    if (8 : Int32) ≤ i8 then
      f30_b87 kad N Z a0 a4 i1 i2 i5 i7 I
    else
      (f35 kad N Z a0 i7 i8 (0 : Int32) I).bind fun r78_1 =>
      f30_b65 kad N Z F a0 a4 i1 i2 i5 i7 (i8 + (1 : Int32)) r78_1.2
set_option maxRecDepth 20000 in
theorem Tf30_b65 {kad : Nat → Nat} {N : Nat} {Z : AZ} {d : Nat} {t : Option Nat × (Nat × Nat)} (hd : 1 ≤ d) : ∀ (F : Nat) (a0 : Nat) (ha0 : sh1 kad Z a0) (a4 : Nat) (ha4 : sh3 kad Z a4) (i1 : Int32) (i2 : Int32) (i5 : Int32) (i7 : Int32) (i8 : Int32) (I : AI) (r : Unit × AI), f30_b65 kad N Z F a0 a4 i1 i2 i5 i7 i8 I = some r → aGo kad d 30 (65, ([(0, .ref a0), (1, .int i1), (2, .int i2), (5, .int i5), (7, .int i7), (8, .int i8)], [])) (aMem Z I, t) (qV Z t r) := by
  intro F
  induction F with
  | zero => intro a0 ha0 a4 ha4 i1 i2 i5 i7 i8 I r h; cases h
  | succ F ih =>
    intro a0 ha0 a4 ha4 i1 i2 i5 i7 i8 I r h
    unfold f30_b65 at h
    refine go_ops aMi30 2 _ (f1 := (69, ([(0, .ref a0), (1, .int i1), (2, .int i2), (5, .int i5), (7, .int i7), (8, .int i8)], [.int (8 : Int32), .int i8]))) rfl ?_
    refine gg_br (b := decide ((8 : Int32) ≤ i8)) (tg := 87) (off := 18) aMi30 rfl rfl rfl rfl (fun hb => ?_) (fun hb => ?_)
    · rw [if_pos (of_decide_eq_true hb)] at h
      refine go_le (lv1 := [(0, .ref a0), (1, .int i1), (2, .int i2), (5, .int i5), (7, .int i7)]) (aLe_of (show (List.map (fun q => q.1) ([(0, .ref a0), (1, .int i1), (2, .int i2), (5, .int i5), (7, .int i7)] : ALv)).Nodup from (by show ([0, 1, 2, 5, 7] : List Nat).Nodup; decide)) (aSubL_cons rfl (aSubL_cons rfl (aSubL_cons rfl (aSubL_cons rfl (aSubL_cons rfl aSubL_nil)))))) ?_
      exact Tf30_b87 hd a0 ha0 a4 ha4 i1 i2 i5 i7 I _ h
    · rw [if_neg (of_decide_eq_false hb)] at h
      refine go_ops aMi30 4 _ (f1 := (78, ([(0, .ref a0), (1, .int i1), (2, .int i2), (5, .int i5), (7, .int i7), (8, .int i8)], [.int (0 : Int32), .int i8, .int i7, .ref a0]))) rfl ?_
      obtain ⟨r78_1, hxr78_1, h⟩ := Option.bind_eq_some_iff.mp h
      refine gg_cv (as := [.int i7, .int i8, .int (0 : Int32)]) (r := []) aMi30 rfl rfl rfl aMi35 (Nat.le_of_ble_eq_true rfl) rfl (Nat.le_of_ble_eq_true rfl) (Nat.le_of_ble_eq_true rfl) (by omega) (isK_of (sh1_z ha0)) (Tf35 (by omega) a0 ha0 i7 i8 (0 : Int32) I _ hxr78_1) ?_
      show aGo kad d 30 (81, ([(0, .ref a0), (1, .int i1), (2, .int i2), (5, .int i5), (7, .int i7), (8, .int i8)], [])) (aMem Z r78_1.2, t) _
      refine go_ops aMi30 2 _ (f1 := (65, ([(8, .int (i8 + (1 : Int32))), (0, .ref a0), (1, .int i1), (2, .int i2), (5, .int i5), (7, .int i7)], []))) rfl ?_
      refine go_le (lv1 := [(0, .ref a0), (1, .int i1), (2, .int i2), (5, .int i5), (7, .int i7), (8, .int (i8 + (1 : Int32)))]) (aLe_of (show (List.map (fun q => q.1) ([(0, .ref a0), (1, .int i1), (2, .int i2), (5, .int i5), (7, .int i7), (8, .int (i8 + (1 : Int32)))] : ALv)).Nodup from (by show ([0, 1, 2, 5, 7, 8] : List Nat).Nodup; decide)) (aSubL_cons rfl (aSubL_cons rfl (aSubL_cons rfl (aSubL_cons rfl (aSubL_cons rfl (aSubL_cons rfl aSubL_nil))))))) ?_
      exact ih a0 ha0 a4 ha4 i1 i2 i5 i7 (i8 + (1 : Int32)) r78_1.2 _ h
def f30_b36 (kad : Nat → Nat) (N : Nat) (Z : AZ) (a0 : Nat) (a4 : Nat) (i1 : Int32) (i2 : Int32) (i5 : Int32) (i6 : Int32) (s0 : Int32) (I : AI) : Option (Unit × AI) :=
  (f28 kad N Z i5 I).bind fun r40_1 =>
  if r40_1.1 = 0 then
    f30_b87 kad N Z a0 a4 i1 i2 i5 s0 r40_1.2
  else
    (f33 kad N Z a0 s0 (1 : Int32) r40_1.2).bind fun r50_2 =>
    (f34 kad N Z a0 i1 i6 s0 r50_2.2).bind fun r59_3 =>
    f30_b65 kad N Z N a0 a4 i1 i2 i5 s0 (0 : Int32) r59_3.2
set_option maxRecDepth 20000 in
theorem Tf30_b36 {kad : Nat → Nat} {N : Nat} {Z : AZ} {d : Nat} {t : Option Nat × (Nat × Nat)} (hd : 1 ≤ d) : ∀ (a0 : Nat) (ha0 : sh1 kad Z a0) (a4 : Nat) (ha4 : sh3 kad Z a4) (i1 : Int32) (i2 : Int32) (i5 : Int32) (i6 : Int32) (s0 : Int32) (I : AI) (r : Unit × AI), f30_b36 kad N Z a0 a4 i1 i2 i5 i6 s0 I = some r → aGo kad d 30 (36, ([(0, .ref a0), (1, .int i1), (2, .int i2), (5, .int i5), (6, .int i6)], [.int s0])) (aMem Z I, t) (qV Z t r) := by
  intro a0 ha0 a4 ha4 i1 i2 i5 i6 s0 I r h
  unfold f30_b36 at h
  refine go_ops aMi30 2 _ (f1 := (40, ([(7, .int s0), (0, .ref a0), (1, .int i1), (2, .int i2), (5, .int i5), (6, .int i6)], [.int i5]))) rfl ?_
  obtain ⟨r40_1, hxr40_1, h⟩ := Option.bind_eq_some_iff.mp h
  refine gg_cs (as := [.int i5]) (r := []) aMi30 rfl rfl rfl aMi28 rfl (Nat.le_of_ble_eq_true rfl) (Nat.le_of_ble_eq_true rfl) (by omega) (Tf28 (by omega) i5 I _ hxr40_1) ?_
  show aGo kad d 30 (43, ([(7, .int s0), (0, .ref a0), (1, .int i1), (2, .int i2), (5, .int i5), (6, .int i6)], [.int r40_1.1])) (aMem Z r40_1.2, t) _
  refine gg_br (b := decide (r40_1.1 = 0)) (tg := 87) (off := 44) aMi30 rfl rfl rfl rfl (fun hb => ?_) (fun hb => ?_)
  · rw [if_pos (of_decide_eq_true hb)] at h
    refine go_le (lv1 := [(0, .ref a0), (1, .int i1), (2, .int i2), (5, .int i5), (7, .int s0)]) (aLe_of (show (List.map (fun q => q.1) ([(0, .ref a0), (1, .int i1), (2, .int i2), (5, .int i5), (7, .int s0)] : ALv)).Nodup from (by show ([0, 1, 2, 5, 7] : List Nat).Nodup; decide)) (aSubL_cons rfl (aSubL_cons rfl (aSubL_cons rfl (aSubL_cons rfl (aSubL_cons rfl aSubL_nil)))))) ?_
    exact Tf30_b87 hd a0 ha0 a4 ha4 i1 i2 i5 s0 r40_1.2 _ h
  · rw [if_neg (of_decide_eq_false hb)] at h
    refine go_ops aMi30 3 _ (f1 := (50, ([(7, .int s0), (0, .ref a0), (1, .int i1), (2, .int i2), (5, .int i5), (6, .int i6)], [.int (1 : Int32), .int s0, .ref a0]))) rfl ?_
    obtain ⟨r50_2, hxr50_2, h⟩ := Option.bind_eq_some_iff.mp h
    refine gg_cv (as := [.int s0, .int (1 : Int32)]) (r := []) aMi30 rfl rfl rfl aMi33 (Nat.le_of_ble_eq_true rfl) rfl (Nat.le_of_ble_eq_true rfl) (Nat.le_of_ble_eq_true rfl) (by omega) (isK_of (sh1_z ha0)) (Tf33 (by omega) a0 ha0 s0 (1 : Int32) r40_1.2 _ hxr50_2) ?_
    show aGo kad d 30 (53, ([(7, .int s0), (0, .ref a0), (1, .int i1), (2, .int i2), (5, .int i5), (6, .int i6)], [])) (aMem Z r50_2.2, t) _
    refine go_ops aMi30 4 _ (f1 := (59, ([(7, .int s0), (0, .ref a0), (1, .int i1), (2, .int i2), (5, .int i5), (6, .int i6)], [.int s0, .int i6, .int i1, .ref a0]))) rfl ?_
    obtain ⟨r59_3, hxr59_3, h⟩ := Option.bind_eq_some_iff.mp h
    refine gg_cv (as := [.int i1, .int i6, .int s0]) (r := []) aMi30 rfl rfl rfl aMi34 (Nat.le_of_ble_eq_true rfl) rfl (Nat.le_of_ble_eq_true rfl) (Nat.le_of_ble_eq_true rfl) (by omega) (isK_of (sh1_z ha0)) (Tf34 (by omega) a0 ha0 i1 i6 s0 r50_2.2 _ hxr59_3) ?_
    show aGo kad d 30 (62, ([(7, .int s0), (0, .ref a0), (1, .int i1), (2, .int i2), (5, .int i5), (6, .int i6)], [])) (aMem Z r59_3.2, t) _
    refine go_ops aMi30 2 _ (f1 := (65, ([(8, .int (0 : Int32)), (7, .int s0), (0, .ref a0), (1, .int i1), (2, .int i2), (5, .int i5), (6, .int i6)], []))) rfl ?_
    refine go_le (lv1 := [(0, .ref a0), (1, .int i1), (2, .int i2), (5, .int i5), (7, .int s0), (8, .int (0 : Int32))]) (aLe_of (show (List.map (fun q => q.1) ([(0, .ref a0), (1, .int i1), (2, .int i2), (5, .int i5), (7, .int s0), (8, .int (0 : Int32))] : ALv)).Nodup from (by show ([0, 1, 2, 5, 7, 8] : List Nat).Nodup; decide)) (aSubL_cons rfl (aSubL_cons rfl (aSubL_cons rfl (aSubL_cons rfl (aSubL_cons rfl (aSubL_cons rfl aSubL_nil))))))) ?_
    exact Tf30_b65 hd N a0 ha0 a4 ha4 i1 i2 i5 s0 (0 : Int32) r59_3.2 _ h
def f30 (kad : Nat → Nat) (N : Nat) (Z : AZ) (a0 : Nat) (i1 : Int32) (i2 : Int32) (i3 : Int32) (a4 : Nat) (I : AI) : Option (Unit × AI) :=
  (f50 kad N Z a4 i1 (1 : Int32) I).bind fun r4_1 =>
  (f48 kad N Z r4_1.1 r4_1.2).bind fun r11_2 =>
  (f28 kad N Z r4_1.1 r11_2.2).bind fun r18_3 =>
  if r18_3.1 = 0 then
    (f50 kad N Z a4 i1 r11_2.1 r18_3.2).bind fun r33_4 =>
    f30_b36 kad N Z a0 a4 i1 i2 r4_1.1 r11_2.1 r33_4.1 r33_4.2
  else
    f30_b36 kad N Z a0 a4 i1 i2 r4_1.1 r11_2.1 i3 r18_3.2
set_option maxRecDepth 20000 in
theorem Tf30 {kad : Nat → Nat} {N : Nat} {Z : AZ} {d : Nat} {t : Option Nat × (Nat × Nat)} (hd : 1 ≤ d) : ∀ (a0 : Nat) (ha0 : sh1 kad Z a0) (i1 : Int32) (i2 : Int32) (i3 : Int32) (a4 : Nat) (ha4 : sh3 kad Z a4) (I : AI) (r : Unit × AI), f30 kad N Z a0 i1 i2 i3 a4 I = some r → aGo kad d 30 (0, ([(0, .ref a0), (1, .int i1), (2, .int i2), (3, .int i3), (4, .ref a4)], [])) (aMem Z I, t) (qV Z t r) := by
  intro a0 ha0 i1 i2 i3 a4 ha4 I r h
  unfold f30 at h
  refine go_ops aMi30 3 _ (f1 := (4, ([(0, .ref a0), (1, .int i1), (2, .int i2), (3, .int i3), (4, .ref a4)], [.int (1 : Int32), .int i1, .ref a4]))) rfl ?_
  obtain ⟨r4_1, hxr4_1, h⟩ := Option.bind_eq_some_iff.mp h
  refine gg_cv (as := [.int i1, .int (1 : Int32)]) (r := []) aMi30 rfl rfl rfl aMi50 (Nat.le_of_ble_eq_true rfl) rfl (Nat.le_of_ble_eq_true rfl) (Nat.le_of_ble_eq_true rfl) (by omega) (isK_of (sh3_z ha4)) (Tf50 (by omega) a4 ha4 i1 (1 : Int32) I _ hxr4_1) ?_
  show aGo kad d 30 (7, ([(0, .ref a0), (1, .int i1), (2, .int i2), (3, .int i3), (4, .ref a4)], [.int r4_1.1])) (aMem Z r4_1.2, t) _
  refine go_ops aMi30 2 _ (f1 := (11, ([(5, .int r4_1.1), (0, .ref a0), (1, .int i1), (2, .int i2), (3, .int i3), (4, .ref a4)], [.int r4_1.1]))) rfl ?_
  obtain ⟨r11_2, hxr11_2, h⟩ := Option.bind_eq_some_iff.mp h
  refine gg_cs (as := [.int r4_1.1]) (r := []) aMi30 rfl rfl rfl aMi48 rfl (Nat.le_of_ble_eq_true rfl) (Nat.le_of_ble_eq_true rfl) (by omega) (Tf48 (by omega) r4_1.1 r4_1.2 _ hxr11_2) ?_
  show aGo kad d 30 (14, ([(5, .int r4_1.1), (0, .ref a0), (1, .int i1), (2, .int i2), (3, .int i3), (4, .ref a4)], [.int r11_2.1])) (aMem Z r11_2.2, t) _
  refine go_ops aMi30 2 _ (f1 := (18, ([(6, .int r11_2.1), (5, .int r4_1.1), (0, .ref a0), (1, .int i1), (2, .int i2), (3, .int i3), (4, .ref a4)], [.int r4_1.1]))) rfl ?_
  obtain ⟨r18_3, hxr18_3, h⟩ := Option.bind_eq_some_iff.mp h
  refine gg_cs (as := [.int r4_1.1]) (r := []) aMi30 rfl rfl rfl aMi28 rfl (Nat.le_of_ble_eq_true rfl) (Nat.le_of_ble_eq_true rfl) (by omega) (Tf28 (by omega) r4_1.1 r11_2.2 _ hxr18_3) ?_
  show aGo kad d 30 (21, ([(6, .int r11_2.1), (5, .int r4_1.1), (0, .ref a0), (1, .int i1), (2, .int i2), (3, .int i3), (4, .ref a4)], [.int r18_3.1])) (aMem Z r18_3.2, t) _
  refine gg_br (b := decide (r18_3.1 = 0)) (tg := 28) (off := 7) aMi30 rfl rfl rfl rfl (fun hb => ?_) (fun hb => ?_)
  · rw [if_pos (of_decide_eq_true hb)] at h
    refine go_ops aMi30 3 _ (f1 := (33, ([(6, .int r11_2.1), (5, .int r4_1.1), (0, .ref a0), (1, .int i1), (2, .int i2), (3, .int i3), (4, .ref a4)], [.int r11_2.1, .int i1, .ref a4]))) rfl ?_
    obtain ⟨r33_4, hxr33_4, h⟩ := Option.bind_eq_some_iff.mp h
    refine gg_cv (as := [.int i1, .int r11_2.1]) (r := []) aMi30 rfl rfl rfl aMi50 (Nat.le_of_ble_eq_true rfl) rfl (Nat.le_of_ble_eq_true rfl) (Nat.le_of_ble_eq_true rfl) (by omega) (isK_of (sh3_z ha4)) (Tf50 (by omega) a4 ha4 i1 r11_2.1 r18_3.2 _ hxr33_4) ?_
    show aGo kad d 30 (36, ([(6, .int r11_2.1), (5, .int r4_1.1), (0, .ref a0), (1, .int i1), (2, .int i2), (3, .int i3), (4, .ref a4)], [.int r33_4.1])) (aMem Z r33_4.2, t) _
    refine go_le (lv1 := [(0, .ref a0), (1, .int i1), (2, .int i2), (5, .int r4_1.1), (6, .int r11_2.1)]) (aLe_of (show (List.map (fun q => q.1) ([(0, .ref a0), (1, .int i1), (2, .int i2), (5, .int r4_1.1), (6, .int r11_2.1)] : ALv)).Nodup from (by show ([0, 1, 2, 5, 6] : List Nat).Nodup; decide)) (aSubL_cons rfl (aSubL_cons rfl (aSubL_cons rfl (aSubL_cons rfl (aSubL_cons rfl aSubL_nil)))))) ?_
    exact Tf30_b36 hd a0 ha0 a4 ha4 i1 i2 r4_1.1 r11_2.1 r33_4.1 r33_4.2 _ h
  · rw [if_neg (of_decide_eq_false hb)] at h
    refine go_ops aMi30 2 _ (f1 := (36, ([(6, .int r11_2.1), (5, .int r4_1.1), (0, .ref a0), (1, .int i1), (2, .int i2), (3, .int i3), (4, .ref a4)], [.int i3]))) rfl ?_
    refine go_le (lv1 := [(0, .ref a0), (1, .int i1), (2, .int i2), (5, .int r4_1.1), (6, .int r11_2.1)]) (aLe_of (show (List.map (fun q => q.1) ([(0, .ref a0), (1, .int i1), (2, .int i2), (5, .int r4_1.1), (6, .int r11_2.1)] : ALv)).Nodup from (by show ([0, 1, 2, 5, 6] : List Nat).Nodup; decide)) (aSubL_cons rfl (aSubL_cons rfl (aSubL_cons rfl (aSubL_cons rfl (aSubL_cons rfl aSubL_nil)))))) ?_
    exact Tf30_b36 hd a0 ha0 a4 ha4 i1 i2 r4_1.1 r11_2.1 i3 r18_3.2 _ h
-- KernelGym$Disk.wordAt (II)I
def f43_b45 (kad : Nat → Nat) (N : Nat) (Z : AZ) (a0 : Nat) (s0 : Int32) (I : AI) : Option (Int32 × AI) :=
  some (s0, I)
set_option maxRecDepth 20000 in
theorem Tf43_b45 {kad : Nat → Nat} {N : Nat} {Z : AZ} {d : Nat} {t : Option Nat × (Nat × Nat)} (hd : 0 ≤ d) : ∀ (a0 : Nat) (ha0 : sh3 kad Z a0) (s0 : Int32) (I : AI) (r : Int32 × AI), f43_b45 kad N Z a0 s0 I = some r → aGo kad d 43 (45, ([], [.int s0])) (aMem Z I, t) (qI Z t r) := by
  intro a0 ha0 s0 I r h
  unfold f43_b45 at h
  cases h
  exact go_ret aMi43 rfl aRetI ⟨rfl, rfl⟩
def f43_b25 (kad : Nat → Nat) (N : Nat) (Z : AZ) (a0 : Nat) (i1 : Int32) (i2 : Int32) (s0 : Int32) (I : AI) : Option (Int32 × AI) :=
  if s0 = 0 then
    f43_b45 kad N Z a0 (0 : Int32) I
  else
    (ixA 256 ((i1 * (8 : Int32)) + i2)).bind fun j40_1 =>
    f43_b45 kad N Z a0 (I (a0 + 1) j40_1) I
set_option maxRecDepth 20000 in
theorem Tf43_b25 {kad : Nat → Nat} {N : Nat} {Z : AZ} {d : Nat} {t : Option Nat × (Nat × Nat)} (hd : 0 ≤ d) : ∀ (a0 : Nat) (ha0 : sh3 kad Z a0) (i1 : Int32) (i2 : Int32) (s0 : Int32) (I : AI) (r : Int32 × AI), f43_b25 kad N Z a0 i1 i2 s0 I = some r → aGo kad d 43 (25, ([(0, .ref a0), (1, .int i1), (2, .int i2)], [.int s0])) (aMem Z I, t) (qI Z t r) := by
  intro a0 ha0 i1 i2 s0 I r h
  unfold f43_b25 at h
  refine go_ops aMi43 2 _ (f1 := (27, ([(3, .int s0), (0, .ref a0), (1, .int i1), (2, .int i2)], [.int s0]))) rfl ?_
  refine gg_br (b := decide (s0 = 0)) (tg := 44) (off := 17) aMi43 rfl rfl rfl rfl (fun hb => ?_) (fun hb => ?_)
  · rw [if_pos (of_decide_eq_true hb)] at h
    refine go_ops aMi43 1 _ (f1 := (45, ([(3, .int s0), (0, .ref a0), (1, .int i1), (2, .int i2)], [.int (0 : Int32)]))) rfl ?_
    refine go_le (lv1 := []) (aLe_of (show (List.map (fun q => q.1) ([] : ALv)).Nodup from (by show ([] : List Nat).Nodup; decide)) aSubL_nil) ?_
    exact Tf43_b45 hd a0 ha0 (0 : Int32) I _ h
  · rw [if_neg (of_decide_eq_false hb)] at h
    refine go_ops aMi43 1 _ (f1 := (31, ([(3, .int s0), (0, .ref a0), (1, .int i1), (2, .int i2)], [.ref a0]))) rfl ?_
    refine gg_gR (b := (a0 + 1)) aMi43 rfl rfl rfl (gR_of (sh3_z ha0) (sh3_r0 ha0)) ?_
    refine go_ops aMi43 5 _ (f1 := (40, ([(3, .int s0), (0, .ref a0), (1, .int i1), (2, .int i2)], [.int ((i1 * (8 : Int32)) + i2), .ref (a0 + 1)]))) rfl ?_
    obtain ⟨j40_1, hxj40_1, h⟩ := Option.bind_eq_some_iff.mp h
    refine gg_lI (Or.inl ⟨rfl, rfl⟩) aMi43 rfl (lI_of (sh3_a0 ha0) hxj40_1) ?_
    refine go_ops aMi43 1 _ (f1 := (45, ([(3, .int s0), (0, .ref a0), (1, .int i1), (2, .int i2)], [.int (I (a0 + 1) j40_1)]))) rfl ?_
    refine go_le (lv1 := []) (aLe_of (show (List.map (fun q => q.1) ([] : ALv)).Nodup from (by show ([] : List Nat).Nodup; decide)) aSubL_nil) ?_
    exact Tf43_b45 hd a0 ha0 (I (a0 + 1) j40_1) I _ h
def f43_b24 (kad : Nat → Nat) (N : Nat) (Z : AZ) (a0 : Nat) (i1 : Int32) (i2 : Int32) (I : AI) : Option (Int32 × AI) :=
  f43_b25 kad N Z a0 i1 i2 (0 : Int32) I
set_option maxRecDepth 20000 in
theorem Tf43_b24 {kad : Nat → Nat} {N : Nat} {Z : AZ} {d : Nat} {t : Option Nat × (Nat × Nat)} (hd : 0 ≤ d) : ∀ (a0 : Nat) (ha0 : sh3 kad Z a0) (i1 : Int32) (i2 : Int32) (I : AI) (r : Int32 × AI), f43_b24 kad N Z a0 i1 i2 I = some r → aGo kad d 43 (24, ([(0, .ref a0), (1, .int i1), (2, .int i2)], [])) (aMem Z I, t) (qI Z t r) := by
  intro a0 ha0 i1 i2 I r h
  unfold f43_b24 at h
  refine go_ops aMi43 1 _ (f1 := (25, ([(0, .ref a0), (1, .int i1), (2, .int i2)], [.int (0 : Int32)]))) rfl ?_
  exact Tf43_b25 hd a0 ha0 i1 i2 (0 : Int32) I _ h
def f43 (kad : Nat → Nat) (N : Nat) (Z : AZ) (a0 : Nat) (i1 : Int32) (i2 : Int32) (I : AI) : Option (Int32 × AI) :=
  if i1 < 0 then
    f43_b24 kad N Z a0 i1 i2 I
  else
    if (32 : Int32) ≤ i1 then
      f43_b24 kad N Z a0 i1 i2 I
    else
      if i2 < 0 then
        f43_b24 kad N Z a0 i1 i2 I
      else
        if (8 : Int32) ≤ i2 then
          f43_b24 kad N Z a0 i1 i2 I
        else
          f43_b25 kad N Z a0 i1 i2 (1 : Int32) I
set_option maxRecDepth 20000 in
theorem Tf43 {kad : Nat → Nat} {N : Nat} {Z : AZ} {d : Nat} {t : Option Nat × (Nat × Nat)} (hd : 0 ≤ d) : ∀ (a0 : Nat) (ha0 : sh3 kad Z a0) (i1 : Int32) (i2 : Int32) (I : AI) (r : Int32 × AI), f43 kad N Z a0 i1 i2 I = some r → aGo kad d 43 (0, ([(0, .ref a0), (1, .int i1), (2, .int i2)], [])) (aMem Z I, t) (qI Z t r) := by
  intro a0 ha0 i1 i2 I r h
  unfold f43 at h
  refine go_ops aMi43 1 _ (f1 := (1, ([(0, .ref a0), (1, .int i1), (2, .int i2)], [.int i1]))) rfl ?_
  refine gg_br (b := decide (i1 < 0)) (tg := 24) (off := 23) aMi43 rfl rfl rfl rfl (fun hb => ?_) (fun hb => ?_)
  · rw [if_pos (of_decide_eq_true hb)] at h
    exact Tf43_b24 hd a0 ha0 i1 i2 I _ h
  · rw [if_neg (of_decide_eq_false hb)] at h
    refine go_ops aMi43 2 _ (f1 := (7, ([(0, .ref a0), (1, .int i1), (2, .int i2)], [.int (32 : Int32), .int i1]))) rfl ?_
    refine gg_br (b := decide ((32 : Int32) ≤ i1)) (tg := 24) (off := 17) aMi43 rfl rfl rfl rfl (fun hb => ?_) (fun hb => ?_)
    · rw [if_pos (of_decide_eq_true hb)] at h
      exact Tf43_b24 hd a0 ha0 i1 i2 I _ h
    · rw [if_neg (of_decide_eq_false hb)] at h
      refine go_ops aMi43 1 _ (f1 := (11, ([(0, .ref a0), (1, .int i1), (2, .int i2)], [.int i2]))) rfl ?_
      refine gg_br (b := decide (i2 < 0)) (tg := 24) (off := 13) aMi43 rfl rfl rfl rfl (fun hb => ?_) (fun hb => ?_)
      · rw [if_pos (of_decide_eq_true hb)] at h
        exact Tf43_b24 hd a0 ha0 i1 i2 I _ h
      · rw [if_neg (of_decide_eq_false hb)] at h
        refine go_ops aMi43 2 _ (f1 := (17, ([(0, .ref a0), (1, .int i1), (2, .int i2)], [.int (8 : Int32), .int i2]))) rfl ?_
        refine gg_br (b := decide ((8 : Int32) ≤ i2)) (tg := 24) (off := 7) aMi43 rfl rfl rfl rfl (fun hb => ?_) (fun hb => ?_)
        · rw [if_pos (of_decide_eq_true hb)] at h
          exact Tf43_b24 hd a0 ha0 i1 i2 I _ h
        · rw [if_neg (of_decide_eq_false hb)] at h
          refine go_ops aMi43 2 _ (f1 := (25, ([(0, .ref a0), (1, .int i1), (2, .int i2)], [.int (1 : Int32)]))) rfl ?_
          exact Tf43_b25 hd a0 ha0 i1 i2 (1 : Int32) I _ h
-- KernelGym$Disk.fileWord (II)I
def f54 (kad : Nat → Nat) (N : Nat) (Z : AZ) (a0 : Nat) (i1 : Int32) (i2 : Int32) (I : AI) : Option (Int32 × AI) :=
  (f48 kad N Z i2 I).bind fun r4_1 =>
  (f50 kad N Z a0 i1 r4_1.1 r4_1.2).bind fun r7_2 =>
  (f43 kad N Z a0 r7_2.1 (i2 - i2 / (8 : Int32) * (8 : Int32)) r7_2.2).bind fun r14_3 =>
  some (r14_3.1, r14_3.2)
set_option maxRecDepth 20000 in
theorem Tf54 {kad : Nat → Nat} {N : Nat} {Z : AZ} {d : Nat} {t : Option Nat × (Nat × Nat)} (hd : 1 ≤ d) : ∀ (a0 : Nat) (ha0 : sh3 kad Z a0) (i1 : Int32) (i2 : Int32) (I : AI) (r : Int32 × AI), f54 kad N Z a0 i1 i2 I = some r → aGo kad d 54 (0, ([(0, .ref a0), (1, .int i1), (2, .int i2)], [])) (aMem Z I, t) (qI Z t r) := by
  intro a0 ha0 i1 i2 I r h
  unfold f54 at h
  refine go_ops aMi54 4 _ (f1 := (4, ([(0, .ref a0), (1, .int i1), (2, .int i2)], [.int i2, .int i1, .ref a0, .ref a0]))) rfl ?_
  obtain ⟨r4_1, hxr4_1, h⟩ := Option.bind_eq_some_iff.mp h
  refine gg_cs (as := [.int i2]) (r := [.int i1, .ref a0, .ref a0]) aMi54 rfl rfl rfl aMi48 rfl (Nat.le_of_ble_eq_true rfl) (Nat.le_of_ble_eq_true rfl) (by omega) (Tf48 (by omega) i2 I _ hxr4_1) ?_
  show aGo kad d 54 (7, ([(0, .ref a0), (1, .int i1), (2, .int i2)], [.int r4_1.1, .int i1, .ref a0, .ref a0])) (aMem Z r4_1.2, t) _
  obtain ⟨r7_2, hxr7_2, h⟩ := Option.bind_eq_some_iff.mp h
  refine gg_cv (as := [.int i1, .int r4_1.1]) (r := [.ref a0]) aMi54 rfl rfl rfl aMi50 (Nat.le_of_ble_eq_true rfl) rfl (Nat.le_of_ble_eq_true rfl) (Nat.le_of_ble_eq_true rfl) (by omega) (isK_of (sh3_z ha0)) (Tf50 (by omega) a0 ha0 i1 r4_1.1 r4_1.2 _ hxr7_2) ?_
  show aGo kad d 54 (10, ([(0, .ref a0), (1, .int i1), (2, .int i2)], [.int r7_2.1, .ref a0])) (aMem Z r7_2.2, t) _
  refine go_ops aMi54 3 _ (f1 := (14, ([(0, .ref a0), (1, .int i1), (2, .int i2)], [.int (i2 - i2 / (8 : Int32) * (8 : Int32)), .int r7_2.1, .ref a0]))) rfl ?_
  obtain ⟨r14_3, hxr14_3, h⟩ := Option.bind_eq_some_iff.mp h
  refine gg_cv (as := [.int r7_2.1, .int (i2 - i2 / (8 : Int32) * (8 : Int32))]) (r := []) aMi54 rfl rfl rfl aMi43 (Nat.le_of_ble_eq_true rfl) rfl (Nat.le_of_ble_eq_true rfl) (Nat.le_of_ble_eq_true rfl) (by omega) (isK_of (sh3_z ha0)) (Tf43 (by omega) a0 ha0 r7_2.1 (i2 - i2 / (8 : Int32) * (8 : Int32)) r7_2.2 _ hxr14_3) ?_
  show aGo kad d 54 (17, ([(0, .ref a0), (1, .int i1), (2, .int i2)], [.int r14_3.1])) (aMem Z r14_3.2, t) _
  cases h
  exact go_ret aMi54 rfl aRetI ⟨rfl, rfl⟩
-- KernelGym$Clerk.remove (ILKernelGym$Disk;)V
def f31_b27 (kad : Nat → Nat) (N : Nat) (Z : AZ) (k2 : Nat → Nat → Int32 → Int32 → AI → Option (Unit × AI)) (a0 : Nat) (a2 : Nat) (i1 : Int32) (i3 : Int32) (I : AI) : Option (Unit × AI) :=
  k2 a0 a2 i1 (i3 + (1 : Int32)) I
set_option maxRecDepth 20000 in
theorem Tf31_b27 {kad : Nat → Nat} {N : Nat} {Z : AZ} {d : Nat} {t : Option Nat × (Nat × Nat)} (hd : 1 ≤ d) (k2 : Nat → Nat → Int32 → Int32 → AI → Option (Unit × AI))  (hk2 : ∀ (a0 : Nat) (ha0 : sh1 kad Z a0) (a2 : Nat) (ha2 : sh3 kad Z a2) (i1 : Int32) (i3 : Int32) (I : AI) (r : Unit × AI), k2 a0 a2 i1 i3 I = some r → aGo kad d 31 (2, ([(0, .ref a0), (1, .int i1), (2, .ref a2), (3, .int i3)], [])) (aMem Z I, t) (qV Z t r)) : ∀ (a0 : Nat) (ha0 : sh1 kad Z a0) (a2 : Nat) (ha2 : sh3 kad Z a2) (i1 : Int32) (i3 : Int32) (I : AI) (r : Unit × AI), f31_b27 kad N Z k2 a0 a2 i1 i3 I = some r → aGo kad d 31 (27, ([(0, .ref a0), (1, .int i1), (2, .ref a2), (3, .int i3)], [])) (aMem Z I, t) (qV Z t r) := by
  intro a0 ha0 a2 ha2 i1 i3 I r h
  unfold f31_b27 at h
  refine go_ops aMi31 2 _ (f1 := (2, ([(3, .int (i3 + (1 : Int32))), (0, .ref a0), (1, .int i1), (2, .ref a2)], []))) rfl ?_
  refine go_le (lv1 := [(0, .ref a0), (1, .int i1), (2, .ref a2), (3, .int (i3 + (1 : Int32)))]) (aLe_of (show (List.map (fun q => q.1) ([(0, .ref a0), (1, .int i1), (2, .ref a2), (3, .int (i3 + (1 : Int32)))] : ALv)).Nodup from (by show ([0, 1, 2, 3] : List Nat).Nodup; decide)) (aSubL_cons rfl (aSubL_cons rfl (aSubL_cons rfl (aSubL_cons rfl aSubL_nil))))) ?_
  exact hk2 a0 ha0 a2 ha2 i1 (i3 + (1 : Int32)) I _ h
def f31_b35 (kad : Nat → Nat) (N : Nat) (Z : AZ) : Nat → Nat → Nat → Int32 → Int32 → AI → Option (Unit × AI)
  | 0, _, _, _, _, _ => none
  | F + 1, a0, a2, i1, i3, I =>
    if (4 : Int32) ≤ i3 then
      some ((), I)
    else
      (f34 kad N Z a0 i1 i3 (0 : Int32) I).bind fun r44_1 =>
      f31_b35 kad N Z F a0 a2 i1 (i3 + (1 : Int32)) r44_1.2
set_option maxRecDepth 20000 in
theorem Tf31_b35 {kad : Nat → Nat} {N : Nat} {Z : AZ} {d : Nat} {t : Option Nat × (Nat × Nat)} (hd : 1 ≤ d) : ∀ (F : Nat) (a0 : Nat) (ha0 : sh1 kad Z a0) (a2 : Nat) (ha2 : sh3 kad Z a2) (i1 : Int32) (i3 : Int32) (I : AI) (r : Unit × AI), f31_b35 kad N Z F a0 a2 i1 i3 I = some r → aGo kad d 31 (35, ([(0, .ref a0), (1, .int i1), (3, .int i3)], [])) (aMem Z I, t) (qV Z t r) := by
  intro F
  induction F with
  | zero => intro a0 ha0 a2 ha2 i1 i3 I r h; cases h
  | succ F ih =>
    intro a0 ha0 a2 ha2 i1 i3 I r h
    unfold f31_b35 at h
    refine go_ops aMi31 2 _ (f1 := (37, ([(0, .ref a0), (1, .int i1), (3, .int i3)], [.int (4 : Int32), .int i3]))) rfl ?_
    refine gg_br (b := decide ((4 : Int32) ≤ i3)) (tg := 53) (off := 16) aMi31 rfl rfl rfl rfl (fun hb => ?_) (fun hb => ?_)
    · rw [if_pos (of_decide_eq_true hb)] at h
      cases h
      exact go_ret aMi31 rfl rfl ⟨rfl, rfl⟩
    · rw [if_neg (of_decide_eq_false hb)] at h
      refine go_ops aMi31 4 _ (f1 := (44, ([(0, .ref a0), (1, .int i1), (3, .int i3)], [.int (0 : Int32), .int i3, .int i1, .ref a0]))) rfl ?_
      obtain ⟨r44_1, hxr44_1, h⟩ := Option.bind_eq_some_iff.mp h
      refine gg_cv (as := [.int i1, .int i3, .int (0 : Int32)]) (r := []) aMi31 rfl rfl rfl aMi34 (Nat.le_of_ble_eq_true rfl) rfl (Nat.le_of_ble_eq_true rfl) (Nat.le_of_ble_eq_true rfl) (by omega) (isK_of (sh1_z ha0)) (Tf34 (by omega) a0 ha0 i1 i3 (0 : Int32) I _ hxr44_1) ?_
      show aGo kad d 31 (47, ([(0, .ref a0), (1, .int i1), (3, .int i3)], [])) (aMem Z r44_1.2, t) _
      refine go_ops aMi31 2 _ (f1 := (35, ([(3, .int (i3 + (1 : Int32))), (0, .ref a0), (1, .int i1)], []))) rfl ?_
      refine go_le (lv1 := [(0, .ref a0), (1, .int i1), (3, .int (i3 + (1 : Int32)))]) (aLe_of (show (List.map (fun q => q.1) ([(0, .ref a0), (1, .int i1), (3, .int (i3 + (1 : Int32)))] : ALv)).Nodup from (by show ([0, 1, 3] : List Nat).Nodup; decide)) (aSubL_cons rfl (aSubL_cons rfl (aSubL_cons rfl aSubL_nil)))) ?_
      exact ih a0 ha0 a2 ha2 i1 (i3 + (1 : Int32)) r44_1.2 _ h
def f31_b2 (kad : Nat → Nat) (N : Nat) (Z : AZ) : Nat → Nat → Nat → Int32 → Int32 → AI → Option (Unit × AI)
  | 0, _, _, _, _, _ => none
  | F + 1, a0, a2, i1, i3, I =>
    if (3 : Int32) < i3 then
      f31_b35 kad N Z N a0 a2 i1 (0 : Int32) I
    else
      (f50 kad N Z a2 i1 i3 I).bind fun r10_1 =>
      if r10_1.1 = 0 then
        f31_b27 kad N Z (fun p0 p1 p2 p3 I => f31_b2 kad N Z F p0 p1 p2 p3 I) a0 a2 i1 i3 r10_1.2
      else
        (f33 kad N Z a0 r10_1.1 (0 : Int32) r10_1.2).bind fun r24_2 =>
        f31_b27 kad N Z (fun p0 p1 p2 p3 I => f31_b2 kad N Z F p0 p1 p2 p3 I) a0 a2 i1 i3 r24_2.2
set_option maxRecDepth 20000 in
theorem Tf31_b2 {kad : Nat → Nat} {N : Nat} {Z : AZ} {d : Nat} {t : Option Nat × (Nat × Nat)} (hd : 1 ≤ d) : ∀ (F : Nat) (a0 : Nat) (ha0 : sh1 kad Z a0) (a2 : Nat) (ha2 : sh3 kad Z a2) (i1 : Int32) (i3 : Int32) (I : AI) (r : Unit × AI), f31_b2 kad N Z F a0 a2 i1 i3 I = some r → aGo kad d 31 (2, ([(0, .ref a0), (1, .int i1), (2, .ref a2), (3, .int i3)], [])) (aMem Z I, t) (qV Z t r) := by
  intro F
  induction F with
  | zero => intro a0 ha0 a2 ha2 i1 i3 I r h; cases h
  | succ F ih =>
    intro a0 ha0 a2 ha2 i1 i3 I r h
    unfold f31_b2 at h
    refine go_ops aMi31 2 _ (f1 := (4, ([(0, .ref a0), (1, .int i1), (2, .ref a2), (3, .int i3)], [.int (3 : Int32), .int i3]))) rfl ?_
    refine gg_br (b := decide ((3 : Int32) < i3)) (tg := 33) (off := 29) aMi31 rfl rfl rfl rfl (fun hb => ?_) (fun hb => ?_)
    · rw [if_pos (of_decide_eq_true hb)] at h
      refine go_ops aMi31 2 _ (f1 := (35, ([(3, .int (0 : Int32)), (0, .ref a0), (1, .int i1), (2, .ref a2)], []))) rfl ?_
      refine go_le (lv1 := [(0, .ref a0), (1, .int i1), (3, .int (0 : Int32))]) (aLe_of (show (List.map (fun q => q.1) ([(0, .ref a0), (1, .int i1), (3, .int (0 : Int32))] : ALv)).Nodup from (by show ([0, 1, 3] : List Nat).Nodup; decide)) (aSubL_cons rfl (aSubL_cons rfl (aSubL_cons rfl aSubL_nil)))) ?_
      exact Tf31_b35 hd N a0 ha0 a2 ha2 i1 (0 : Int32) I _ h
    · rw [if_neg (of_decide_eq_false hb)] at h
      refine go_ops aMi31 3 _ (f1 := (10, ([(0, .ref a0), (1, .int i1), (2, .ref a2), (3, .int i3)], [.int i3, .int i1, .ref a2]))) rfl ?_
      obtain ⟨r10_1, hxr10_1, h⟩ := Option.bind_eq_some_iff.mp h
      refine gg_cv (as := [.int i1, .int i3]) (r := []) aMi31 rfl rfl rfl aMi50 (Nat.le_of_ble_eq_true rfl) rfl (Nat.le_of_ble_eq_true rfl) (Nat.le_of_ble_eq_true rfl) (by omega) (isK_of (sh3_z ha2)) (Tf50 (by omega) a2 ha2 i1 i3 I _ hxr10_1) ?_
      show aGo kad d 31 (13, ([(0, .ref a0), (1, .int i1), (2, .ref a2), (3, .int i3)], [.int r10_1.1])) (aMem Z r10_1.2, t) _
      refine go_ops aMi31 2 _ (f1 := (17, ([(4, .int r10_1.1), (0, .ref a0), (1, .int i1), (2, .ref a2), (3, .int i3)], [.int r10_1.1]))) rfl ?_
      refine gg_br (b := decide (r10_1.1 = 0)) (tg := 27) (off := 10) aMi31 rfl rfl rfl rfl (fun hb => ?_) (fun hb => ?_)
      · rw [if_pos (of_decide_eq_true hb)] at h
        refine go_le (lv1 := [(0, .ref a0), (1, .int i1), (2, .ref a2), (3, .int i3)]) (aLe_of (show (List.map (fun q => q.1) ([(0, .ref a0), (1, .int i1), (2, .ref a2), (3, .int i3)] : ALv)).Nodup from (by show ([0, 1, 2, 3] : List Nat).Nodup; decide)) (aSubL_cons rfl (aSubL_cons rfl (aSubL_cons rfl (aSubL_cons rfl aSubL_nil))))) ?_
        exact Tf31_b27 hd (fun p0 p1 p2 p3 I => f31_b2 kad N Z F p0 p1 p2 p3 I) (fun p0 q0 p1 q1 p2 p3 I r hh => ih p0 q0 p1 q1 p2 p3 I r hh) a0 ha0 a2 ha2 i1 i3 r10_1.2 _ h
      · rw [if_neg (of_decide_eq_false hb)] at h
        refine go_ops aMi31 3 _ (f1 := (24, ([(4, .int r10_1.1), (0, .ref a0), (1, .int i1), (2, .ref a2), (3, .int i3)], [.int (0 : Int32), .int r10_1.1, .ref a0]))) rfl ?_
        obtain ⟨r24_2, hxr24_2, h⟩ := Option.bind_eq_some_iff.mp h
        refine gg_cv (as := [.int r10_1.1, .int (0 : Int32)]) (r := []) aMi31 rfl rfl rfl aMi33 (Nat.le_of_ble_eq_true rfl) rfl (Nat.le_of_ble_eq_true rfl) (Nat.le_of_ble_eq_true rfl) (by omega) (isK_of (sh1_z ha0)) (Tf33 (by omega) a0 ha0 r10_1.1 (0 : Int32) r10_1.2 _ hxr24_2) ?_
        show aGo kad d 31 (27, ([(4, .int r10_1.1), (0, .ref a0), (1, .int i1), (2, .ref a2), (3, .int i3)], [])) (aMem Z r24_2.2, t) _
        refine go_le (lv1 := [(0, .ref a0), (1, .int i1), (2, .ref a2), (3, .int i3)]) (aLe_of (show (List.map (fun q => q.1) ([(0, .ref a0), (1, .int i1), (2, .ref a2), (3, .int i3)] : ALv)).Nodup from (by show ([0, 1, 2, 3] : List Nat).Nodup; decide)) (aSubL_cons rfl (aSubL_cons rfl (aSubL_cons rfl (aSubL_cons rfl aSubL_nil))))) ?_
        exact Tf31_b27 hd (fun p0 p1 p2 p3 I => f31_b2 kad N Z F p0 p1 p2 p3 I) (fun p0 q0 p1 q1 p2 p3 I r hh => ih p0 q0 p1 q1 p2 p3 I r hh) a0 ha0 a2 ha2 i1 i3 r24_2.2 _ h
def f31 (kad : Nat → Nat) (N : Nat) (Z : AZ) (a0 : Nat) (i1 : Int32) (a2 : Nat) (I : AI) : Option (Unit × AI) :=
  f31_b2 kad N Z N a0 a2 i1 (2 : Int32) I
set_option maxRecDepth 20000 in
theorem Tf31 {kad : Nat → Nat} {N : Nat} {Z : AZ} {d : Nat} {t : Option Nat × (Nat × Nat)} (hd : 1 ≤ d) : ∀ (a0 : Nat) (ha0 : sh1 kad Z a0) (i1 : Int32) (a2 : Nat) (ha2 : sh3 kad Z a2) (I : AI) (r : Unit × AI), f31 kad N Z a0 i1 a2 I = some r → aGo kad d 31 (0, ([(0, .ref a0), (1, .int i1), (2, .ref a2)], [])) (aMem Z I, t) (qV Z t r) := by
  intro a0 ha0 i1 a2 ha2 I r h
  unfold f31 at h
  refine go_ops aMi31 2 _ (f1 := (2, ([(3, .int (2 : Int32)), (0, .ref a0), (1, .int i1), (2, .ref a2)], []))) rfl ?_
  refine go_le (lv1 := [(0, .ref a0), (1, .int i1), (2, .ref a2), (3, .int (2 : Int32))]) (aLe_of (show (List.map (fun q => q.1) ([(0, .ref a0), (1, .int i1), (2, .ref a2), (3, .int (2 : Int32))] : ALv)).Nodup from (by show ([0, 1, 2, 3] : List Nat).Nodup; decide)) (aSubL_cons rfl (aSubL_cons rfl (aSubL_cons rfl (aSubL_cons rfl aSubL_nil))))) ?_
  exact Tf31_b2 hd N a0 ha0 a2 ha2 i1 (2 : Int32) I _ h
-- KernelGym$FileCall.addBlock (I[II)V
def f64_b59 (kad : Nat → Nat) (N : Nat) (Z : AZ) (a0 : Nat) (I : AI) : Option (Unit × AI) :=
  some ((), I)
set_option maxRecDepth 20000 in
theorem Tf64_b59 {kad : Nat → Nat} {N : Nat} {Z : AZ} {d : Nat} {t : Option Nat × (Nat × Nat)} (hd : 0 ≤ d) : ∀ (a0 : Nat) (ha0 : sh4 kad Z a0) (I : AI) (r : Unit × AI), f64_b59 kad N Z a0 I = some r → aGo kad d 64 (59, ([], [])) (aMem Z I, t) (qV Z t r) := by
  intro a0 ha0 I r h
  unfold f64_b59 at h
  cases h
  exact go_ret aMi64 rfl rfl ⟨rfl, rfl⟩
def f64 (kad : Nat → Nat) (N : Nat) (Z : AZ) (a0 : Nat) (i1 : Int32) (b2 : Nat) (i3 : Int32) (I : AI) : Option (Unit × AI) :=
  if (3 : Int32) ≤ (I a0 0) then
    f64_b59 kad N Z a0 I
  else
    if i3 < 0 then
      f64_b59 kad N Z a0 I
    else
      (nL Z b2).bind fun x17_1 =>
      if x17_1 < (i3 + (8 : Int32)) then
        f64_b59 kad N Z a0 I
      else
        (ixA 3 (I a0 0)).bind fun j30_3 =>
        (wI I (a0 + 1) j30_3 i1).bind fun I30_2 =>
        (cI Z I30_2 b2 i3 (a0 + 2) ((I30_2 a0 0) * (8 : Int32)) (8 : Int32)).bind fun I46_4 =>
        (wI I46_4 a0 0 ((I46_4 a0 0) + (1 : Int32))).bind fun I56_5 =>
        f64_b59 kad N Z a0 I56_5
set_option maxRecDepth 20000 in
theorem Tf64 {kad : Nat → Nat} {N : Nat} {Z : AZ} {d : Nat} {t : Option Nat × (Nat × Nat)} (hd : 0 ≤ d) : ∀ (a0 : Nat) (ha0 : sh4 kad Z a0) (i1 : Int32) (b2 : Nat) (i3 : Int32) (I : AI) (r : Unit × AI), f64 kad N Z a0 i1 b2 i3 I = some r → aGo kad d 64 (0, ([(0, .ref a0), (1, .int i1), (2, .ref b2), (3, .int i3)], [])) (aMem Z I, t) (qV Z t r) := by
  intro a0 ha0 i1 b2 i3 I r h
  unfold f64 at h
  refine go_ops aMi64 1 _ (f1 := (1, ([(0, .ref a0), (1, .int i1), (2, .ref b2), (3, .int i3)], [.ref a0]))) rfl ?_
  refine gg_gI aMi64 rfl rfl rfl (gI_of (sh4_z ha0)) ?_
  refine go_ops aMi64 1 _ (f1 := (5, ([(0, .ref a0), (1, .int i1), (2, .ref b2), (3, .int i3)], [.int (3 : Int32), .int (I a0 0)]))) rfl ?_
  refine gg_br (b := decide ((3 : Int32) ≤ (I a0 0))) (tg := 59) (off := 54) aMi64 rfl rfl rfl rfl (fun hb => ?_) (fun hb => ?_)
  · rw [if_pos (of_decide_eq_true hb)] at h
    refine go_le (lv1 := []) (aLe_of (show (List.map (fun q => q.1) ([] : ALv)).Nodup from (by show ([] : List Nat).Nodup; decide)) aSubL_nil) ?_
    exact Tf64_b59 hd a0 ha0 I _ h
  · rw [if_neg (of_decide_eq_false hb)] at h
    refine go_ops aMi64 1 _ (f1 := (9, ([(0, .ref a0), (1, .int i1), (2, .ref b2), (3, .int i3)], [.int i3]))) rfl ?_
    refine gg_br (b := decide (i3 < 0)) (tg := 59) (off := 50) aMi64 rfl rfl rfl rfl (fun hb => ?_) (fun hb => ?_)
    · rw [if_pos (of_decide_eq_true hb)] at h
      refine go_le (lv1 := []) (aLe_of (show (List.map (fun q => q.1) ([] : ALv)).Nodup from (by show ([] : List Nat).Nodup; decide)) aSubL_nil) ?_
      exact Tf64_b59 hd a0 ha0 I _ h
    · rw [if_neg (of_decide_eq_false hb)] at h
      refine go_ops aMi64 4 _ (f1 := (17, ([(0, .ref a0), (1, .int i1), (2, .ref b2), (3, .int i3)], [.ref b2, .int (i3 + (8 : Int32))]))) rfl ?_
      obtain ⟨x17_1, hxx17_1, h⟩ := Option.bind_eq_some_iff.mp h
      refine gg_len aMi64 rfl hxx17_1 ?_
      refine gg_br (b := decide (x17_1 < (i3 + (8 : Int32)))) (tg := 59) (off := 41) aMi64 rfl rfl rfl rfl (fun hb => ?_) (fun hb => ?_)
      · rw [if_pos (of_decide_eq_true hb)] at h
        refine go_le (lv1 := []) (aLe_of (show (List.map (fun q => q.1) ([] : ALv)).Nodup from (by show ([] : List Nat).Nodup; decide)) aSubL_nil) ?_
        exact Tf64_b59 hd a0 ha0 I _ h
      · rw [if_neg (of_decide_eq_false hb)] at h
        refine go_ops aMi64 1 _ (f1 := (22, ([(0, .ref a0), (1, .int i1), (2, .ref b2), (3, .int i3)], [.ref a0]))) rfl ?_
        refine gg_gR (b := (a0 + 1)) aMi64 rfl rfl rfl (gR_of (sh4_z ha0) (sh4_r2 ha0)) ?_
        refine go_ops aMi64 1 _ (f1 := (26, ([(0, .ref a0), (1, .int i1), (2, .ref b2), (3, .int i3)], [.ref a0, .ref (a0 + 1)]))) rfl ?_
        refine gg_gI aMi64 rfl rfl rfl (gI_of (sh4_z ha0)) ?_
        refine go_ops aMi64 1 _ (f1 := (30, ([(0, .ref a0), (1, .int i1), (2, .ref b2), (3, .int i3)], [.int i1, .int (I a0 0), .ref (a0 + 1)]))) rfl ?_
        obtain ⟨j30_3, hxj30_3, h⟩ := Option.bind_eq_some_iff.mp h
        obtain ⟨I30_2, hxI30_2, h⟩ := Option.bind_eq_some_iff.mp h
        refine gg_sI (Or.inl ⟨rfl, rfl⟩) aMi64 rfl (sI_of (sh4_a2 ha0) hxj30_3 hxI30_2) ?_
        refine go_ops aMi64 3 _ (f1 := (34, ([(0, .ref a0), (1, .int i1), (2, .ref b2), (3, .int i3)], [.ref a0, .int i3, .ref b2]))) rfl ?_
        refine gg_gR (b := (a0 + 2)) aMi64 rfl rfl rfl (gR_of (sh4_z ha0) (sh4_r3 ha0)) ?_
        refine go_ops aMi64 1 _ (f1 := (38, ([(0, .ref a0), (1, .int i1), (2, .ref b2), (3, .int i3)], [.ref a0, .ref (a0 + 2), .int i3, .ref b2]))) rfl ?_
        refine gg_gI aMi64 rfl rfl rfl (gI_of (sh4_z ha0)) ?_
        refine go_ops aMi64 3 _ (f1 := (46, ([(0, .ref a0), (1, .int i1), (2, .ref b2), (3, .int i3)], [.int (8 : Int32), .int ((I30_2 a0 0) * (8 : Int32)), .ref (a0 + 2), .int i3, .ref b2]))) rfl ?_
        obtain ⟨I46_4, hxI46_4, h⟩ := Option.bind_eq_some_iff.mp h
        refine gg_cp aMi64 rfl rfl (Nat.le_of_ble_eq_true rfl) hxI46_4 ?_
        refine go_ops aMi64 2 _ (f1 := (51, ([(0, .ref a0), (1, .int i1), (2, .ref b2), (3, .int i3)], [.ref a0, .ref a0]))) rfl ?_
        refine gg_gI aMi64 rfl rfl rfl (gI_of (sh4_z ha0)) ?_
        refine go_ops aMi64 2 _ (f1 := (56, ([(0, .ref a0), (1, .int i1), (2, .ref b2), (3, .int i3)], [.int ((I46_4 a0 0) + (1 : Int32)), .ref a0]))) rfl ?_
        obtain ⟨I56_5, hxI56_5, h⟩ := Option.bind_eq_some_iff.mp h
        refine gg_pI aMi64 rfl rfl rfl rfl (by decide) (pI_of (sh4_z ha0) hxI56_5) ?_
        refine go_le (lv1 := []) (aLe_of (show (List.map (fun q => q.1) ([] : ALv)).Nodup from (by show ([] : List Nat).Nodup; decide)) aSubL_nil) ?_
        exact Tf64_b59 hd a0 ha0 I56_5 _ h
-- KernelGym$Clerk.handOver (LKernelGym$FileCall;)V
def f32_b30 (kad : Nat → Nat) (N : Nat) (Z : AZ) (k2 : Nat → Nat → Int32 → AI → Option (Unit × AI)) (a0 : Nat) (a1 : Nat) (i2 : Int32) (I : AI) : Option (Unit × AI) :=
  k2 a0 a1 (i2 + (1 : Int32)) I
set_option maxRecDepth 20000 in
theorem Tf32_b30 {kad : Nat → Nat} {N : Nat} {Z : AZ} {d : Nat} {t : Option Nat × (Nat × Nat)} (hd : 1 ≤ d) (k2 : Nat → Nat → Int32 → AI → Option (Unit × AI))  (hk2 : ∀ (a0 : Nat) (ha0 : sh1 kad Z a0) (a1 : Nat) (ha1 : sh4 kad Z a1) (i2 : Int32) (I : AI) (r : Unit × AI), k2 a0 a1 i2 I = some r → aGo kad d 32 (2, ([(0, .ref a0), (1, .ref a1), (2, .int i2)], [])) (aMem Z I, t) (qV Z t r)) : ∀ (a0 : Nat) (ha0 : sh1 kad Z a0) (a1 : Nat) (ha1 : sh4 kad Z a1) (i2 : Int32) (I : AI) (r : Unit × AI), f32_b30 kad N Z k2 a0 a1 i2 I = some r → aGo kad d 32 (30, ([(0, .ref a0), (1, .ref a1), (2, .int i2)], [])) (aMem Z I, t) (qV Z t r) := by
  intro a0 ha0 a1 ha1 i2 I r h
  unfold f32_b30 at h
  refine go_ops aMi32 2 _ (f1 := (2, ([(2, .int (i2 + (1 : Int32))), (0, .ref a0), (1, .ref a1)], []))) rfl ?_
  refine go_le (lv1 := [(0, .ref a0), (1, .ref a1), (2, .int (i2 + (1 : Int32)))]) (aLe_of (show (List.map (fun q => q.1) ([(0, .ref a0), (1, .ref a1), (2, .int (i2 + (1 : Int32)))] : ALv)).Nodup from (by show ([0, 1, 2] : List Nat).Nodup; decide)) (aSubL_cons rfl (aSubL_cons rfl (aSubL_cons rfl aSubL_nil)))) ?_
  exact hk2 a0 ha0 a1 ha1 (i2 + (1 : Int32)) I _ h
def f32_b2 (kad : Nat → Nat) (N : Nat) (Z : AZ) : Nat → Nat → Nat → Int32 → AI → Option (Unit × AI)
  | 0, _, _, _, _ => none
  | F + 1, a0, a1, i2, I =>
    if (32 : Int32) ≤ i2 then
      some ((), I)
    else
      (ixA 32 i2).bind fun j13_1 =>
      if (I (a0 + 2) j13_1) = 0 then
        f32_b30 kad N Z (fun p0 p1 p2 I => f32_b2 kad N Z F p0 p1 p2 I) a0 a1 i2 I
      else
        (f64 kad N Z a1 i2 (a0 + 1) (i2 * (8 : Int32)) I).bind fun r27_2 =>
        f32_b30 kad N Z (fun p0 p1 p2 I => f32_b2 kad N Z F p0 p1 p2 I) a0 a1 i2 r27_2.2
set_option maxRecDepth 20000 in
theorem Tf32_b2 {kad : Nat → Nat} {N : Nat} {Z : AZ} {d : Nat} {t : Option Nat × (Nat × Nat)} (hd : 1 ≤ d) : ∀ (F : Nat) (a0 : Nat) (ha0 : sh1 kad Z a0) (a1 : Nat) (ha1 : sh4 kad Z a1) (i2 : Int32) (I : AI) (r : Unit × AI), f32_b2 kad N Z F a0 a1 i2 I = some r → aGo kad d 32 (2, ([(0, .ref a0), (1, .ref a1), (2, .int i2)], [])) (aMem Z I, t) (qV Z t r) := by
  intro F
  induction F with
  | zero => intro a0 ha0 a1 ha1 i2 I r h; cases h
  | succ F ih =>
    intro a0 ha0 a1 ha1 i2 I r h
    unfold f32_b2 at h
    refine go_ops aMi32 2 _ (f1 := (5, ([(0, .ref a0), (1, .ref a1), (2, .int i2)], [.int (32 : Int32), .int i2]))) rfl ?_
    refine gg_br (b := decide ((32 : Int32) ≤ i2)) (tg := 36) (off := 31) aMi32 rfl rfl rfl rfl (fun hb => ?_) (fun hb => ?_)
    · rw [if_pos (of_decide_eq_true hb)] at h
      cases h
      exact go_ret aMi32 rfl rfl ⟨rfl, rfl⟩
    · rw [if_neg (of_decide_eq_false hb)] at h
      refine go_ops aMi32 1 _ (f1 := (9, ([(0, .ref a0), (1, .ref a1), (2, .int i2)], [.ref a0]))) rfl ?_
      refine gg_gR (b := (a0 + 2)) aMi32 rfl rfl rfl (gR_of (sh1_z ha0) (sh1_r1 ha0)) ?_
      refine go_ops aMi32 1 _ (f1 := (13, ([(0, .ref a0), (1, .ref a1), (2, .int i2)], [.int i2, .ref (a0 + 2)]))) rfl ?_
      obtain ⟨j13_1, hxj13_1, h⟩ := Option.bind_eq_some_iff.mp h
      refine gg_lI (Or.inr ⟨rfl, rfl⟩) aMi32 rfl (lI_of (sh1_a1 ha0) hxj13_1) ?_
      refine gg_br (b := decide ((I (a0 + 2) j13_1) = 0)) (tg := 30) (off := 16) aMi32 rfl rfl rfl rfl (fun hb => ?_) (fun hb => ?_)
      · rw [if_pos (of_decide_eq_true hb)] at h
        exact Tf32_b30 hd (fun p0 p1 p2 I => f32_b2 kad N Z F p0 p1 p2 I) (fun p0 q0 p1 q1 p2 I r hh => ih p0 q0 p1 q1 p2 I r hh) a0 ha0 a1 ha1 i2 I _ h
      · rw [if_neg (of_decide_eq_false hb)] at h
        refine go_ops aMi32 3 _ (f1 := (20, ([(0, .ref a0), (1, .ref a1), (2, .int i2)], [.ref a0, .int i2, .ref a1]))) rfl ?_
        refine gg_gR (b := (a0 + 1)) aMi32 rfl rfl rfl (gR_of (sh1_z ha0) (sh1_r0 ha0)) ?_
        refine go_ops aMi32 3 _ (f1 := (27, ([(0, .ref a0), (1, .ref a1), (2, .int i2)], [.int (i2 * (8 : Int32)), .ref (a0 + 1), .int i2, .ref a1]))) rfl ?_
        obtain ⟨r27_2, hxr27_2, h⟩ := Option.bind_eq_some_iff.mp h
        refine gg_cv (as := [.int i2, .ref (a0 + 1), .int (i2 * (8 : Int32))]) (r := []) aMi32 rfl rfl rfl aMi64 (Nat.le_of_ble_eq_true rfl) rfl (Nat.le_of_ble_eq_true rfl) (Nat.le_of_ble_eq_true rfl) (by omega) (isK_of (sh4_z ha1)) (Tf64 (by omega) a1 ha1 i2 (a0 + 1) (i2 * (8 : Int32)) I _ hxr27_2) ?_
        show aGo kad d 32 (30, ([(0, .ref a0), (1, .ref a1), (2, .int i2)], [])) (aMem Z r27_2.2, t) _
        exact Tf32_b30 hd (fun p0 p1 p2 I => f32_b2 kad N Z F p0 p1 p2 I) (fun p0 q0 p1 q1 p2 I r hh => ih p0 q0 p1 q1 p2 I r hh) a0 ha0 a1 ha1 i2 r27_2.2 _ h
def f32 (kad : Nat → Nat) (N : Nat) (Z : AZ) (a0 : Nat) (a1 : Nat) (I : AI) : Option (Unit × AI) :=
  f32_b2 kad N Z N a0 a1 (0 : Int32) I
set_option maxRecDepth 20000 in
theorem Tf32 {kad : Nat → Nat} {N : Nat} {Z : AZ} {d : Nat} {t : Option Nat × (Nat × Nat)} (hd : 1 ≤ d) : ∀ (a0 : Nat) (ha0 : sh1 kad Z a0) (a1 : Nat) (ha1 : sh4 kad Z a1) (I : AI) (r : Unit × AI), f32 kad N Z a0 a1 I = some r → aGo kad d 32 (0, ([(0, .ref a0), (1, .ref a1)], [])) (aMem Z I, t) (qV Z t r) := by
  intro a0 ha0 a1 ha1 I r h
  unfold f32 at h
  refine go_ops aMi32 2 _ (f1 := (2, ([(2, .int (0 : Int32)), (0, .ref a0), (1, .ref a1)], []))) rfl ?_
  refine go_le (lv1 := [(0, .ref a0), (1, .ref a1), (2, .int (0 : Int32))]) (aLe_of (show (List.map (fun q => q.1) ([(0, .ref a0), (1, .ref a1), (2, .int (0 : Int32))] : ALv)).Nodup from (by show ([0, 1, 2] : List Nat).Nodup; decide)) (aSubL_cons rfl (aSubL_cons rfl (aSubL_cons rfl aSubL_nil)))) ?_
  exact Tf32_b2 hd N a0 ha0 a1 ha1 (0 : Int32) I _ h
