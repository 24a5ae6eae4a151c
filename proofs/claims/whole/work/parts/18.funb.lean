-- KernelGym$Assembler.goThroughMacro (II)I
def f9_b9 (kad : Nat → Nat) (N : Nat) (Z : AZ) (rc : Nat → Int32 → Int32 → Int32 → Int32 → AI → Option (Int32 × AI)) (a0 : Nat) (I : AI) : Option (Int32 × AI) :=
  some ((0 : Int32), I)
set_option maxRecDepth 20000 in
theorem Tf9_b9 {kad : Nat → Nat} {N : Nat} {Z : AZ} {d : Nat} {t : Option Nat × (Nat × Nat)} (hd : 1 ≤ d) {rc : Nat → Int32 → Int32 → Int32 → Int32 → AI → Option (Int32 × AI)} (hrc : ∀ a (ha : sh0 kad Z a) i j k m I r, rc a i j k m I = some r → aEv kad (d - 1) 8 [.ref a, .int i, .int j, .int k, .int m] (aMem Z I, t) (qI Z t r)) : ∀ (a0 : Nat) (ha0 : sh0 kad Z a0) (I : AI) (r : Int32 × AI), f9_b9 kad N Z rc a0 I = some r → aGo kad d 9 (9, ([], [])) (aMem Z I, t) (qI Z t r) := by
  intro a0 ha0 I r h
  unfold f9_b9 at h
  refine go_ops aMi9 1 _ (f1 := (10, ([], [.int (0 : Int32)]))) rfl ?_
  cases h
  exact go_ret aMi9 rfl aRetI ⟨rfl, rfl⟩
def f9_e (kad : Nat → Nat) (N : Nat) (Z : AZ) (rc : Nat → Int32 → Int32 → Int32 → Int32 → AI → Option (Int32 × AI)) (a0 : Nat) (i1 : Int32) (i2 : Int32) (I : AI) : Option (Int32 × AI) :=
  if i1 < 0 then
    f9_b9 kad N Z rc a0 I
  else
    if i1 < (5 : Int32) then
      (wI I a0 14 ((I a0 14) + (1 : Int32))).bind fun I18_1 =>
      (ixA 5 i1).bind fun j27_3 =>
      (wB I18_1 (a0 + 5) j27_3 (1 : Int32)).bind fun I27_2 =>
      (ixA 5 i1).bind fun j34_4 =>
      (ixA 5 i1).bind fun j42_5 =>
      (rc a0 ((I27_2 (a0 + 3) j34_4) + (1 : Int32)) (I27_2 (a0 + 4) j42_5) (I27_2 a0 14) (i2 + (1 : Int32)) I27_2).bind fun r50_6 =>
      (ixA 5 i1).bind fun j60_8 =>
      (wB r50_6.2 (a0 + 5) j60_8 (0 : Int32)).bind fun I60_7 =>
      some (r50_6.1, I60_7)
    else
      f9_b9 kad N Z rc a0 I
set_option maxRecDepth 20000 in
theorem Tf9_e {kad : Nat → Nat} {N : Nat} {Z : AZ} {d : Nat} {t : Option Nat × (Nat × Nat)} (hd : 1 ≤ d) {rc : Nat → Int32 → Int32 → Int32 → Int32 → AI → Option (Int32 × AI)} (hrc : ∀ a (ha : sh0 kad Z a) i j k m I r, rc a i j k m I = some r → aEv kad (d - 1) 8 [.ref a, .int i, .int j, .int k, .int m] (aMem Z I, t) (qI Z t r)) : ∀ (a0 : Nat) (ha0 : sh0 kad Z a0) (i1 : Int32) (i2 : Int32) (I : AI) (r : Int32 × AI), f9_e kad N Z rc a0 i1 i2 I = some r → aGo kad d 9 (0, ([(0, .ref a0), (1, .int i1), (2, .int i2)], [])) (aMem Z I, t) (qI Z t r) := by
  intro a0 ha0 i1 i2 I r h
  unfold f9_e at h
  refine go_ops aMi9 1 _ (f1 := (1, ([(0, .ref a0), (1, .int i1), (2, .int i2)], [.int i1]))) rfl ?_
  refine gg_br (b := decide (i1 < 0)) (tg := 9) (off := 8) aMi9 rfl rfl rfl rfl (fun hb => ?_) (fun hb => ?_)
  · rw [if_pos (of_decide_eq_true hb)] at h
    refine go_le (lv1 := []) (aLe_of (show (List.map (fun q => q.1) ([] : ALv)).Nodup from (by show ([] : List Nat).Nodup; decide)) aSubL_nil) ?_
    exact Tf9_b9 hd hrc a0 ha0 I _ h
  · rw [if_neg (of_decide_eq_false hb)] at h
    refine go_ops aMi9 2 _ (f1 := (6, ([(0, .ref a0), (1, .int i1), (2, .int i2)], [.int (5 : Int32), .int i1]))) rfl ?_
    refine gg_br (b := decide (i1 < (5 : Int32))) (tg := 11) (off := 5) aMi9 rfl rfl rfl rfl (fun hb => ?_) (fun hb => ?_)
    · rw [if_pos (of_decide_eq_true hb)] at h
      refine go_ops aMi9 2 _ (f1 := (13, ([(0, .ref a0), (1, .int i1), (2, .int i2)], [.ref a0, .ref a0]))) rfl ?_
      refine gg_gI aMi9 rfl rfl rfl (gI_of (sh0_z ha0)) ?_
      refine go_ops aMi9 2 _ (f1 := (18, ([(0, .ref a0), (1, .int i1), (2, .int i2)], [.int ((I a0 14) + (1 : Int32)), .ref a0]))) rfl ?_
      obtain ⟨I18_1, hxI18_1, h⟩ := Option.bind_eq_some_iff.mp h
      refine gg_pI aMi9 rfl rfl rfl rfl (by decide) (pI_of (sh0_z ha0) hxI18_1) ?_
      refine go_ops aMi9 1 _ (f1 := (22, ([(0, .ref a0), (1, .int i1), (2, .int i2)], [.ref a0]))) rfl ?_
      refine gg_gR (b := (a0 + 5)) aMi9 rfl rfl rfl (gR_of (sh0_z ha0) (sh0_r5 ha0)) ?_
      refine go_ops aMi9 2 _ (f1 := (27, ([(0, .ref a0), (1, .int i1), (2, .int i2)], [.int (1 : Int32), .int i1, .ref (a0 + 5)]))) rfl ?_
      obtain ⟨j27_3, hxj27_3, h⟩ := Option.bind_eq_some_iff.mp h
      obtain ⟨I27_2, hxI27_2, h⟩ := Option.bind_eq_some_iff.mp h
      refine gg_sI (Or.inr ⟨rfl, rfl⟩) aMi9 rfl (sB_of (sh0_a5 ha0) hxj27_3 hxI27_2) ?_
      refine go_ops aMi9 2 _ (f1 := (30, ([(0, .ref a0), (1, .int i1), (2, .int i2)], [.ref a0, .ref a0]))) rfl ?_
      refine gg_gR (b := (a0 + 3)) aMi9 rfl rfl rfl (gR_of (sh0_z ha0) (sh0_r3 ha0)) ?_
      refine go_ops aMi9 1 _ (f1 := (34, ([(0, .ref a0), (1, .int i1), (2, .int i2)], [.int i1, .ref (a0 + 3), .ref a0]))) rfl ?_
      obtain ⟨j34_4, hxj34_4, h⟩ := Option.bind_eq_some_iff.mp h
      refine gg_lI (Or.inl ⟨rfl, rfl⟩) aMi9 rfl (lI_of (sh0_a3 ha0) hxj34_4) ?_
      refine go_ops aMi9 3 _ (f1 := (38, ([(0, .ref a0), (1, .int i1), (2, .int i2)], [.ref a0, .int ((I27_2 (a0 + 3) j34_4) + (1 : Int32)), .ref a0]))) rfl ?_
      refine gg_gR (b := (a0 + 4)) aMi9 rfl rfl rfl (gR_of (sh0_z ha0) (sh0_r4 ha0)) ?_
      refine go_ops aMi9 1 _ (f1 := (42, ([(0, .ref a0), (1, .int i1), (2, .int i2)], [.int i1, .ref (a0 + 4), .int ((I27_2 (a0 + 3) j34_4) + (1 : Int32)), .ref a0]))) rfl ?_
      obtain ⟨j42_5, hxj42_5, h⟩ := Option.bind_eq_some_iff.mp h
      refine gg_lI (Or.inl ⟨rfl, rfl⟩) aMi9 rfl (lI_of (sh0_a4 ha0) hxj42_5) ?_
      refine go_ops aMi9 1 _ (f1 := (44, ([(0, .ref a0), (1, .int i1), (2, .int i2)], [.ref a0, .int (I27_2 (a0 + 4) j42_5), .int ((I27_2 (a0 + 3) j34_4) + (1 : Int32)), .ref a0]))) rfl ?_
      refine gg_gI aMi9 rfl rfl rfl (gI_of (sh0_z ha0)) ?_
      refine go_ops aMi9 3 _ (f1 := (50, ([(0, .ref a0), (1, .int i1), (2, .int i2)], [.int (i2 + (1 : Int32)), .int (I27_2 a0 14), .int (I27_2 (a0 + 4) j42_5), .int ((I27_2 (a0 + 3) j34_4) + (1 : Int32)), .ref a0]))) rfl ?_
      obtain ⟨r50_6, hxr50_6, h⟩ := Option.bind_eq_some_iff.mp h
      refine gg_cv (as := [.int ((I27_2 (a0 + 3) j34_4) + (1 : Int32)), .int (I27_2 (a0 + 4) j42_5), .int (I27_2 a0 14), .int (i2 + (1 : Int32))]) (r := []) aMi9 rfl rfl rfl aMi8 (Nat.le_of_ble_eq_true rfl) rfl (Nat.le_of_ble_eq_true rfl) (Nat.le_of_ble_eq_true rfl) (by omega) (isK_of (sh0_z ha0)) (hrc a0 ha0 ((I27_2 (a0 + 3) j34_4) + (1 : Int32)) (I27_2 (a0 + 4) j42_5) (I27_2 a0 14) (i2 + (1 : Int32)) I27_2 _ hxr50_6) ?_
      show aGo kad d 9 (53, ([(0, .ref a0), (1, .int i1), (2, .int i2)], [.int r50_6.1])) (aMem Z r50_6.2, t) _
      refine go_ops aMi9 2 _ (f1 := (55, ([(3, .int r50_6.1), (0, .ref a0), (1, .int i1), (2, .int i2)], [.ref a0]))) rfl ?_
      refine gg_gR (b := (a0 + 5)) aMi9 rfl rfl rfl (gR_of (sh0_z ha0) (sh0_r5 ha0)) ?_
      refine go_ops aMi9 2 _ (f1 := (60, ([(3, .int r50_6.1), (0, .ref a0), (1, .int i1), (2, .int i2)], [.int (0 : Int32), .int i1, .ref (a0 + 5)]))) rfl ?_
      obtain ⟨j60_8, hxj60_8, h⟩ := Option.bind_eq_some_iff.mp h
      obtain ⟨I60_7, hxI60_7, h⟩ := Option.bind_eq_some_iff.mp h
      refine gg_sI (Or.inr ⟨rfl, rfl⟩) aMi9 rfl (sB_of (sh0_a5 ha0) hxj60_8 hxI60_7) ?_
      refine go_ops aMi9 1 _ (f1 := (62, ([(3, .int r50_6.1), (0, .ref a0), (1, .int i1), (2, .int i2)], [.int r50_6.1]))) rfl ?_
      cases h
      exact go_ret aMi9 rfl aRetI ⟨rfl, rfl⟩
    · rw [if_neg (of_decide_eq_false hb)] at h
      refine go_le (lv1 := []) (aLe_of (show (List.map (fun q => q.1) ([] : ALv)).Nodup from (by show ([] : List Nat).Nodup; decide)) aSubL_nil) ?_
      exact Tf9_b9 hd hrc a0 ha0 I _ h
-- KernelGym$Assembler.goThrough (IIII)I
def f8_b147 (kad : Nat → Nat) (N : Nat) (Z : AZ) (rc : Nat → Int32 → Int32 → Int32 → Int32 → AI → Option (Int32 × AI)) (k7 : Nat → Int32 → Int32 → Int32 → Int32 → AI → Option (Int32 × AI)) (a0 : Nat) (i2 : Int32) (i3 : Int32) (i4 : Int32) (i5 : Int32) (I : AI) : Option (Int32 × AI) :=
  k7 a0 i2 i3 i4 (i5 + (1 : Int32)) I
set_option maxRecDepth 20000 in
theorem Tf8_b147 {kad : Nat → Nat} {N : Nat} {Z : AZ} {d : Nat} {t : Option Nat × (Nat × Nat)} (hd : 4 ≤ d) {rc : Nat → Int32 → Int32 → Int32 → Int32 → AI → Option (Int32 × AI)} (hrc : ∀ a (ha : sh0 kad Z a) i j k m I r, rc a i j k m I = some r → aEv kad (d - 2) 8 [.ref a, .int i, .int j, .int k, .int m] (aMem Z I, t) (qI Z t r)) (k7 : Nat → Int32 → Int32 → Int32 → Int32 → AI → Option (Int32 × AI))  (hk7 : ∀ (a0 : Nat) (ha0 : sh0 kad Z a0) (i2 : Int32) (i3 : Int32) (i4 : Int32) (i5 : Int32) (I : AI) (r : Int32 × AI), k7 a0 i2 i3 i4 i5 I = some r → aGo kad d 8 (7, ([(0, .ref a0), (2, .int i2), (3, .int i3), (4, .int i4), (5, .int i5)], [])) (aMem Z I, t) (qI Z t r)) : ∀ (a0 : Nat) (ha0 : sh0 kad Z a0) (i2 : Int32) (i3 : Int32) (i4 : Int32) (i5 : Int32) (I : AI) (r : Int32 × AI), f8_b147 kad N Z rc k7 a0 i2 i3 i4 i5 I = some r → aGo kad d 8 (147, ([(0, .ref a0), (2, .int i2), (3, .int i3), (4, .int i4), (5, .int i5)], [])) (aMem Z I, t) (qI Z t r) := by
  intro a0 ha0 i2 i3 i4 i5 I r h
  unfold f8_b147 at h
  refine go_ops aMi8 2 _ (f1 := (7, ([(5, .int (i5 + (1 : Int32))), (0, .ref a0), (2, .int i2), (3, .int i3), (4, .int i4)], []))) rfl ?_
  refine go_le (lv1 := [(0, .ref a0), (2, .int i2), (3, .int i3), (4, .int i4), (5, .int (i5 + (1 : Int32)))]) (aLe_of (show (List.map (fun q => q.1) ([(0, .ref a0), (2, .int i2), (3, .int i3), (4, .int i4), (5, .int (i5 + (1 : Int32)))] : ALv)).Nodup from (by show ([0, 2, 3, 4, 5] : List Nat).Nodup; decide)) (aSubL_cons rfl (aSubL_cons rfl (aSubL_cons rfl (aSubL_cons rfl (aSubL_cons rfl aSubL_nil)))))) ?_
  exact hk7 a0 ha0 i2 i3 i4 (i5 + (1 : Int32)) I _ h
def f8_b94 (kad : Nat → Nat) (N : Nat) (Z : AZ) (rc : Nat → Int32 → Int32 → Int32 → Int32 → AI → Option (Int32 × AI)) (k7 : Nat → Int32 → Int32 → Int32 → Int32 → AI → Option (Int32 × AI)) (a0 : Nat) (i2 : Int32) (i3 : Int32) (i4 : Int32) (i5 : Int32) (b6 : Nat) (i7 : Int32) (I : AI) : Option (Int32 × AI) :=
  if i7 = 0 then
    if ¬ (kad (dzo (I b6 0))) = (kad 6) then
      f8_b147 kad N Z rc k7 a0 i2 i3 i4 i5 I
    else
      if (I b6 1) < 0 then
        f8_b147 kad N Z rc k7 a0 i2 i3 i4 i5 I
      else
        if (5 : Int32) ≤ (I b6 1) then
          f8_b147 kad N Z rc k7 a0 i2 i3 i4 i5 I
        else
          (ixA 5 (I b6 1)).bind fun j141_1 =>
          f8_b147 kad N Z rc k7 a0 i2 i3 i4 (if i5 < (I (a0 + 4) j141_1) then (I (a0 + 4) j141_1) else i5) I
  else
    some (i7, I)
set_option maxRecDepth 20000 in
theorem Tf8_b94 {kad : Nat → Nat} {N : Nat} {Z : AZ} {d : Nat} {t : Option Nat × (Nat × Nat)} (hd : 4 ≤ d) {rc : Nat → Int32 → Int32 → Int32 → Int32 → AI → Option (Int32 × AI)} (hrc : ∀ a (ha : sh0 kad Z a) i j k m I r, rc a i j k m I = some r → aEv kad (d - 2) 8 [.ref a, .int i, .int j, .int k, .int m] (aMem Z I, t) (qI Z t r)) (k7 : Nat → Int32 → Int32 → Int32 → Int32 → AI → Option (Int32 × AI))  (hk7 : ∀ (a0 : Nat) (ha0 : sh0 kad Z a0) (i2 : Int32) (i3 : Int32) (i4 : Int32) (i5 : Int32) (I : AI) (r : Int32 × AI), k7 a0 i2 i3 i4 i5 I = some r → aGo kad d 8 (7, ([(0, .ref a0), (2, .int i2), (3, .int i3), (4, .int i4), (5, .int i5)], [])) (aMem Z I, t) (qI Z t r)) : ∀ (a0 : Nat) (ha0 : sh0 kad Z a0) (i2 : Int32) (i3 : Int32) (i4 : Int32) (i5 : Int32) (b6 : Nat) (hb6 : sh7 kad Z b6) (i7 : Int32) (I : AI) (r : Int32 × AI), f8_b94 kad N Z rc k7 a0 i2 i3 i4 i5 b6 i7 I = some r → aGo kad d 8 (94, ([(0, .ref a0), (2, .int i2), (3, .int i3), (4, .int i4), (5, .int i5), (6, .ref b6), (7, .int i7)], [])) (aMem Z I, t) (qI Z t r) := by
  intro a0 ha0 i2 i3 i4 i5 b6 hb6 i7 I r h
  unfold f8_b94 at h
  refine go_ops aMi8 1 _ (f1 := (96, ([(0, .ref a0), (2, .int i2), (3, .int i3), (4, .int i4), (5, .int i5), (6, .ref b6), (7, .int i7)], [.int i7]))) rfl ?_
  refine gg_br (b := decide (i7 = 0)) (tg := 102) (off := 6) aMi8 rfl rfl rfl rfl (fun hb => ?_) (fun hb => ?_)
  · rw [if_pos (of_decide_eq_true hb)] at h
    refine go_ops aMi8 1 _ (f1 := (104, ([(0, .ref a0), (2, .int i2), (3, .int i3), (4, .int i4), (5, .int i5), (6, .ref b6), (7, .int i7)], [.ref b6]))) rfl ?_
    refine gg_gR (b := (kad (dzo (I b6 0)))) aMi8 rfl rfl rfl (gR_of2 (sh7_z hb6) (sh7_d hb6 _)) ?_
    refine gg_gs aMi8 rfl rfl ?_
    refine gg_br (b := decide (¬ (kad (dzo (I b6 0))) = (kad 6))) (tg := 147) (off := 37) aMi8 rfl rfl rfl rfl (fun hb => ?_) (fun hb => ?_)
    · rw [if_pos (of_decide_eq_true hb)] at h
      refine go_le (lv1 := [(0, .ref a0), (2, .int i2), (3, .int i3), (4, .int i4), (5, .int i5)]) (aLe_of (show (List.map (fun q => q.1) ([(0, .ref a0), (2, .int i2), (3, .int i3), (4, .int i4), (5, .int i5)] : ALv)).Nodup from (by show ([0, 2, 3, 4, 5] : List Nat).Nodup; decide)) (aSubL_cons rfl (aSubL_cons rfl (aSubL_cons rfl (aSubL_cons rfl (aSubL_cons rfl aSubL_nil)))))) ?_
      exact Tf8_b147 hd hrc k7 hk7 a0 ha0 i2 i3 i4 i5 I _ h
    · rw [if_neg (of_decide_eq_false hb)] at h
      refine go_ops aMi8 1 _ (f1 := (115, ([(0, .ref a0), (2, .int i2), (3, .int i3), (4, .int i4), (5, .int i5), (6, .ref b6), (7, .int i7)], [.ref b6]))) rfl ?_
      refine gg_gI aMi8 rfl rfl rfl (gI_of (sh7_z hb6)) ?_
      refine gg_br (b := decide ((I b6 1) < 0)) (tg := 147) (off := 29) aMi8 rfl rfl rfl rfl (fun hb => ?_) (fun hb => ?_)
      · rw [if_pos (of_decide_eq_true hb)] at h
        refine go_le (lv1 := [(0, .ref a0), (2, .int i2), (3, .int i3), (4, .int i4), (5, .int i5)]) (aLe_of (show (List.map (fun q => q.1) ([(0, .ref a0), (2, .int i2), (3, .int i3), (4, .int i4), (5, .int i5)] : ALv)).Nodup from (by show ([0, 2, 3, 4, 5] : List Nat).Nodup; decide)) (aSubL_cons rfl (aSubL_cons rfl (aSubL_cons rfl (aSubL_cons rfl (aSubL_cons rfl aSubL_nil)))))) ?_
        exact Tf8_b147 hd hrc k7 hk7 a0 ha0 i2 i3 i4 i5 I _ h
      · rw [if_neg (of_decide_eq_false hb)] at h
        refine go_ops aMi8 1 _ (f1 := (123, ([(0, .ref a0), (2, .int i2), (3, .int i3), (4, .int i4), (5, .int i5), (6, .ref b6), (7, .int i7)], [.ref b6]))) rfl ?_
        refine gg_gI aMi8 rfl rfl rfl (gI_of (sh7_z hb6)) ?_
        refine go_ops aMi8 1 _ (f1 := (127, ([(0, .ref a0), (2, .int i2), (3, .int i3), (4, .int i4), (5, .int i5), (6, .ref b6), (7, .int i7)], [.int (5 : Int32), .int (I b6 1)]))) rfl ?_
        refine gg_br (b := decide ((5 : Int32) ≤ (I b6 1))) (tg := 147) (off := 20) aMi8 rfl rfl rfl rfl (fun hb => ?_) (fun hb => ?_)
        · rw [if_pos (of_decide_eq_true hb)] at h
          refine go_le (lv1 := [(0, .ref a0), (2, .int i2), (3, .int i3), (4, .int i4), (5, .int i5)]) (aLe_of (show (List.map (fun q => q.1) ([(0, .ref a0), (2, .int i2), (3, .int i3), (4, .int i4), (5, .int i5)] : ALv)).Nodup from (by show ([0, 2, 3, 4, 5] : List Nat).Nodup; decide)) (aSubL_cons rfl (aSubL_cons rfl (aSubL_cons rfl (aSubL_cons rfl (aSubL_cons rfl aSubL_nil)))))) ?_
          exact Tf8_b147 hd hrc k7 hk7 a0 ha0 i2 i3 i4 i5 I _ h
        · rw [if_neg (of_decide_eq_false hb)] at h
          refine go_ops aMi8 2 _ (f1 := (133, ([(0, .ref a0), (2, .int i2), (3, .int i3), (4, .int i4), (5, .int i5), (6, .ref b6), (7, .int i7)], [.ref a0, .int i5]))) rfl ?_
          refine gg_gR (b := (a0 + 4)) aMi8 rfl rfl rfl (gR_of (sh0_z ha0) (sh0_r4 ha0)) ?_
          refine go_ops aMi8 1 _ (f1 := (138, ([(0, .ref a0), (2, .int i2), (3, .int i3), (4, .int i4), (5, .int i5), (6, .ref b6), (7, .int i7)], [.ref b6, .ref (a0 + 4), .int i5]))) rfl ?_
          refine gg_gI aMi8 rfl rfl rfl (gI_of (sh7_z hb6)) ?_
          obtain ⟨j141_1, hxj141_1, h⟩ := Option.bind_eq_some_iff.mp h
          refine gg_lI (Or.inl ⟨rfl, rfl⟩) aMi8 rfl (lI_of (sh0_a4 ha0) hxj141_1) ?_
          refine gg_mx aMi8 rfl rfl (Nat.le_of_ble_eq_true rfl) ?_
          refine go_ops aMi8 1 _ (f1 := (147, ([(5, .int (if i5 < (I (a0 + 4) j141_1) then (I (a0 + 4) j141_1) else i5)), (0, .ref a0), (2, .int i2), (3, .int i3), (4, .int i4), (6, .ref b6), (7, .int i7)], []))) rfl ?_
          refine go_le (lv1 := [(0, .ref a0), (2, .int i2), (3, .int i3), (4, .int i4), (5, .int (if i5 < (I (a0 + 4) j141_1) then (I (a0 + 4) j141_1) else i5))]) (aLe_of (show (List.map (fun q => q.1) ([(0, .ref a0), (2, .int i2), (3, .int i3), (4, .int i4), (5, .int (if i5 < (I (a0 + 4) j141_1) then (I (a0 + 4) j141_1) else i5))] : ALv)).Nodup from (by show ([0, 2, 3, 4, 5] : List Nat).Nodup; decide)) (aSubL_cons rfl (aSubL_cons rfl (aSubL_cons rfl (aSubL_cons rfl (aSubL_cons rfl aSubL_nil)))))) ?_
          exact Tf8_b147 hd hrc k7 hk7 a0 ha0 i2 i3 i4 (if i5 < (I (a0 + 4) j141_1) then (I (a0 + 4) j141_1) else i5) I _ h
  · rw [if_neg (of_decide_eq_false hb)] at h
    refine go_ops aMi8 1 _ (f1 := (101, ([(0, .ref a0), (2, .int i2), (3, .int i3), (4, .int i4), (5, .int i5), (6, .ref b6), (7, .int i7)], [.int i7]))) rfl ?_
    cases h
    exact go_ret aMi8 rfl aRetI ⟨rfl, rfl⟩
def f8_b57 (kad : Nat → Nat) (N : Nat) (Z : AZ) (rc : Nat → Int32 → Int32 → Int32 → Int32 → AI → Option (Int32 × AI)) (k7 : Nat → Int32 → Int32 → Int32 → Int32 → AI → Option (Int32 × AI)) (a0 : Nat) (i2 : Int32) (i3 : Int32) (i4 : Int32) (i5 : Int32) (b6 : Nat) (s0 : Int32) (I : AI) : Option (Int32 × AI) :=
  if ¬ s0 = 0 then
    f8_b94 kad N Z rc k7 a0 i2 i3 i4 i5 b6 s0 I
  else
    if ¬ (kad (dzo (I b6 0))) = (kad 8) then
      f8_b94 kad N Z rc k7 a0 i2 i3 i4 i5 b6 s0 I
    else
      if (5 : Int32) ≤ i4 then
        f8_b94 kad N Z rc k7 a0 i2 i3 i4 i5 b6 s0 I
      else
        (f9_e kad N Z rc a0 (I b6 1) i4 I).bind fun r89_1 =>
        f8_b94 kad N Z rc k7 a0 i2 i3 i4 i5 b6 r89_1.1 r89_1.2
set_option maxRecDepth 20000 in
theorem Tf8_b57 {kad : Nat → Nat} {N : Nat} {Z : AZ} {d : Nat} {t : Option Nat × (Nat × Nat)} (hd : 4 ≤ d) {rc : Nat → Int32 → Int32 → Int32 → Int32 → AI → Option (Int32 × AI)} (hrc : ∀ a (ha : sh0 kad Z a) i j k m I r, rc a i j k m I = some r → aEv kad (d - 2) 8 [.ref a, .int i, .int j, .int k, .int m] (aMem Z I, t) (qI Z t r)) (k7 : Nat → Int32 → Int32 → Int32 → Int32 → AI → Option (Int32 × AI))  (hk7 : ∀ (a0 : Nat) (ha0 : sh0 kad Z a0) (i2 : Int32) (i3 : Int32) (i4 : Int32) (i5 : Int32) (I : AI) (r : Int32 × AI), k7 a0 i2 i3 i4 i5 I = some r → aGo kad d 8 (7, ([(0, .ref a0), (2, .int i2), (3, .int i3), (4, .int i4), (5, .int i5)], [])) (aMem Z I, t) (qI Z t r)) : ∀ (a0 : Nat) (ha0 : sh0 kad Z a0) (i2 : Int32) (i3 : Int32) (i4 : Int32) (i5 : Int32) (b6 : Nat) (hb6 : sh7 kad Z b6) (s0 : Int32) (I : AI) (r : Int32 × AI), f8_b57 kad N Z rc k7 a0 i2 i3 i4 i5 b6 s0 I = some r → aGo kad d 8 (57, ([(0, .ref a0), (2, .int i2), (3, .int i3), (4, .int i4), (5, .int i5), (6, .ref b6)], [.int s0])) (aMem Z I, t) (qI Z t r) := by
  intro a0 ha0 i2 i3 i4 i5 b6 hb6 s0 I r h
  unfold f8_b57 at h
  refine go_ops aMi8 2 _ (f1 := (61, ([(7, .int s0), (0, .ref a0), (2, .int i2), (3, .int i3), (4, .int i4), (5, .int i5), (6, .ref b6)], [.int s0]))) rfl ?_
  refine gg_br (b := decide (¬ s0 = 0)) (tg := 94) (off := 33) aMi8 rfl rfl rfl rfl (fun hb => ?_) (fun hb => ?_)
  · rw [if_pos (of_decide_eq_true hb)] at h
    refine go_le (lv1 := [(0, .ref a0), (2, .int i2), (3, .int i3), (4, .int i4), (5, .int i5), (6, .ref b6), (7, .int s0)]) (aLe_of (show (List.map (fun q => q.1) ([(0, .ref a0), (2, .int i2), (3, .int i3), (4, .int i4), (5, .int i5), (6, .ref b6), (7, .int s0)] : ALv)).Nodup from (by show ([0, 2, 3, 4, 5, 6, 7] : List Nat).Nodup; decide)) (aSubL_cons rfl (aSubL_cons rfl (aSubL_cons rfl (aSubL_cons rfl (aSubL_cons rfl (aSubL_cons rfl (aSubL_cons rfl aSubL_nil)))))))) ?_
    exact Tf8_b94 hd hrc k7 hk7 a0 ha0 i2 i3 i4 i5 b6 hb6 s0 I _ h
  · rw [if_neg (of_decide_eq_false hb)] at h
    refine go_ops aMi8 1 _ (f1 := (66, ([(7, .int s0), (0, .ref a0), (2, .int i2), (3, .int i3), (4, .int i4), (5, .int i5), (6, .ref b6)], [.ref b6]))) rfl ?_
    refine gg_gR (b := (kad (dzo (I b6 0)))) aMi8 rfl rfl rfl (gR_of2 (sh7_z hb6) (sh7_d hb6 _)) ?_
    refine gg_gs aMi8 rfl rfl ?_
    refine gg_br (b := decide (¬ (kad (dzo (I b6 0))) = (kad 8))) (tg := 94) (off := 22) aMi8 rfl rfl rfl rfl (fun hb => ?_) (fun hb => ?_)
    · rw [if_pos (of_decide_eq_true hb)] at h
      refine go_le (lv1 := [(0, .ref a0), (2, .int i2), (3, .int i3), (4, .int i4), (5, .int i5), (6, .ref b6), (7, .int s0)]) (aLe_of (show (List.map (fun q => q.1) ([(0, .ref a0), (2, .int i2), (3, .int i3), (4, .int i4), (5, .int i5), (6, .ref b6), (7, .int s0)] : ALv)).Nodup from (by show ([0, 2, 3, 4, 5, 6, 7] : List Nat).Nodup; decide)) (aSubL_cons rfl (aSubL_cons rfl (aSubL_cons rfl (aSubL_cons rfl (aSubL_cons rfl (aSubL_cons rfl (aSubL_cons rfl aSubL_nil)))))))) ?_
      exact Tf8_b94 hd hrc k7 hk7 a0 ha0 i2 i3 i4 i5 b6 hb6 s0 I _ h
    · rw [if_neg (of_decide_eq_false hb)] at h
      refine go_ops aMi8 2 _ (f1 := (78, ([(7, .int s0), (0, .ref a0), (2, .int i2), (3, .int i3), (4, .int i4), (5, .int i5), (6, .ref b6)], [.int (5 : Int32), .int i4]))) rfl ?_
      refine gg_br (b := decide ((5 : Int32) ≤ i4)) (tg := 94) (off := 16) aMi8 rfl rfl rfl rfl (fun hb => ?_) (fun hb => ?_)
      · rw [if_pos (of_decide_eq_true hb)] at h
        refine go_le (lv1 := [(0, .ref a0), (2, .int i2), (3, .int i3), (4, .int i4), (5, .int i5), (6, .ref b6), (7, .int s0)]) (aLe_of (show (List.map (fun q => q.1) ([(0, .ref a0), (2, .int i2), (3, .int i3), (4, .int i4), (5, .int i5), (6, .ref b6), (7, .int s0)] : ALv)).Nodup from (by show ([0, 2, 3, 4, 5, 6, 7] : List Nat).Nodup; decide)) (aSubL_cons rfl (aSubL_cons rfl (aSubL_cons rfl (aSubL_cons rfl (aSubL_cons rfl (aSubL_cons rfl (aSubL_cons rfl aSubL_nil)))))))) ?_
        exact Tf8_b94 hd hrc k7 hk7 a0 ha0 i2 i3 i4 i5 b6 hb6 s0 I _ h
      · rw [if_neg (of_decide_eq_false hb)] at h
        refine go_ops aMi8 2 _ (f1 := (84, ([(7, .int s0), (0, .ref a0), (2, .int i2), (3, .int i3), (4, .int i4), (5, .int i5), (6, .ref b6)], [.ref b6, .ref a0]))) rfl ?_
        refine gg_gI aMi8 rfl rfl rfl (gI_of (sh7_z hb6)) ?_
        refine go_ops aMi8 1 _ (f1 := (89, ([(7, .int s0), (0, .ref a0), (2, .int i2), (3, .int i3), (4, .int i4), (5, .int i5), (6, .ref b6)], [.int i4, .int (I b6 1), .ref a0]))) rfl ?_
        obtain ⟨r89_1, hxr89_1, h⟩ := Option.bind_eq_some_iff.mp h
        refine gg_cv (as := [.int (I b6 1), .int i4]) (r := []) aMi8 rfl rfl rfl aMi9 (Nat.le_of_ble_eq_true rfl) rfl (Nat.le_of_ble_eq_true rfl) (Nat.le_of_ble_eq_true rfl) (by omega) (isK_of (sh0_z ha0)) (Tf9_e (d := d - 1) (by omega) (fun a ha i j k m I r h => hrc a ha i j k m I r h) a0 ha0 (I b6 1) i4 I _ hxr89_1) ?_
        show aGo kad d 8 (92, ([(7, .int s0), (0, .ref a0), (2, .int i2), (3, .int i3), (4, .int i4), (5, .int i5), (6, .ref b6)], [.int r89_1.1])) (aMem Z r89_1.2, t) _
        refine go_ops aMi8 1 _ (f1 := (94, ([(7, .int r89_1.1), (0, .ref a0), (2, .int i2), (3, .int i3), (4, .int i4), (5, .int i5), (6, .ref b6)], []))) rfl ?_
        refine go_le (lv1 := [(0, .ref a0), (2, .int i2), (3, .int i3), (4, .int i4), (5, .int i5), (6, .ref b6), (7, .int r89_1.1)]) (aLe_of (show (List.map (fun q => q.1) ([(0, .ref a0), (2, .int i2), (3, .int i3), (4, .int i4), (5, .int i5), (6, .ref b6), (7, .int r89_1.1)] : ALv)).Nodup from (by show ([0, 2, 3, 4, 5, 6, 7] : List Nat).Nodup; decide)) (aSubL_cons rfl (aSubL_cons rfl (aSubL_cons rfl (aSubL_cons rfl (aSubL_cons rfl (aSubL_cons rfl (aSubL_cons rfl aSubL_nil)))))))) ?_
        exact Tf8_b94 hd hrc k7 hk7 a0 ha0 i2 i3 i4 i5 b6 hb6 r89_1.1 r89_1.2 _ h
def f8_b153 (kad : Nat → Nat) (N : Nat) (Z : AZ) (rc : Nat → Int32 → Int32 → Int32 → Int32 → AI → Option (Int32 × AI)) (a0 : Nat) (I : AI) : Option (Int32 × AI) :=
  some ((0 : Int32), I)
set_option maxRecDepth 20000 in
theorem Tf8_b153 {kad : Nat → Nat} {N : Nat} {Z : AZ} {d : Nat} {t : Option Nat × (Nat × Nat)} (hd : 4 ≤ d) {rc : Nat → Int32 → Int32 → Int32 → Int32 → AI → Option (Int32 × AI)} (hrc : ∀ a (ha : sh0 kad Z a) i j k m I r, rc a i j k m I = some r → aEv kad (d - 2) 8 [.ref a, .int i, .int j, .int k, .int m] (aMem Z I, t) (qI Z t r)) : ∀ (a0 : Nat) (ha0 : sh0 kad Z a0) (I : AI) (r : Int32 × AI), f8_b153 kad N Z rc a0 I = some r → aGo kad d 8 (153, ([], [])) (aMem Z I, t) (qI Z t r) := by
  intro a0 ha0 I r h
  unfold f8_b153 at h
  refine go_ops aMi8 1 _ (f1 := (154, ([], [.int (0 : Int32)]))) rfl ?_
  cases h
  exact go_ret aMi8 rfl aRetI ⟨rfl, rfl⟩
def f8_b7 (kad : Nat → Nat) (N : Nat) (Z : AZ) (rc : Nat → Int32 → Int32 → Int32 → Int32 → AI → Option (Int32 × AI)) : Nat → Nat → Int32 → Int32 → Int32 → Int32 → AI → Option (Int32 × AI)
  | 0, _, _, _, _, _, _ => none
  | F + 1, a0, i2, i3, i4, i5, I =>
    if i2 ≤ i5 then
      f8_b153 kad N Z rc a0 I
    else
      if (100 : Int32) ≤ i5 then
        f8_b153 kad N Z rc a0 I
      else
        (ixA 100 i5).bind fun j26_1 =>
        if (I a0 12) = 0 then
          (f10 kad N Z a0 (a0 + (12 + j26_1)) i5 i3 I).bind fun r54_2 =>
          f8_b57 kad N Z rc (fun p0 p1 p2 p3 p4 I => f8_b7 kad N Z rc F p0 p1 p2 p3 p4 I) a0 i2 i3 i4 i5 (a0 + (12 + j26_1)) r54_2.1 r54_2.2
        else
          (f17 kad N Z a0 (a0 + (12 + j26_1)) i5 i3 I).bind fun r42_3 =>
          f8_b57 kad N Z rc (fun p0 p1 p2 p3 p4 I => f8_b7 kad N Z rc F p0 p1 p2 p3 p4 I) a0 i2 i3 i4 i5 (a0 + (12 + j26_1)) r42_3.1 r42_3.2
set_option maxRecDepth 20000 in
theorem Tf8_b7 {kad : Nat → Nat} {N : Nat} {Z : AZ} {d : Nat} {t : Option Nat × (Nat × Nat)} (hd : 4 ≤ d) {rc : Nat → Int32 → Int32 → Int32 → Int32 → AI → Option (Int32 × AI)} (hrc : ∀ a (ha : sh0 kad Z a) i j k m I r, rc a i j k m I = some r → aEv kad (d - 2) 8 [.ref a, .int i, .int j, .int k, .int m] (aMem Z I, t) (qI Z t r)) : ∀ (F : Nat) (a0 : Nat) (ha0 : sh0 kad Z a0) (i2 : Int32) (i3 : Int32) (i4 : Int32) (i5 : Int32) (I : AI) (r : Int32 × AI), f8_b7 kad N Z rc F a0 i2 i3 i4 i5 I = some r → aGo kad d 8 (7, ([(0, .ref a0), (2, .int i2), (3, .int i3), (4, .int i4), (5, .int i5)], [])) (aMem Z I, t) (qI Z t r) := by
  intro F
  induction F with
  | zero => intro a0 ha0 i2 i3 i4 i5 I r h; cases h
  | succ F ih =>
    intro a0 ha0 i2 i3 i4 i5 I r h
    unfold f8_b7 at h
    refine go_ops aMi8 2 _ (f1 := (10, ([(0, .ref a0), (2, .int i2), (3, .int i3), (4, .int i4), (5, .int i5)], [.int i2, .int i5]))) rfl ?_
    refine gg_br (b := decide (i2 ≤ i5)) (tg := 153) (off := 143) aMi8 rfl rfl rfl rfl (fun hb => ?_) (fun hb => ?_)
    · rw [if_pos (of_decide_eq_true hb)] at h
      refine go_le (lv1 := []) (aLe_of (show (List.map (fun q => q.1) ([] : ALv)).Nodup from (by show ([] : List Nat).Nodup; decide)) aSubL_nil) ?_
      exact Tf8_b153 hd hrc a0 ha0 I _ h
    · rw [if_neg (of_decide_eq_false hb)] at h
      refine go_ops aMi8 2 _ (f1 := (17, ([(0, .ref a0), (2, .int i2), (3, .int i3), (4, .int i4), (5, .int i5)], [.int (100 : Int32), .int i5]))) rfl ?_
      refine gg_br (b := decide ((100 : Int32) ≤ i5)) (tg := 153) (off := 136) aMi8 rfl rfl rfl rfl (fun hb => ?_) (fun hb => ?_)
      · rw [if_pos (of_decide_eq_true hb)] at h
        refine go_le (lv1 := []) (aLe_of (show (List.map (fun q => q.1) ([] : ALv)).Nodup from (by show ([] : List Nat).Nodup; decide)) aSubL_nil) ?_
        exact Tf8_b153 hd hrc a0 ha0 I _ h
      · rw [if_neg (of_decide_eq_false hb)] at h
        refine go_ops aMi8 1 _ (f1 := (21, ([(0, .ref a0), (2, .int i2), (3, .int i3), (4, .int i4), (5, .int i5)], [.ref a0]))) rfl ?_
        refine gg_gR (b := (a0 + 2)) aMi8 rfl rfl rfl (gR_of (sh0_z ha0) (sh0_r2 ha0)) ?_
        refine go_ops aMi8 1 _ (f1 := (26, ([(0, .ref a0), (2, .int i2), (3, .int i3), (4, .int i4), (5, .int i5)], [.int i5, .ref (a0 + 2)]))) rfl ?_
        obtain ⟨j26_1, hxj26_1, h⟩ := Option.bind_eq_some_iff.mp h
        refine gg_lR (b := (a0 + (12 + j26_1))) aMi8 rfl (lR_of (sh0_a2 ha0) (by decide) hxj26_1 (sh0_e2 ha0 j26_1 (ixA_lt hxj26_1))) ?_
        refine go_ops aMi8 2 _ (f1 := (30, ([(6, .ref (a0 + (12 + j26_1))), (0, .ref a0), (2, .int i2), (3, .int i3), (4, .int i4), (5, .int i5)], [.ref a0]))) rfl ?_
        refine gg_gI aMi8 rfl rfl rfl (gI_of (sh0_z ha0)) ?_
        refine gg_br (b := decide ((I a0 12) = 0)) (tg := 48) (off := 15) aMi8 rfl rfl rfl rfl (fun hb => ?_) (fun hb => ?_)
        · rw [if_pos (of_decide_eq_true hb)] at h
          refine go_ops aMi8 4 _ (f1 := (54, ([(6, .ref (a0 + (12 + j26_1))), (0, .ref a0), (2, .int i2), (3, .int i3), (4, .int i4), (5, .int i5)], [.int i3, .int i5, .ref (a0 + (12 + j26_1)), .ref a0]))) rfl ?_
          obtain ⟨r54_2, hxr54_2, h⟩ := Option.bind_eq_some_iff.mp h
          refine gg_cv (as := [.ref (a0 + (12 + j26_1)), .int i5, .int i3]) (r := []) aMi8 rfl rfl rfl aMi10 (Nat.le_of_ble_eq_true rfl) rfl (Nat.le_of_ble_eq_true rfl) (Nat.le_of_ble_eq_true rfl) (by omega) (isK_of (sh0_z ha0)) (Tf10 (by omega) a0 ha0 (a0 + (12 + j26_1)) (sh0_f2 ha0 j26_1 (ixA_lt hxj26_1)) i5 i3 I _ hxr54_2) ?_
          show aGo kad d 8 (57, ([(6, .ref (a0 + (12 + j26_1))), (0, .ref a0), (2, .int i2), (3, .int i3), (4, .int i4), (5, .int i5)], [.int r54_2.1])) (aMem Z r54_2.2, t) _
          refine go_le (lv1 := [(0, .ref a0), (2, .int i2), (3, .int i3), (4, .int i4), (5, .int i5), (6, .ref (a0 + (12 + j26_1)))]) (aLe_of (show (List.map (fun q => q.1) ([(0, .ref a0), (2, .int i2), (3, .int i3), (4, .int i4), (5, .int i5), (6, .ref (a0 + (12 + j26_1)))] : ALv)).Nodup from (by show ([0, 2, 3, 4, 5, 6] : List Nat).Nodup; decide)) (aSubL_cons rfl (aSubL_cons rfl (aSubL_cons rfl (aSubL_cons rfl (aSubL_cons rfl (aSubL_cons rfl aSubL_nil))))))) ?_
          exact Tf8_b57 hd hrc (fun p0 p1 p2 p3 p4 I => f8_b7 kad N Z rc F p0 p1 p2 p3 p4 I) (fun p0 q0 p1 p2 p3 p4 I r hh => ih p0 q0 p1 p2 p3 p4 I r hh) a0 ha0 i2 i3 i4 i5 (a0 + (12 + j26_1)) (sh0_f2 ha0 j26_1 (ixA_lt hxj26_1)) r54_2.1 r54_2.2 _ h
        · rw [if_neg (of_decide_eq_false hb)] at h
          refine go_ops aMi8 4 _ (f1 := (42, ([(6, .ref (a0 + (12 + j26_1))), (0, .ref a0), (2, .int i2), (3, .int i3), (4, .int i4), (5, .int i5)], [.int i3, .int i5, .ref (a0 + (12 + j26_1)), .ref a0]))) rfl ?_
          obtain ⟨r42_3, hxr42_3, h⟩ := Option.bind_eq_some_iff.mp h
          refine gg_cv (as := [.ref (a0 + (12 + j26_1)), .int i5, .int i3]) (r := []) aMi8 rfl rfl rfl aMi17 (Nat.le_of_ble_eq_true rfl) rfl (Nat.le_of_ble_eq_true rfl) (Nat.le_of_ble_eq_true rfl) (by omega) (isK_of (sh0_z ha0)) (Tf17 (by omega) a0 ha0 (a0 + (12 + j26_1)) (sh0_f2 ha0 j26_1 (ixA_lt hxj26_1)) i5 i3 I _ hxr42_3) ?_
          show aGo kad d 8 (45, ([(6, .ref (a0 + (12 + j26_1))), (0, .ref a0), (2, .int i2), (3, .int i3), (4, .int i4), (5, .int i5)], [.int r42_3.1])) (aMem Z r42_3.2, t) _
          refine go_ops aMi8 1 _ (f1 := (57, ([(6, .ref (a0 + (12 + j26_1))), (0, .ref a0), (2, .int i2), (3, .int i3), (4, .int i4), (5, .int i5)], [.int r42_3.1]))) rfl ?_
          refine go_le (lv1 := [(0, .ref a0), (2, .int i2), (3, .int i3), (4, .int i4), (5, .int i5), (6, .ref (a0 + (12 + j26_1)))]) (aLe_of (show (List.map (fun q => q.1) ([(0, .ref a0), (2, .int i2), (3, .int i3), (4, .int i4), (5, .int i5), (6, .ref (a0 + (12 + j26_1)))] : ALv)).Nodup from (by show ([0, 2, 3, 4, 5, 6] : List Nat).Nodup; decide)) (aSubL_cons rfl (aSubL_cons rfl (aSubL_cons rfl (aSubL_cons rfl (aSubL_cons rfl (aSubL_cons rfl aSubL_nil))))))) ?_
          exact Tf8_b57 hd hrc (fun p0 p1 p2 p3 p4 I => f8_b7 kad N Z rc F p0 p1 p2 p3 p4 I) (fun p0 q0 p1 p2 p3 p4 I r hh => ih p0 q0 p1 p2 p3 p4 I r hh) a0 ha0 i2 i3 i4 i5 (a0 + (12 + j26_1)) (sh0_f2 ha0 j26_1 (ixA_lt hxj26_1)) r42_3.1 r42_3.2 _ h
def f8_e (kad : Nat → Nat) (N : Nat) (Z : AZ) (rc : Nat → Int32 → Int32 → Int32 → Int32 → AI → Option (Int32 × AI)) (a0 : Nat) (i1 : Int32) (i2 : Int32) (i3 : Int32) (i4 : Int32) (I : AI) : Option (Int32 × AI) :=
  f8_b7 kad N Z rc N a0 i2 i3 i4 (if i1 < (0 : Int32) then (0 : Int32) else i1) I
set_option maxRecDepth 20000 in
theorem Tf8_e {kad : Nat → Nat} {N : Nat} {Z : AZ} {d : Nat} {t : Option Nat × (Nat × Nat)} (hd : 4 ≤ d) {rc : Nat → Int32 → Int32 → Int32 → Int32 → AI → Option (Int32 × AI)} (hrc : ∀ a (ha : sh0 kad Z a) i j k m I r, rc a i j k m I = some r → aEv kad (d - 2) 8 [.ref a, .int i, .int j, .int k, .int m] (aMem Z I, t) (qI Z t r)) : ∀ (a0 : Nat) (ha0 : sh0 kad Z a0) (i1 : Int32) (i2 : Int32) (i3 : Int32) (i4 : Int32) (I : AI) (r : Int32 × AI), f8_e kad N Z rc a0 i1 i2 i3 i4 I = some r → aGo kad d 8 (0, ([(0, .ref a0), (1, .int i1), (2, .int i2), (3, .int i3), (4, .int i4)], [])) (aMem Z I, t) (qI Z t r) := by
  intro a0 ha0 i1 i2 i3 i4 I r h
  unfold f8_e at h
  refine go_ops aMi8 2 _ (f1 := (2, ([(0, .ref a0), (1, .int i1), (2, .int i2), (3, .int i3), (4, .int i4)], [.int (0 : Int32), .int i1]))) rfl ?_
  refine gg_mx aMi8 rfl rfl (Nat.le_of_ble_eq_true rfl) ?_
  refine go_ops aMi8 1 _ (f1 := (7, ([(5, .int (if i1 < (0 : Int32) then (0 : Int32) else i1)), (0, .ref a0), (1, .int i1), (2, .int i2), (3, .int i3), (4, .int i4)], []))) rfl ?_
  refine go_le (lv1 := [(0, .ref a0), (2, .int i2), (3, .int i3), (4, .int i4), (5, .int (if i1 < (0 : Int32) then (0 : Int32) else i1))]) (aLe_of (show (List.map (fun q => q.1) ([(0, .ref a0), (2, .int i2), (3, .int i3), (4, .int i4), (5, .int (if i1 < (0 : Int32) then (0 : Int32) else i1))] : ALv)).Nodup from (by show ([0, 2, 3, 4, 5] : List Nat).Nodup; decide)) (aSubL_cons rfl (aSubL_cons rfl (aSubL_cons rfl (aSubL_cons rfl (aSubL_cons rfl aSubL_nil)))))) ?_
  exact Tf8_b7 hd hrc N a0 ha0 i2 i3 i4 (if i1 < (0 : Int32) then (0 : Int32) else i1) I _ h
def f8_r (kad : Nat → Nat) (N : Nat) (Z : AZ) : Nat → Nat → Int32 → Int32 → Int32 → Int32 → AI → Option (Int32 × AI)
  | 0, _, _, _, _, _, _ => none
  | k + 1, a, i, j, m, q, I => f8_e kad N Z (f8_r kad N Z k) a i j m q I
set_option maxRecDepth 20000 in
theorem Tf8_r {kad : Nat → Nat} {N : Nat} {Z : AZ} {t : Option Nat × (Nat × Nat)} : ∀ (F d : Nat) (_ : 4 + 2 * F ≤ d) (a : Nat) (ha : sh0 kad Z a) (i j m q : Int32) (I : AI) (r : Int32 × AI), f8_r kad N Z F a i j m q I = some r → aEv kad d 8 [.ref a, .int i, .int j, .int m, .int q] (aMem Z I, t) (qI Z t r) := by
  intro F
  induction F with
  | zero => intro d hd a ha i j m q I r h; cases h
  | succ F ih =>
    intro d hd a ha i j m q I r h
    exact Tf8_e (by omega) (fun a ha i j m q I r h => ih (d - 2) (by omega) a ha i j m q I r h) a ha i j m q I r h
def f8 (kad : Nat → Nat) (N : Nat) (Z : AZ) (a : Nat) (i j m q : Int32) (I : AI) : Option (Int32 × AI) := f8_r kad N Z 7 a i j m q I
theorem Tf8 {kad : Nat → Nat} {N : Nat} {Z : AZ} {d : Nat} {t : Option Nat × (Nat × Nat)} (hd : 18 ≤ d) (a : Nat) (ha : sh0 kad Z a) (i j m q : Int32) (I : AI) (r : Int32 × AI) (h : f8 kad N Z a i j m q I = some r) : aEv kad d 8 [.ref a, .int i, .int j, .int m, .int q] (aMem Z I, t) (qI Z t r) := Tf8_r 7 d (by omega) a ha i j m q I r h
-- KernelGym$Assembler.findError ()I
def f5 (kad : Nat → Nat) (N : Nat) (Z : AZ) (a0 : Nat) (I : AI) : Option (Int32 × AI) :=
  (f306 kad N Z (a0 + 3) (Int32.ofInt (-1)) I).bind fun r5_1 =>
  (f306 kad N Z (a0 + 7) (Int32.ofInt (-1)) r5_1.2).bind fun r13_2 =>
  (f6 kad N Z a0 (0 : Int32) r13_2.2).bind fun r18_3 =>
  (f8 kad N Z a0 (0 : Int32) ((r18_3.2) a0 0) (0 : Int32) (0 : Int32) r18_3.2).bind fun r29_4 =>
  if r29_4.1 = 0 then
    (ixA 2 (0 : Int32)).bind fun j46_6 =>
    (wI r29_4.2 (a0 + 11) j46_6 (8 : Int32)).bind fun I46_5 =>
    (ixA 2 (0 : Int32)).bind fun j59_7 =>
    (ixA 2 (1 : Int32)).bind fun j61_9 =>
    (wI I46_5 (a0 + 11) j61_9 ((8 : Int32) + (I46_5 (a0 + 10) j59_7))).bind fun I61_8 =>
    (f6 kad N Z a0 (1 : Int32) I61_8).bind fun r64_10 =>
    (f8 kad N Z a0 (0 : Int32) ((r64_10.2) a0 0) (0 : Int32) (0 : Int32) r64_10.2).bind fun r75_11 =>
    some (r75_11.1, r75_11.2)
  else
    some (r29_4.1, r29_4.2)
set_option maxRecDepth 20000 in
theorem Tf5 {kad : Nat → Nat} {N : Nat} {Z : AZ} {d : Nat} {t : Option Nat × (Nat × Nat)} (hd : 19 ≤ d) : ∀ (a0 : Nat) (ha0 : sh0 kad Z a0) (I : AI) (r : Int32 × AI), f5 kad N Z a0 I = some r → aGo kad d 5 (0, ([(0, .ref a0)], [])) (aMem Z I, t) (qI Z t r) := by
  intro a0 ha0 I r h
  unfold f5 at h
  refine go_ops aMi5 1 _ (f1 := (1, ([(0, .ref a0)], [.ref a0]))) rfl ?_
  refine gg_gR (b := (a0 + 3)) aMi5 rfl rfl rfl (gR_of (sh0_z ha0) (sh0_r3 ha0)) ?_
  refine go_ops aMi5 1 _ (f1 := (5, ([(0, .ref a0)], [.int (Int32.ofInt (-1)), .ref (a0 + 3)]))) rfl ?_
  obtain ⟨r5_1, hxr5_1, h⟩ := Option.bind_eq_some_iff.mp h
  refine gg_cs (as := [.ref (a0 + 3), .int (Int32.ofInt (-1))]) (r := []) aMi5 rfl rfl rfl aMi306 rfl (Nat.le_of_ble_eq_true rfl) (Nat.le_of_ble_eq_true rfl) (by omega) (Tf306 (by omega) (a0 + 3) (Int32.ofInt (-1)) I _ hxr5_1) ?_
  show aGo kad d 5 (8, ([(0, .ref a0)], [])) (aMem Z r5_1.2, t) _
  refine go_ops aMi5 1 _ (f1 := (9, ([(0, .ref a0)], [.ref a0]))) rfl ?_
  refine gg_gR (b := (a0 + 7)) aMi5 rfl rfl rfl (gR_of (sh0_z ha0) (sh0_r7 ha0)) ?_
  refine go_ops aMi5 1 _ (f1 := (13, ([(0, .ref a0)], [.int (Int32.ofInt (-1)), .ref (a0 + 7)]))) rfl ?_
  obtain ⟨r13_2, hxr13_2, h⟩ := Option.bind_eq_some_iff.mp h
  refine gg_cs (as := [.ref (a0 + 7), .int (Int32.ofInt (-1))]) (r := []) aMi5 rfl rfl rfl aMi306 rfl (Nat.le_of_ble_eq_true rfl) (Nat.le_of_ble_eq_true rfl) (by omega) (Tf306 (by omega) (a0 + 7) (Int32.ofInt (-1)) r5_1.2 _ hxr13_2) ?_
  show aGo kad d 5 (16, ([(0, .ref a0)], [])) (aMem Z r13_2.2, t) _
  refine go_ops aMi5 2 _ (f1 := (18, ([(0, .ref a0)], [.int (0 : Int32), .ref a0]))) rfl ?_
  obtain ⟨r18_3, hxr18_3, h⟩ := Option.bind_eq_some_iff.mp h
  refine gg_cv (as := [.int (0 : Int32)]) (r := []) aMi5 rfl rfl rfl aMi6 (Nat.le_of_ble_eq_true rfl) rfl (Nat.le_of_ble_eq_true rfl) (Nat.le_of_ble_eq_true rfl) (by omega) (isK_of (sh0_z ha0)) (Tf6 (by omega) a0 ha0 (0 : Int32) r13_2.2 _ hxr18_3) ?_
  show aGo kad d 5 (21, ([(0, .ref a0)], [])) (aMem Z r18_3.2, t) _
  refine go_ops aMi5 3 _ (f1 := (24, ([(0, .ref a0)], [.ref a0, .int (0 : Int32), .ref a0]))) rfl ?_
  refine gg_gI aMi5 rfl rfl rfl (gI_of (sh0_z ha0)) ?_
  refine go_ops aMi5 2 _ (f1 := (29, ([(0, .ref a0)], [.int (0 : Int32), .int (0 : Int32), .int ((r18_3.2) a0 0), .int (0 : Int32), .ref a0]))) rfl ?_
  obtain ⟨r29_4, hxr29_4, h⟩ := Option.bind_eq_some_iff.mp h
  refine gg_cv (as := [.int (0 : Int32), .int ((r18_3.2) a0 0), .int (0 : Int32), .int (0 : Int32)]) (r := []) aMi5 rfl rfl rfl aMi8 (Nat.le_of_ble_eq_true rfl) rfl (Nat.le_of_ble_eq_true rfl) (Nat.le_of_ble_eq_true rfl) (by omega) (isK_of (sh0_z ha0)) (Tf8 (by omega) a0 ha0 (0 : Int32) ((r18_3.2) a0 0) (0 : Int32) (0 : Int32) r18_3.2 _ hxr29_4) ?_
  show aGo kad d 5 (32, ([(0, .ref a0)], [.int r29_4.1])) (aMem Z r29_4.2, t) _
  refine go_ops aMi5 2 _ (f1 := (34, ([(1, .int r29_4.1), (0, .ref a0)], [.int r29_4.1]))) rfl ?_
  refine gg_br (b := decide (r29_4.1 = 0)) (tg := 39) (off := 5) aMi5 rfl rfl rfl rfl (fun hb => ?_) (fun hb => ?_)
  · rw [if_pos (of_decide_eq_true hb)] at h
    refine go_ops aMi5 1 _ (f1 := (40, ([(1, .int r29_4.1), (0, .ref a0)], [.ref a0]))) rfl ?_
    refine gg_gR (b := (a0 + 11)) aMi5 rfl rfl rfl (gR_of (sh0_z ha0) (sh0_r11 ha0)) ?_
    refine go_ops aMi5 2 _ (f1 := (46, ([(1, .int r29_4.1), (0, .ref a0)], [.int (8 : Int32), .int (0 : Int32), .ref (a0 + 11)]))) rfl ?_
    obtain ⟨j46_6, hxj46_6, h⟩ := Option.bind_eq_some_iff.mp h
    obtain ⟨I46_5, hxI46_5, h⟩ := Option.bind_eq_some_iff.mp h
    refine gg_sI (Or.inl ⟨rfl, rfl⟩) aMi5 rfl (sI_of (sh0_a11 ha0) hxj46_6 hxI46_5) ?_
    refine go_ops aMi5 1 _ (f1 := (48, ([(1, .int r29_4.1), (0, .ref a0)], [.ref a0]))) rfl ?_
    refine gg_gR (b := (a0 + 11)) aMi5 rfl rfl rfl (gR_of (sh0_z ha0) (sh0_r11 ha0)) ?_
    refine go_ops aMi5 3 _ (f1 := (55, ([(1, .int r29_4.1), (0, .ref a0)], [.ref a0, .int (8 : Int32), .int (1 : Int32), .ref (a0 + 11)]))) rfl ?_
    refine gg_gR (b := (a0 + 10)) aMi5 rfl rfl rfl (gR_of (sh0_z ha0) (sh0_r10 ha0)) ?_
    refine go_ops aMi5 1 _ (f1 := (59, ([(1, .int r29_4.1), (0, .ref a0)], [.int (0 : Int32), .ref (a0 + 10), .int (8 : Int32), .int (1 : Int32), .ref (a0 + 11)]))) rfl ?_
    obtain ⟨j59_7, hxj59_7, h⟩ := Option.bind_eq_some_iff.mp h
    refine gg_lI (Or.inl ⟨rfl, rfl⟩) aMi5 rfl (lI_of (sh0_a10 ha0) hxj59_7) ?_
    refine go_ops aMi5 1 _ (f1 := (61, ([(1, .int r29_4.1), (0, .ref a0)], [.int ((8 : Int32) + (I46_5 (a0 + 10) j59_7)), .int (1 : Int32), .ref (a0 + 11)]))) rfl ?_
    obtain ⟨j61_9, hxj61_9, h⟩ := Option.bind_eq_some_iff.mp h
    obtain ⟨I61_8, hxI61_8, h⟩ := Option.bind_eq_some_iff.mp h
    refine gg_sI (Or.inl ⟨rfl, rfl⟩) aMi5 rfl (sI_of (sh0_a11 ha0) hxj61_9 hxI61_8) ?_
    refine go_ops aMi5 2 _ (f1 := (64, ([(1, .int r29_4.1), (0, .ref a0)], [.int (1 : Int32), .ref a0]))) rfl ?_
    obtain ⟨r64_10, hxr64_10, h⟩ := Option.bind_eq_some_iff.mp h
    refine gg_cv (as := [.int (1 : Int32)]) (r := []) aMi5 rfl rfl rfl aMi6 (Nat.le_of_ble_eq_true rfl) rfl (Nat.le_of_ble_eq_true rfl) (Nat.le_of_ble_eq_true rfl) (by omega) (isK_of (sh0_z ha0)) (Tf6 (by omega) a0 ha0 (1 : Int32) I61_8 _ hxr64_10) ?_
    show aGo kad d 5 (67, ([(1, .int r29_4.1), (0, .ref a0)], [])) (aMem Z r64_10.2, t) _
    refine go_ops aMi5 3 _ (f1 := (70, ([(1, .int r29_4.1), (0, .ref a0)], [.ref a0, .int (0 : Int32), .ref a0]))) rfl ?_
    refine gg_gI aMi5 rfl rfl rfl (gI_of (sh0_z ha0)) ?_
    refine go_ops aMi5 2 _ (f1 := (75, ([(1, .int r29_4.1), (0, .ref a0)], [.int (0 : Int32), .int (0 : Int32), .int ((r64_10.2) a0 0), .int (0 : Int32), .ref a0]))) rfl ?_
    obtain ⟨r75_11, hxr75_11, h⟩ := Option.bind_eq_some_iff.mp h
    refine gg_cv (as := [.int (0 : Int32), .int ((r64_10.2) a0 0), .int (0 : Int32), .int (0 : Int32)]) (r := []) aMi5 rfl rfl rfl aMi8 (Nat.le_of_ble_eq_true rfl) rfl (Nat.le_of_ble_eq_true rfl) (Nat.le_of_ble_eq_true rfl) (by omega) (isK_of (sh0_z ha0)) (Tf8 (by omega) a0 ha0 (0 : Int32) ((r64_10.2) a0 0) (0 : Int32) (0 : Int32) r64_10.2 _ hxr75_11) ?_
    show aGo kad d 5 (78, ([(1, .int r29_4.1), (0, .ref a0)], [.int r75_11.1])) (aMem Z r75_11.2, t) _
    cases h
    exact go_ret aMi5 rfl aRetI ⟨rfl, rfl⟩
  · rw [if_neg (of_decide_eq_false hb)] at h
    refine go_ops aMi5 1 _ (f1 := (38, ([(1, .int r29_4.1), (0, .ref a0)], [.int r29_4.1]))) rfl ?_
    cases h
    exact go_ret aMi5 rfl aRetI ⟨rfl, rfl⟩
-- KernelGym$Disk.blockOfEntry (I)I
def f48 (kad : Nat → Nat) (N : Nat) (Z : AZ) (i0 : Int32) (I : AI) : Option (Int32 × AI) :=
  some (((5 : Int32) + (i0 / (2 : Int32))), I)
set_option maxRecDepth 20000 in
theorem Tf48 {kad : Nat → Nat} {N : Nat} {Z : AZ} {d : Nat} {t : Option Nat × (Nat × Nat)} (hd : 0 ≤ d) : ∀ (i0 : Int32) (I : AI) (r : Int32 × AI), f48 kad N Z i0 I = some r → aGo kad d 48 (0, ([(0, .int i0)], [])) (aMem Z I, t) (qI Z t r) := by
  intro i0 I r h
  unfold f48 at h
  refine go_ops aMi48 5 _ (f1 := (5, ([(0, .int i0)], [.int ((5 : Int32) + (i0 / (2 : Int32)))]))) rfl ?_
  cases h
  exact go_ret aMi48 rfl aRetI ⟨rfl, rfl⟩
-- KernelGym$Disk.placeOfEntry (I)I
def f49 (kad : Nat → Nat) (N : Nat) (Z : AZ) (i0 : Int32) (I : AI) : Option (Int32 × AI) :=
  some (((i0 - i0 / (2 : Int32) * (2 : Int32)) * (4 : Int32)), I)
set_option maxRecDepth 20000 in
theorem Tf49 {kad : Nat → Nat} {N : Nat} {Z : AZ} {d : Nat} {t : Option Nat × (Nat × Nat)} (hd : 0 ≤ d) : ∀ (i0 : Int32) (I : AI) (r : Int32 × AI), f49 kad N Z i0 I = some r → aGo kad d 49 (0, ([(0, .int i0)], [])) (aMem Z I, t) (qI Z t r) := by
  intro i0 I r h
  unfold f49 at h
  refine go_ops aMi49 5 _ (f1 := (5, ([(0, .int i0)], [.int ((i0 - i0 / (2 : Int32) * (2 : Int32)) * (4 : Int32))]))) rfl ?_
  cases h
  exact go_ret aMi49 rfl aRetI ⟨rfl, rfl⟩
-- KernelGym$Disk.wordAt (II)I
def f43_b45 (kad : Nat → Nat) (N : Nat) (Z : AZ) (a0 : Nat) (s0 : Int32) (I : AI) : Option (Int32 × AI) :=
  some (s0, I)
set_option maxRecDepth 20000 in
theorem Tf43_b45 {kad : Nat → Nat} {N : Nat} {Z : AZ} {d : Nat} {t : Option Nat × (Nat × Nat)} (hd : 0 ≤ d) : ∀ (a0 : Nat) (ha0 : sh3 kad Z a0) (s0 : Int32) (I : AI) (r : Int32 × AI), f43_b45 kad N Z a0 s0 I = some r → aGo kad d 43 (45, ([], [.int s0])) (aMem Z I, t) (qI Z t r) := by
  intro a0 ha0 s0 I r h
  unfold f43_b45 at h
  cases h
  exact go_ret aMi43 rfl aRetI ⟨rfl, rfl⟩
def f43_b25 (kad : Nat → Nat) (N : Nat) (Z : AZ) (a0 : Nat) (i1 : Int32) (i2 : Int32) (s0 : Int32) (I : AI) : Option (Int32 × AI) :=
  if s0 = 0 then
    f43_b45 kad N Z a0 (0 : Int32) I
  else
    (ixA 256 ((i1 * (8 : Int32)) + i2)).bind fun j40_1 =>
    f43_b45 kad N Z a0 (I (a0 + 1) j40_1) I
set_option maxRecDepth 20000 in
theorem Tf43_b25 {kad : Nat → Nat} {N : Nat} {Z : AZ} {d : Nat} {t : Option Nat × (Nat × Nat)} (hd : 0 ≤ d) : ∀ (a0 : Nat) (ha0 : sh3 kad Z a0) (i1 : Int32) (i2 : Int32) (s0 : Int32) (I : AI) (r : Int32 × AI), f43_b25 kad N Z a0 i1 i2 s0 I = some r → aGo kad d 43 (25, ([(0, .ref a0), (1, .int i1), (2, .int i2)], [.int s0])) (aMem Z I, t) (qI Z t r) := by
  intro a0 ha0 i1 i2 s0 I r h
  unfold f43_b25 at h
  refine go_ops aMi43 2 _ (f1 := (27, ([(3, .int s0), (0, .ref a0), (1, .int i1), (2, .int i2)], [.int s0]))) rfl ?_
  refine gg_br (b := decide (s0 = 0)) (tg := 44) (off := 17) aMi43 rfl rfl rfl rfl (fun hb => ?_) (fun hb => ?_)
  · rw [if_pos (of_decide_eq_true hb)] at h
    refine go_ops aMi43 1 _ (f1 := (45, ([(3, .int s0), (0, .ref a0), (1, .int i1), (2, .int i2)], [.int (0 : Int32)]))) rfl ?_
    refine go_le (lv1 := []) (aLe_of (show (List.map (fun q => q.1) ([] : ALv)).Nodup from (by show ([] : List Nat).Nodup; decide)) aSubL_nil) ?_
    exact Tf43_b45 hd a0 ha0 (0 : Int32) I _ h
  · rw [if_neg (of_decide_eq_false hb)] at h
    refine go_ops aMi43 1 _ (f1 := (31, ([(3, .int s0), (0, .ref a0), (1, .int i1), (2, .int i2)], [.ref a0]))) rfl ?_
    refine gg_gR (b := (a0 + 1)) aMi43 rfl rfl rfl (gR_of (sh3_z ha0) (sh3_r0 ha0)) ?_
    refine go_ops aMi43 5 _ (f1 := (40, ([(3, .int s0), (0, .ref a0), (1, .int i1), (2, .int i2)], [.int ((i1 * (8 : Int32)) + i2), .ref (a0 + 1)]))) rfl ?_
    obtain ⟨j40_1, hxj40_1, h⟩ := Option.bind_eq_some_iff.mp h
    refine gg_lI (Or.inl ⟨rfl, rfl⟩) aMi43 rfl (lI_of (sh3_a0 ha0) hxj40_1) ?_
    refine go_ops aMi43 1 _ (f1 := (45, ([(3, .int s0), (0, .ref a0), (1, .int i1), (2, .int i2)], [.int (I (a0 + 1) j40_1)]))) rfl ?_
    refine go_le (lv1 := []) (aLe_of (show (List.map (fun q => q.1) ([] : ALv)).Nodup from (by show ([] : List Nat).Nodup; decide)) aSubL_nil) ?_
    exact Tf43_b45 hd a0 ha0 (I (a0 + 1) j40_1) I _ h
def f43_b24 (kad : Nat → Nat) (N : Nat) (Z : AZ) (a0 : Nat) (i1 : Int32) (i2 : Int32) (I : AI) : Option (Int32 × AI) :=
  f43_b25 kad N Z a0 i1 i2 (0 : Int32) I
set_option maxRecDepth 20000 in
theorem Tf43_b24 {kad : Nat → Nat} {N : Nat} {Z : AZ} {d : Nat} {t : Option Nat × (Nat × Nat)} (hd : 0 ≤ d) : ∀ (a0 : Nat) (ha0 : sh3 kad Z a0) (i1 : Int32) (i2 : Int32) (I : AI) (r : Int32 × AI), f43_b24 kad N Z a0 i1 i2 I = some r → aGo kad d 43 (24, ([(0, .ref a0), (1, .int i1), (2, .int i2)], [])) (aMem Z I, t) (qI Z t r) := by
  intro a0 ha0 i1 i2 I r h
  unfold f43_b24 at h
  refine go_ops aMi43 1 _ (f1 := (25, ([(0, .ref a0), (1, .int i1), (2, .int i2)], [.int (0 : Int32)]))) rfl ?_
  exact Tf43_b25 hd a0 ha0 i1 i2 (0 : Int32) I _ h
def f43 (kad : Nat → Nat) (N : Nat) (Z : AZ) (a0 : Nat) (i1 : Int32) (i2 : Int32) (I : AI) : Option (Int32 × AI) :=
  if i1 < 0 then
    f43_b24 kad N Z a0 i1 i2 I
  else
    if (32 : Int32) ≤ i1 then
      f43_b24 kad N Z a0 i1 i2 I
    else
      if i2 < 0 then
        f43_b24 kad N Z a0 i1 i2 I
      else
        if (8 : Int32) ≤ i2 then
          f43_b24 kad N Z a0 i1 i2 I
        else
          f43_b25 kad N Z a0 i1 i2 (1 : Int32) I
set_option maxRecDepth 20000 in
theorem Tf43 {kad : Nat → Nat} {N : Nat} {Z : AZ} {d : Nat} {t : Option Nat × (Nat × Nat)} (hd : 0 ≤ d) : ∀ (a0 : Nat) (ha0 : sh3 kad Z a0) (i1 : Int32) (i2 : Int32) (I : AI) (r : Int32 × AI), f43 kad N Z a0 i1 i2 I = some r → aGo kad d 43 (0, ([(0, .ref a0), (1, .int i1), (2, .int i2)], [])) (aMem Z I, t) (qI Z t r) := by
  intro a0 ha0 i1 i2 I r h
  unfold f43 at h
  refine go_ops aMi43 1 _ (f1 := (1, ([(0, .ref a0), (1, .int i1), (2, .int i2)], [.int i1]))) rfl ?_
  refine gg_br (b := decide (i1 < 0)) (tg := 24) (off := 23) aMi43 rfl rfl rfl rfl (fun hb => ?_) (fun hb => ?_)
  · rw [if_pos (of_decide_eq_true hb)] at h
    exact Tf43_b24 hd a0 ha0 i1 i2 I _ h
  · rw [if_neg (of_decide_eq_false hb)] at h
    refine go_ops aMi43 2 _ (f1 := (7, ([(0, .ref a0), (1, .int i1), (2, .int i2)], [.int (32 : Int32), .int i1]))) rfl ?_
    refine gg_br (b := decide ((32 : Int32) ≤ i1)) (tg := 24) (off := 17) aMi43 rfl rfl rfl rfl (fun hb => ?_) (fun hb => ?_)
    · rw [if_pos (of_decide_eq_true hb)] at h
      exact Tf43_b24 hd a0 ha0 i1 i2 I _ h
    · rw [if_neg (of_decide_eq_false hb)] at h
      refine go_ops aMi43 1 _ (f1 := (11, ([(0, .ref a0), (1, .int i1), (2, .int i2)], [.int i2]))) rfl ?_
      refine gg_br (b := decide (i2 < 0)) (tg := 24) (off := 13) aMi43 rfl rfl rfl rfl (fun hb => ?_) (fun hb => ?_)
      · rw [if_pos (of_decide_eq_true hb)] at h
        exact Tf43_b24 hd a0 ha0 i1 i2 I _ h
      · rw [if_neg (of_decide_eq_false hb)] at h
        refine go_ops aMi43 2 _ (f1 := (17, ([(0, .ref a0), (1, .int i1), (2, .int i2)], [.int (8 : Int32), .int i2]))) rfl ?_
        refine gg_br (b := decide ((8 : Int32) ≤ i2)) (tg := 24) (off := 7) aMi43 rfl rfl rfl rfl (fun hb => ?_) (fun hb => ?_)
        · rw [if_pos (of_decide_eq_true hb)] at h
          exact Tf43_b24 hd a0 ha0 i1 i2 I _ h
        · rw [if_neg (of_decide_eq_false hb)] at h
          refine go_ops aMi43 2 _ (f1 := (25, ([(0, .ref a0), (1, .int i1), (2, .int i2)], [.int (1 : Int32)]))) rfl ?_
          exact Tf43_b25 hd a0 ha0 i1 i2 (1 : Int32) I _ h
-- KernelGym$Disk.entryWord (II)I
def f50 (kad : Nat → Nat) (N : Nat) (Z : AZ) (a0 : Nat) (i1 : Int32) (i2 : Int32) (I : AI) : Option (Int32 × AI) :=
  (f48 kad N Z i1 I).bind fun r2_1 =>
  (f49 kad N Z i1 r2_1.2).bind fun r6_2 =>
  (f43 kad N Z a0 r2_1.1 (r6_2.1 + i2) r6_2.2).bind fun r11_3 =>
  some (r11_3.1, r11_3.2)
set_option maxRecDepth 20000 in
theorem Tf50 {kad : Nat → Nat} {N : Nat} {Z : AZ} {d : Nat} {t : Option Nat × (Nat × Nat)} (hd : 1 ≤ d) : ∀ (a0 : Nat) (ha0 : sh3 kad Z a0) (i1 : Int32) (i2 : Int32) (I : AI) (r : Int32 × AI), f50 kad N Z a0 i1 i2 I = some r → aGo kad d 50 (0, ([(0, .ref a0), (1, .int i1), (2, .int i2)], [])) (aMem Z I, t) (qI Z t r) := by
  intro a0 ha0 i1 i2 I r h
  unfold f50 at h
  refine go_ops aMi50 2 _ (f1 := (2, ([(0, .ref a0), (1, .int i1), (2, .int i2)], [.int i1, .ref a0]))) rfl ?_
  obtain ⟨r2_1, hxr2_1, h⟩ := Option.bind_eq_some_iff.mp h
  refine gg_cs (as := [.int i1]) (r := [.ref a0]) aMi50 rfl rfl rfl aMi48 rfl (Nat.le_of_ble_eq_true rfl) (Nat.le_of_ble_eq_true rfl) (by omega) (Tf48 (by omega) i1 I _ hxr2_1) ?_
  show aGo kad d 50 (5, ([(0, .ref a0), (1, .int i1), (2, .int i2)], [.int r2_1.1, .ref a0])) (aMem Z r2_1.2, t) _
  refine go_ops aMi50 1 _ (f1 := (6, ([(0, .ref a0), (1, .int i1), (2, .int i2)], [.int i1, .int r2_1.1, .ref a0]))) rfl ?_
  obtain ⟨r6_2, hxr6_2, h⟩ := Option.bind_eq_some_iff.mp h
  refine gg_cs (as := [.int i1]) (r := [.int r2_1.1, .ref a0]) aMi50 rfl rfl rfl aMi49 rfl (Nat.le_of_ble_eq_true rfl) (Nat.le_of_ble_eq_true rfl) (by omega) (Tf49 (by omega) i1 r2_1.2 _ hxr6_2) ?_
  show aGo kad d 50 (9, ([(0, .ref a0), (1, .int i1), (2, .int i2)], [.int r6_2.1, .int r2_1.1, .ref a0])) (aMem Z r6_2.2, t) _
  refine go_ops aMi50 2 _ (f1 := (11, ([(0, .ref a0), (1, .int i1), (2, .int i2)], [.int (r6_2.1 + i2), .int r2_1.1, .ref a0]))) rfl ?_
  obtain ⟨r11_3, hxr11_3, h⟩ := Option.bind_eq_some_iff.mp h
  refine gg_cv (as := [.int r2_1.1, .int (r6_2.1 + i2)]) (r := []) aMi50 rfl rfl rfl aMi43 (Nat.le_of_ble_eq_true rfl) rfl (Nat.le_of_ble_eq_true rfl) (Nat.le_of_ble_eq_true rfl) (by omega) (isK_of (sh3_z ha0)) (Tf43 (by omega) a0 ha0 r2_1.1 (r6_2.1 + i2) r6_2.2 _ hxr11_3) ?_
  show aGo kad d 50 (14, ([(0, .ref a0), (1, .int i1), (2, .int i2)], [.int r11_3.1])) (aMem Z r11_3.2, t) _
  cases h
  exact go_ret aMi50 rfl aRetI ⟨rfl, rfl⟩
-- KernelGym$Disk.entryOf (I)I
def f51_b2 (kad : Nat → Nat) (N : Nat) (Z : AZ) : Nat → Nat → Int32 → Int32 → AI → Option (Int32 × AI)
  | 0, _, _, _, _ => none
  | F + 1, a0, i1, i2, I =>
    if (6 : Int32) ≤ i2 then
      some ((Int32.ofInt (-1)), I)
    else
      (f50 kad N Z a0 i2 (0 : Int32) I).bind fun r11_1 =>
      if ¬ r11_1.1 = i1 then
        f51_b2 kad N Z F a0 i1 (i2 + (1 : Int32)) r11_1.2
      else
        some (i2, r11_1.2)
set_option maxRecDepth 20000 in
theorem Tf51_b2 {kad : Nat → Nat} {N : Nat} {Z : AZ} {d : Nat} {t : Option Nat × (Nat × Nat)} (hd : 2 ≤ d) : ∀ (F : Nat) (a0 : Nat) (ha0 : sh3 kad Z a0) (i1 : Int32) (i2 : Int32) (I : AI) (r : Int32 × AI), f51_b2 kad N Z F a0 i1 i2 I = some r → aGo kad d 51 (2, ([(0, .ref a0), (1, .int i1), (2, .int i2)], [])) (aMem Z I, t) (qI Z t r) := by
  intro F
  induction F with
  | zero => intro a0 ha0 i1 i2 I r h; cases h
  | succ F ih =>
    intro a0 ha0 i1 i2 I r h
    unfold f51_b2 at h
    refine go_ops aMi51 2 _ (f1 := (5, ([(0, .ref a0), (1, .int i1), (2, .int i2)], [.int (6 : Int32), .int i2]))) rfl ?_
    refine gg_br (b := decide ((6 : Int32) ≤ i2)) (tg := 26) (off := 21) aMi51 rfl rfl rfl rfl (fun hb => ?_) (fun hb => ?_)
    · rw [if_pos (of_decide_eq_true hb)] at h
      refine go_ops aMi51 1 _ (f1 := (27, ([(0, .ref a0), (1, .int i1), (2, .int i2)], [.int (Int32.ofInt (-1))]))) rfl ?_
      cases h
      exact go_ret aMi51 rfl aRetI ⟨rfl, rfl⟩
    · rw [if_neg (of_decide_eq_false hb)] at h
      refine go_ops aMi51 3 _ (f1 := (11, ([(0, .ref a0), (1, .int i1), (2, .int i2)], [.int (0 : Int32), .int i2, .ref a0]))) rfl ?_
      obtain ⟨r11_1, hxr11_1, h⟩ := Option.bind_eq_some_iff.mp h
      refine gg_cv (as := [.int i2, .int (0 : Int32)]) (r := []) aMi51 rfl rfl rfl aMi50 (Nat.le_of_ble_eq_true rfl) rfl (Nat.le_of_ble_eq_true rfl) (Nat.le_of_ble_eq_true rfl) (by omega) (isK_of (sh3_z ha0)) (Tf50 (by omega) a0 ha0 i2 (0 : Int32) I _ hxr11_1) ?_
      show aGo kad d 51 (14, ([(0, .ref a0), (1, .int i1), (2, .int i2)], [.int r11_1.1])) (aMem Z r11_1.2, t) _
      refine go_ops aMi51 1 _ (f1 := (15, ([(0, .ref a0), (1, .int i1), (2, .int i2)], [.int i1, .int r11_1.1]))) rfl ?_
      refine gg_br (b := decide (¬ r11_1.1 = i1)) (tg := 20) (off := 5) aMi51 rfl rfl rfl rfl (fun hb => ?_) (fun hb => ?_)
      · rw [if_pos (of_decide_eq_true hb)] at h
        refine go_ops aMi51 2 _ (f1 := (2, ([(2, .int (i2 + (1 : Int32))), (0, .ref a0), (1, .int i1)], []))) rfl ?_
        refine go_le (lv1 := [(0, .ref a0), (1, .int i1), (2, .int (i2 + (1 : Int32)))]) (aLe_of (show (List.map (fun q => q.1) ([(0, .ref a0), (1, .int i1), (2, .int (i2 + (1 : Int32)))] : ALv)).Nodup from (by show ([0, 1, 2] : List Nat).Nodup; decide)) (aSubL_cons rfl (aSubL_cons rfl (aSubL_cons rfl aSubL_nil)))) ?_
        exact ih a0 ha0 i1 (i2 + (1 : Int32)) r11_1.2 _ h
      · rw [if_neg (of_decide_eq_false hb)] at h
        refine go_ops aMi51 1 _ (f1 := (19, ([(0, .ref a0), (1, .int i1), (2, .int i2)], [.int i2]))) rfl ?_
        cases h
        exact go_ret aMi51 rfl aRetI ⟨rfl, rfl⟩
def f51 (kad : Nat → Nat) (N : Nat) (Z : AZ) (a0 : Nat) (i1 : Int32) (I : AI) : Option (Int32 × AI) :=
  f51_b2 kad N Z N a0 i1 (0 : Int32) I
set_option maxRecDepth 20000 in
theorem Tf51 {kad : Nat → Nat} {N : Nat} {Z : AZ} {d : Nat} {t : Option Nat × (Nat × Nat)} (hd : 2 ≤ d) : ∀ (a0 : Nat) (ha0 : sh3 kad Z a0) (i1 : Int32) (I : AI) (r : Int32 × AI), f51 kad N Z a0 i1 I = some r → aGo kad d 51 (0, ([(0, .ref a0), (1, .int i1)], [])) (aMem Z I, t) (qI Z t r) := by
  intro a0 ha0 i1 I r h
  unfold f51 at h
  refine go_ops aMi51 2 _ (f1 := (2, ([(2, .int (0 : Int32)), (0, .ref a0), (1, .int i1)], []))) rfl ?_
  refine go_le (lv1 := [(0, .ref a0), (1, .int i1), (2, .int (0 : Int32))]) (aLe_of (show (List.map (fun q => q.1) ([(0, .ref a0), (1, .int i1), (2, .int (0 : Int32))] : ALv)).Nodup from (by show ([0, 1, 2] : List Nat).Nodup; decide)) (aSubL_cons rfl (aSubL_cons rfl (aSubL_cons rfl aSubL_nil)))) ?_
  exact Tf51_b2 hd N a0 ha0 i1 (0 : Int32) I _ h
-- KernelGym$Clerk.needsBlock (I)Z
def f28_b12 (kad : Nat → Nat) (N : Nat) (Z : AZ) (s0 : Int32) (I : AI) : Option (Int32 × AI) :=
  if s0 = 0 ∨ s0 = 1 then some (s0, I) else none
set_option maxRecDepth 20000 in
theorem Tf28_b12 {kad : Nat → Nat} {N : Nat} {Z : AZ} {d : Nat} {t : Option Nat × (Nat × Nat)} (hd : 0 ≤ d) : ∀ (s0 : Int32) (I : AI) (r : Int32 × AI), f28_b12 kad N Z s0 I = some r → aGo kad d 28 (12, ([], [.int s0])) (aMem Z I, t) (qI Z t r) := by
  intro s0 I r h
  unfold f28_b12 at h
  split at h
  · rename_i hz
    cases h
    exact go_ret aMi28 rfl (aRetZ hz) ⟨rfl, rfl⟩
  · cases h
def f28 (kad : Nat → Nat) (N : Nat) (Z : AZ) (i0 : Int32) (I : AI) : Option (Int32 × AI) :=
  if ¬ (i0 - i0 / (8 : Int32) * (8 : Int32)) = 0 then
    f28_b12 kad N Z (0 : Int32) I
  else
    f28_b12 kad N Z (1 : Int32) I
set_option maxRecDepth 20000 in
theorem Tf28 {kad : Nat → Nat} {N : Nat} {Z : AZ} {d : Nat} {t : Option Nat × (Nat × Nat)} (hd : 0 ≤ d) : ∀ (i0 : Int32) (I : AI) (r : Int32 × AI), f28 kad N Z i0 I = some r → aGo kad d 28 (0, ([(0, .int i0)], [])) (aMem Z I, t) (qI Z t r) := by
  intro i0 I r h
  unfold f28 at h
  refine go_ops aMi28 3 _ (f1 := (4, ([(0, .int i0)], [.int (i0 - i0 / (8 : Int32) * (8 : Int32))]))) rfl ?_
  refine gg_br (b := decide (¬ (i0 - i0 / (8 : Int32) * (8 : Int32)) = 0)) (tg := 11) (off := 7) aMi28 rfl rfl rfl rfl (fun hb => ?_) (fun hb => ?_)
  · rw [if_pos (of_decide_eq_true hb)] at h
    refine go_ops aMi28 1 _ (f1 := (12, ([(0, .int i0)], [.int (0 : Int32)]))) rfl ?_
    refine go_le (lv1 := []) (aLe_of (show (List.map (fun q => q.1) ([] : ALv)).Nodup from (by show ([] : List Nat).Nodup; decide)) aSubL_nil) ?_
    exact Tf28_b12 hd (0 : Int32) I _ h
  · rw [if_neg (of_decide_eq_false hb)] at h
    refine go_ops aMi28 2 _ (f1 := (12, ([(0, .int i0)], [.int (1 : Int32)]))) rfl ?_
    refine go_le (lv1 := []) (aLe_of (show (List.map (fun q => q.1) ([] : ALv)).Nodup from (by show ([] : List Nat).Nodup; decide)) aSubL_nil) ?_
    exact Tf28_b12 hd (1 : Int32) I _ h
-- KernelGym$Disk.usedBlocks ()J
def f55 (kad : Nat → Nat) (N : Nat) (Z : AZ) (a0 : Nat) (I : AI) : Option (Int64 × AI) :=
  (f43 kad N Z a0 (4 : Int32) (0 : Int32) I).bind fun r3_1 =>
  (f43 kad N Z a0 (4 : Int32) (1 : Int32) r3_1.2).bind fun r10_2 =>
  some (((r3_1.1.toInt64) ||| ((r10_2.1.toInt64) <<< ((16 : Int32).toInt64 &&& 63))), r10_2.2)
set_option maxRecDepth 20000 in
theorem Tf55 {kad : Nat → Nat} {N : Nat} {Z : AZ} {d : Nat} {t : Option Nat × (Nat × Nat)} (hd : 1 ≤ d) : ∀ (a0 : Nat) (ha0 : sh3 kad Z a0) (I : AI) (r : Int64 × AI), f55 kad N Z a0 I = some r → aGo kad d 55 (0, ([(0, .ref a0)], [])) (aMem Z I, t) (qJ Z t r) := by
  intro a0 ha0 I r h
  unfold f55 at h
  refine go_ops aMi55 3 _ (f1 := (3, ([(0, .ref a0)], [.int (0 : Int32), .int (4 : Int32), .ref a0]))) rfl ?_
  obtain ⟨r3_1, hxr3_1, h⟩ := Option.bind_eq_some_iff.mp h
  refine gg_cv (as := [.int (4 : Int32), .int (0 : Int32)]) (r := []) aMi55 rfl rfl rfl aMi43 (Nat.le_of_ble_eq_true rfl) rfl (Nat.le_of_ble_eq_true rfl) (Nat.le_of_ble_eq_true rfl) (by omega) (isK_of (sh3_z ha0)) (Tf43 (by omega) a0 ha0 (4 : Int32) (0 : Int32) I _ hxr3_1) ?_
  show aGo kad d 55 (6, ([(0, .ref a0)], [.int r3_1.1])) (aMem Z r3_1.2, t) _
  refine go_ops aMi55 4 _ (f1 := (10, ([(0, .ref a0)], [.int (1 : Int32), .int (4 : Int32), .ref a0, .long (r3_1.1.toInt64)]))) rfl ?_
  obtain ⟨r10_2, hxr10_2, h⟩ := Option.bind_eq_some_iff.mp h
  refine gg_cv (as := [.int (4 : Int32), .int (1 : Int32)]) (r := [.long (r3_1.1.toInt64)]) aMi55 rfl rfl rfl aMi43 (Nat.le_of_ble_eq_true rfl) rfl (Nat.le_of_ble_eq_true rfl) (Nat.le_of_ble_eq_true rfl) (by omega) (isK_of (sh3_z ha0)) (Tf43 (by omega) a0 ha0 (4 : Int32) (1 : Int32) r3_1.2 _ hxr10_2) ?_
  show aGo kad d 55 (13, ([(0, .ref a0)], [.int r10_2.1, .long (r3_1.1.toInt64)])) (aMem Z r10_2.2, t) _
  refine go_ops aMi55 4 _ (f1 := (18, ([(0, .ref a0)], [.long ((r3_1.1.toInt64) ||| ((r10_2.1.toInt64) <<< ((16 : Int32).toInt64 &&& 63)))]))) rfl ?_
  cases h
  exact go_ret aMi55 rfl rfl ⟨rfl, rfl⟩
-- KernelGym$Disk.firstFreeBlock ()I
def f56_b8 (kad : Nat → Nat) (N : Nat) (Z : AZ) : Nat → Nat → Int64 → Int32 → AI → Option (Int32 × AI)
  | 0, _, _, _, _ => none
  | F + 1, a0, l1, i3, I =>
    if (32 : Int32) ≤ i3 then
      some ((Int32.ofInt (-1)), I)
    else
      if ¬ (lg_cmp ((l1 >>> (i3.toInt64 &&& 63)) &&& (1 : Int64)) (0 : Int64)) = 0 then
        f56_b8 kad N Z F a0 l1 (i3 + (1 : Int32)) I
      else
        some (i3, I)
set_option maxRecDepth 20000 in
theorem Tf56_b8 {kad : Nat → Nat} {N : Nat} {Z : AZ} {d : Nat} {t : Option Nat × (Nat × Nat)} (hd : 2 ≤ d) : ∀ (F : Nat) (a0 : Nat) (ha0 : sh3 kad Z a0) (l1 : Int64) (i3 : Int32) (I : AI) (r : Int32 × AI), f56_b8 kad N Z F a0 l1 i3 I = some r → aGo kad d 56 (8, ([(1, .long l1), (3, .int i3)], [])) (aMem Z I, t) (qI Z t r) := by
  intro F
  induction F with
  | zero => intro a0 ha0 l1 i3 I r h; cases h
  | succ F ih =>
    intro a0 ha0 l1 i3 I r h
    unfold f56_b8 at h
    refine go_ops aMi56 2 _ (f1 := (11, ([(1, .long l1), (3, .int i3)], [.int (32 : Int32), .int i3]))) rfl ?_
    refine gg_br (b := decide ((32 : Int32) ≤ i3)) (tg := 32) (off := 21) aMi56 rfl rfl rfl rfl (fun hb => ?_) (fun hb => ?_)
    · rw [if_pos (of_decide_eq_true hb)] at h
      refine go_ops aMi56 1 _ (f1 := (33, ([(1, .long l1), (3, .int i3)], [.int (Int32.ofInt (-1))]))) rfl ?_
      cases h
      exact go_ret aMi56 rfl aRetI ⟨rfl, rfl⟩
    · rw [if_neg (of_decide_eq_false hb)] at h
      refine go_ops aMi56 7 _ (f1 := (21, ([(1, .long l1), (3, .int i3)], [.int (lg_cmp ((l1 >>> (i3.toInt64 &&& 63)) &&& (1 : Int64)) (0 : Int64))]))) rfl ?_
      refine gg_br (b := decide (¬ (lg_cmp ((l1 >>> (i3.toInt64 &&& 63)) &&& (1 : Int64)) (0 : Int64)) = 0)) (tg := 26) (off := 5) aMi56 rfl rfl rfl rfl (fun hb => ?_) (fun hb => ?_)
      · rw [if_pos (of_decide_eq_true hb)] at h
        refine go_ops aMi56 2 _ (f1 := (8, ([(3, .int (i3 + (1 : Int32))), (1, .long l1)], []))) rfl ?_
        refine go_le (lv1 := [(1, .long l1), (3, .int (i3 + (1 : Int32)))]) (aLe_of (show (List.map (fun q => q.1) ([(1, .long l1), (3, .int (i3 + (1 : Int32)))] : ALv)).Nodup from (by show ([1, 3] : List Nat).Nodup; decide)) (aSubL_cons rfl (aSubL_cons rfl aSubL_nil))) ?_
        exact ih a0 ha0 l1 (i3 + (1 : Int32)) I _ h
      · rw [if_neg (of_decide_eq_false hb)] at h
        refine go_ops aMi56 1 _ (f1 := (25, ([(1, .long l1), (3, .int i3)], [.int i3]))) rfl ?_
        cases h
        exact go_ret aMi56 rfl aRetI ⟨rfl, rfl⟩
def f56 (kad : Nat → Nat) (N : Nat) (Z : AZ) (a0 : Nat) (I : AI) : Option (Int32 × AI) :=
  (f55 kad N Z a0 I).bind fun r1_1 =>
  f56_b8 kad N Z N a0 r1_1.1 (8 : Int32) r1_1.2
set_option maxRecDepth 20000 in
theorem Tf56 {kad : Nat → Nat} {N : Nat} {Z : AZ} {d : Nat} {t : Option Nat × (Nat × Nat)} (hd : 2 ≤ d) : ∀ (a0 : Nat) (ha0 : sh3 kad Z a0) (I : AI) (r : Int32 × AI), f56 kad N Z a0 I = some r → aGo kad d 56 (0, ([(0, .ref a0)], [])) (aMem Z I, t) (qI Z t r) := by
  intro a0 ha0 I r h
  unfold f56 at h
  refine go_ops aMi56 1 _ (f1 := (1, ([(0, .ref a0)], [.ref a0]))) rfl ?_
  obtain ⟨r1_1, hxr1_1, h⟩ := Option.bind_eq_some_iff.mp h
  refine gg_cv (as := []) (r := []) aMi56 rfl rfl rfl aMi55 (Nat.le_of_ble_eq_true rfl) rfl (Nat.le_of_ble_eq_true rfl) (Nat.le_of_ble_eq_true rfl) (by omega) (isK_of (sh3_z ha0)) (Tf55 (by omega) a0 ha0 I _ hxr1_1) ?_
  show aGo kad d 56 (4, ([(0, .ref a0)], [.long r1_1.1])) (aMem Z r1_1.2, t) _
  refine go_ops aMi56 3 _ (f1 := (8, ([(3, .int (8 : Int32)), (1, .long r1_1.1), (0, .ref a0)], []))) rfl ?_
  refine go_le (lv1 := [(1, .long r1_1.1), (3, .int (8 : Int32))]) (aLe_of (show (List.map (fun q => q.1) ([(1, .long r1_1.1), (3, .int (8 : Int32))] : ALv)).Nodup from (by show ([1, 3] : List Nat).Nodup; decide)) (aSubL_cons rfl (aSubL_cons rfl aSubL_nil))) ?_
  exact Tf56_b8 hd N a0 ha0 r1_1.1 (8 : Int32) r1_1.2 _ h
-- KernelGym$Clerk.refuse (IILKernelGym$Core;LKernelGym$Disk;)I
def f27_b34 (kad : Nat → Nat) (N : Nat) (Z : AZ) (a2 : Nat) (a3 : Nat) (s0 : Int32) (I : AI) : Option (Int32 × AI) :=
  some (s0, I)
set_option maxRecDepth 20000 in
theorem Tf27_b34 {kad : Nat → Nat} {N : Nat} {Z : AZ} {d : Nat} {t : Option Nat × (Nat × Nat)} (hd : 3 ≤ d) : ∀ (a2 : Nat) (ha2 : sh2 kad Z a2) (a3 : Nat) (ha3 : sh3 kad Z a3) (s0 : Int32) (I : AI) (r : Int32 × AI), f27_b34 kad N Z a2 a3 s0 I = some r → aGo kad d 27 (34, ([], [.int s0])) (aMem Z I, t) (qI Z t r) := by
  intro a2 ha2 a3 ha3 s0 I r h
  unfold f27_b34 at h
  cases h
  exact go_ret aMi27 rfl aRetI ⟨rfl, rfl⟩
def f27_b17 (kad : Nat → Nat) (N : Nat) (Z : AZ) (a2 : Nat) (a3 : Nat) (I : AI) : Option (Int32 × AI) :=
  f27_b34 kad N Z a2 a3 (1 : Int32) I
set_option maxRecDepth 20000 in
theorem Tf27_b17 {kad : Nat → Nat} {N : Nat} {Z : AZ} {d : Nat} {t : Option Nat × (Nat × Nat)} (hd : 3 ≤ d) : ∀ (a2 : Nat) (ha2 : sh2 kad Z a2) (a3 : Nat) (ha3 : sh3 kad Z a3) (I : AI) (r : Int32 × AI), f27_b17 kad N Z a2 a3 I = some r → aGo kad d 27 (17, ([], [])) (aMem Z I, t) (qI Z t r) := by
  intro a2 ha2 a3 ha3 I r h
  unfold f27_b17 at h
  refine go_ops aMi27 2 _ (f1 := (34, ([], [.int (1 : Int32)]))) rfl ?_
  exact Tf27_b34 hd a2 ha2 a3 ha3 (1 : Int32) I _ h
def f27_b54 (kad : Nat → Nat) (N : Nat) (Z : AZ) (a2 : Nat) (a3 : Nat) (I : AI) : Option (Int32 × AI) :=
  some ((1 : Int32), I)
set_option maxRecDepth 20000 in
theorem Tf27_b54 {kad : Nat → Nat} {N : Nat} {Z : AZ} {d : Nat} {t : Option Nat × (Nat × Nat)} (hd : 3 ≤ d) : ∀ (a2 : Nat) (ha2 : sh2 kad Z a2) (a3 : Nat) (ha3 : sh3 kad Z a3) (I : AI) (r : Int32 × AI), f27_b54 kad N Z a2 a3 I = some r → aGo kad d 27 (54, ([], [])) (aMem Z I, t) (qI Z t r) := by
  intro a2 ha2 a3 ha3 I r h
  unfold f27_b54 at h
  refine go_ops aMi27 1 _ (f1 := (55, ([], [.int (1 : Int32)]))) rfl ?_
  cases h
  exact go_ret aMi27 rfl aRetI ⟨rfl, rfl⟩
def f27_b100 (kad : Nat → Nat) (N : Nat) (Z : AZ) (a2 : Nat) (a3 : Nat) (s0 : Int32) (I : AI) : Option (Int32 × AI) :=
  some (s0, I)
set_option maxRecDepth 20000 in
theorem Tf27_b100 {kad : Nat → Nat} {N : Nat} {Z : AZ} {d : Nat} {t : Option Nat × (Nat × Nat)} (hd : 3 ≤ d) : ∀ (a2 : Nat) (ha2 : sh2 kad Z a2) (a3 : Nat) (ha3 : sh3 kad Z a3) (s0 : Int32) (I : AI) (r : Int32 × AI), f27_b100 kad N Z a2 a3 s0 I = some r → aGo kad d 27 (100, ([], [.int s0])) (aMem Z I, t) (qI Z t r) := by
  intro a2 ha2 a3 ha3 s0 I r h
  unfold f27_b100 at h
  cases h
  exact go_ret aMi27 rfl aRetI ⟨rfl, rfl⟩
def f27_b99 (kad : Nat → Nat) (N : Nat) (Z : AZ) (a2 : Nat) (a3 : Nat) (I : AI) : Option (Int32 × AI) :=
  f27_b100 kad N Z a2 a3 (0 : Int32) I
set_option maxRecDepth 20000 in
theorem Tf27_b99 {kad : Nat → Nat} {N : Nat} {Z : AZ} {d : Nat} {t : Option Nat × (Nat × Nat)} (hd : 3 ≤ d) : ∀ (a2 : Nat) (ha2 : sh2 kad Z a2) (a3 : Nat) (ha3 : sh3 kad Z a3) (I : AI) (r : Int32 × AI), f27_b99 kad N Z a2 a3 I = some r → aGo kad d 27 (99, ([], [])) (aMem Z I, t) (qI Z t r) := by
  intro a2 ha2 a3 ha3 I r h
  unfold f27_b99 at h
  refine go_ops aMi27 1 _ (f1 := (100, ([], [.int (0 : Int32)]))) rfl ?_
  exact Tf27_b100 hd a2 ha2 a3 ha3 (0 : Int32) I _ h
def f27_b127 (kad : Nat → Nat) (N : Nat) (Z : AZ) (a2 : Nat) (a3 : Nat) (s0 : Int32) (I : AI) : Option (Int32 × AI) :=
  some (s0, I)
set_option maxRecDepth 20000 in
theorem Tf27_b127 {kad : Nat → Nat} {N : Nat} {Z : AZ} {d : Nat} {t : Option Nat × (Nat × Nat)} (hd : 3 ≤ d) : ∀ (a2 : Nat) (ha2 : sh2 kad Z a2) (a3 : Nat) (ha3 : sh3 kad Z a3) (s0 : Int32) (I : AI) (r : Int32 × AI), f27_b127 kad N Z a2 a3 s0 I = some r → aGo kad d 27 (127, ([], [.int s0])) (aMem Z I, t) (qI Z t r) := by
  intro a2 ha2 a3 ha3 s0 I r h
  unfold f27_b127 at h
  cases h
  exact go_ret aMi27 rfl aRetI ⟨rfl, rfl⟩
def f27_b126 (kad : Nat → Nat) (N : Nat) (Z : AZ) (a2 : Nat) (a3 : Nat) (I : AI) : Option (Int32 × AI) :=
  f27_b127 kad N Z a2 a3 (0 : Int32) I
set_option maxRecDepth 20000 in
theorem Tf27_b126 {kad : Nat → Nat} {N : Nat} {Z : AZ} {d : Nat} {t : Option Nat × (Nat × Nat)} (hd : 3 ≤ d) : ∀ (a2 : Nat) (ha2 : sh2 kad Z a2) (a3 : Nat) (ha3 : sh3 kad Z a3) (I : AI) (r : Int32 × AI), f27_b126 kad N Z a2 a3 I = some r → aGo kad d 27 (126, ([], [])) (aMem Z I, t) (qI Z t r) := by
  intro a2 ha2 a3 ha3 I r h
  unfold f27_b126 at h
  refine go_ops aMi27 1 _ (f1 := (127, ([], [.int (0 : Int32)]))) rfl ?_
  exact Tf27_b127 hd a2 ha2 a3 ha3 (0 : Int32) I _ h
def f27_b111 (kad : Nat → Nat) (N : Nat) (Z : AZ) (a2 : Nat) (a3 : Nat) (i4 : Int32) (I : AI) : Option (Int32 × AI) :=
  (ixA 4 (1 : Int32)).bind fun j116_1 =>
  if (I (a2 + 1) j116_1) < i4 then
    f27_b126 kad N Z a2 a3 I
  else
    f27_b127 kad N Z a2 a3 (2 : Int32) I
set_option maxRecDepth 20000 in
theorem Tf27_b111 {kad : Nat → Nat} {N : Nat} {Z : AZ} {d : Nat} {t : Option Nat × (Nat × Nat)} (hd : 3 ≤ d) : ∀ (a2 : Nat) (ha2 : sh2 kad Z a2) (a3 : Nat) (ha3 : sh3 kad Z a3) (i4 : Int32) (I : AI) (r : Int32 × AI), f27_b111 kad N Z a2 a3 i4 I = some r → aGo kad d 27 (111, ([(2, .ref a2), (4, .int i4)], [])) (aMem Z I, t) (qI Z t r) := by
  intro a2 ha2 a3 ha3 i4 I r h
  unfold f27_b111 at h
  refine go_ops aMi27 1 _ (f1 := (112, ([(2, .ref a2), (4, .int i4)], [.ref a2]))) rfl ?_
  refine gg_gR (b := (a2 + 1)) aMi27 rfl rfl rfl (gR_of (sh2_z ha2) (sh2_r14 ha2)) ?_
  refine go_ops aMi27 1 _ (f1 := (116, ([(2, .ref a2), (4, .int i4)], [.int (1 : Int32), .ref (a2 + 1)]))) rfl ?_
  obtain ⟨j116_1, hxj116_1, h⟩ := Option.bind_eq_some_iff.mp h
  refine gg_lI (Or.inl ⟨rfl, rfl⟩) aMi27 rfl (lI_of (sh2_a14 ha2) hxj116_1) ?_
  refine go_ops aMi27 1 _ (f1 := (119, ([(2, .ref a2), (4, .int i4)], [.int i4, .int (I (a2 + 1) j116_1)]))) rfl ?_
  refine gg_br (b := decide ((I (a2 + 1) j116_1) < i4)) (tg := 126) (off := 7) aMi27 rfl rfl rfl rfl (fun hb => ?_) (fun hb => ?_)
  · rw [if_pos (of_decide_eq_true hb)] at h
    refine go_le (lv1 := []) (aLe_of (show (List.map (fun q => q.1) ([] : ALv)).Nodup from (by show ([] : List Nat).Nodup; decide)) aSubL_nil) ?_
    exact Tf27_b126 hd a2 ha2 a3 ha3 I _ h
  · rw [if_neg (of_decide_eq_false hb)] at h
    refine go_ops aMi27 2 _ (f1 := (127, ([(2, .ref a2), (4, .int i4)], [.int (2 : Int32)]))) rfl ?_
    refine go_le (lv1 := []) (aLe_of (show (List.map (fun q => q.1) ([] : ALv)).Nodup from (by show ([] : List Nat).Nodup; decide)) aSubL_nil) ?_
    exact Tf27_b127 hd a2 ha2 a3 ha3 (2 : Int32) I _ h
def f27_b56 (kad : Nat → Nat) (N : Nat) (Z : AZ) (a2 : Nat) (a3 : Nat) (i0 : Int32) (i1 : Int32) (I : AI) : Option (Int32 × AI) :=
  (f50 kad N Z a3 i1 (1 : Int32) I).bind fun r59_1 =>
  if ¬ i0 = (1 : Int32) then
    if i0 = (2 : Int32) then
      f27_b111 kad N Z a2 a3 r59_1.1 r59_1.2
    else
      if ¬ i0 = (3 : Int32) then
        f27_b126 kad N Z a2 a3 r59_1.2
      else
        f27_b111 kad N Z a2 a3 r59_1.1 r59_1.2
  else
    if r59_1.1 < (16 : Int32) then
      (f28 kad N Z r59_1.1 r59_1.2).bind fun r82_2 =>
      if r82_2.1 = 0 then
        f27_b99 kad N Z a2 a3 r82_2.2
      else
        (f56 kad N Z a3 r82_2.2).bind fun r89_3 =>
        if 0 ≤ r89_3.1 then
          f27_b99 kad N Z a2 a3 r89_3.2
        else
          f27_b100 kad N Z a2 a3 (3 : Int32) r89_3.2
    else
      f27_b100 kad N Z a2 a3 (2 : Int32) r59_1.2
set_option maxRecDepth 20000 in
theorem Tf27_b56 {kad : Nat → Nat} {N : Nat} {Z : AZ} {d : Nat} {t : Option Nat × (Nat × Nat)} (hd : 3 ≤ d) : ∀ (a2 : Nat) (ha2 : sh2 kad Z a2) (a3 : Nat) (ha3 : sh3 kad Z a3) (i0 : Int32) (i1 : Int32) (I : AI) (r : Int32 × AI), f27_b56 kad N Z a2 a3 i0 i1 I = some r → aGo kad d 27 (56, ([(0, .int i0), (1, .int i1), (2, .ref a2), (3, .ref a3)], [])) (aMem Z I, t) (qI Z t r) := by
  intro a2 ha2 a3 ha3 i0 i1 I r h
  unfold f27_b56 at h
  refine go_ops aMi27 3 _ (f1 := (59, ([(0, .int i0), (1, .int i1), (2, .ref a2), (3, .ref a3)], [.int (1 : Int32), .int i1, .ref a3]))) rfl ?_
  obtain ⟨r59_1, hxr59_1, h⟩ := Option.bind_eq_some_iff.mp h
  refine gg_cv (as := [.int i1, .int (1 : Int32)]) (r := []) aMi27 rfl rfl rfl aMi50 (Nat.le_of_ble_eq_true rfl) rfl (Nat.le_of_ble_eq_true rfl) (Nat.le_of_ble_eq_true rfl) (by omega) (isK_of (sh3_z ha3)) (Tf50 (by omega) a3 ha3 i1 (1 : Int32) I _ hxr59_1) ?_
  show aGo kad d 27 (62, ([(0, .int i0), (1, .int i1), (2, .ref a2), (3, .ref a3)], [.int r59_1.1])) (aMem Z r59_1.2, t) _
  refine go_ops aMi27 3 _ (f1 := (66, ([(4, .int r59_1.1), (0, .int i0), (1, .int i1), (2, .ref a2), (3, .ref a3)], [.int (1 : Int32), .int i0]))) rfl ?_
  refine gg_br (b := decide (¬ i0 = (1 : Int32))) (tg := 101) (off := 35) aMi27 rfl rfl rfl rfl (fun hb => ?_) (fun hb => ?_)
  · rw [if_pos (of_decide_eq_true hb)] at h
    refine go_ops aMi27 2 _ (f1 := (103, ([(4, .int r59_1.1), (0, .int i0), (1, .int i1), (2, .ref a2), (3, .ref a3)], [.int (2 : Int32), .int i0]))) rfl ?_
    refine gg_br (b := decide (i0 = (2 : Int32))) (tg := 111) (off := 8) aMi27 rfl rfl rfl rfl (fun hb => ?_) (fun hb => ?_)
    · rw [if_pos (of_decide_eq_true hb)] at h
      refine go_le (lv1 := [(2, .ref a2), (4, .int r59_1.1)]) (aLe_of (show (List.map (fun q => q.1) ([(2, .ref a2), (4, .int r59_1.1)] : ALv)).Nodup from (by show ([2, 4] : List Nat).Nodup; decide)) (aSubL_cons rfl (aSubL_cons rfl aSubL_nil))) ?_
      exact Tf27_b111 hd a2 ha2 a3 ha3 r59_1.1 r59_1.2 _ h
    · rw [if_neg (of_decide_eq_false hb)] at h
      refine go_ops aMi27 2 _ (f1 := (108, ([(4, .int r59_1.1), (0, .int i0), (1, .int i1), (2, .ref a2), (3, .ref a3)], [.int (3 : Int32), .int i0]))) rfl ?_
      refine gg_br (b := decide (¬ i0 = (3 : Int32))) (tg := 126) (off := 18) aMi27 rfl rfl rfl rfl (fun hb => ?_) (fun hb => ?_)
      · rw [if_pos (of_decide_eq_true hb)] at h
        refine go_le (lv1 := []) (aLe_of (show (List.map (fun q => q.1) ([] : ALv)).Nodup from (by show ([] : List Nat).Nodup; decide)) aSubL_nil) ?_
        exact Tf27_b126 hd a2 ha2 a3 ha3 r59_1.2 _ h
      · rw [if_neg (of_decide_eq_false hb)] at h
        refine go_le (lv1 := [(2, .ref a2), (4, .int r59_1.1)]) (aLe_of (show (List.map (fun q => q.1) ([(2, .ref a2), (4, .int r59_1.1)] : ALv)).Nodup from (by show ([2, 4] : List Nat).Nodup; decide)) (aSubL_cons rfl (aSubL_cons rfl aSubL_nil))) ?_
        exact Tf27_b111 hd a2 ha2 a3 ha3 r59_1.1 r59_1.2 _ h
  · rw [if_neg (of_decide_eq_false hb)] at h
    refine go_ops aMi27 2 _ (f1 := (73, ([(4, .int r59_1.1), (0, .int i0), (1, .int i1), (2, .ref a2), (3, .ref a3)], [.int (16 : Int32), .int r59_1.1]))) rfl ?_
    refine gg_br (b := decide (r59_1.1 < (16 : Int32))) (tg := 80) (off := 7) aMi27 rfl rfl rfl rfl (fun hb => ?_) (fun hb => ?_)
    · rw [if_pos (of_decide_eq_true hb)] at h
      refine go_ops aMi27 1 _ (f1 := (82, ([(4, .int r59_1.1), (0, .int i0), (1, .int i1), (2, .ref a2), (3, .ref a3)], [.int r59_1.1]))) rfl ?_
      obtain ⟨r82_2, hxr82_2, h⟩ := Option.bind_eq_some_iff.mp h
      refine gg_cs (as := [.int r59_1.1]) (r := []) aMi27 rfl rfl rfl aMi28 rfl (Nat.le_of_ble_eq_true rfl) (Nat.le_of_ble_eq_true rfl) (by omega) (Tf28 (by omega) r59_1.1 r59_1.2 _ hxr82_2) ?_
      show aGo kad d 27 (85, ([(4, .int r59_1.1), (0, .int i0), (1, .int i1), (2, .ref a2), (3, .ref a3)], [.int r82_2.1])) (aMem Z r82_2.2, t) _
      refine gg_br (b := decide (r82_2.1 = 0)) (tg := 99) (off := 14) aMi27 rfl rfl rfl rfl (fun hb => ?_) (fun hb => ?_)
      · rw [if_pos (of_decide_eq_true hb)] at h
        refine go_le (lv1 := []) (aLe_of (show (List.map (fun q => q.1) ([] : ALv)).Nodup from (by show ([] : List Nat).Nodup; decide)) aSubL_nil) ?_
        exact Tf27_b99 hd a2 ha2 a3 ha3 r82_2.2 _ h
      · rw [if_neg (of_decide_eq_false hb)] at h
        refine go_ops aMi27 1 _ (f1 := (89, ([(4, .int r59_1.1), (0, .int i0), (1, .int i1), (2, .ref a2), (3, .ref a3)], [.ref a3]))) rfl ?_
        obtain ⟨r89_3, hxr89_3, h⟩ := Option.bind_eq_some_iff.mp h
        refine gg_cv (as := []) (r := []) aMi27 rfl rfl rfl aMi56 (Nat.le_of_ble_eq_true rfl) rfl (Nat.le_of_ble_eq_true rfl) (Nat.le_of_ble_eq_true rfl) (by omega) (isK_of (sh3_z ha3)) (Tf56 (by omega) a3 ha3 r82_2.2 _ hxr89_3) ?_
        show aGo kad d 27 (92, ([(4, .int r59_1.1), (0, .int i0), (1, .int i1), (2, .ref a2), (3, .ref a3)], [.int r89_3.1])) (aMem Z r89_3.2, t) _
        refine gg_br (b := decide (0 ≤ r89_3.1)) (tg := 99) (off := 7) aMi27 rfl rfl rfl rfl (fun hb => ?_) (fun hb => ?_)
        · rw [if_pos (of_decide_eq_true hb)] at h
          refine go_le (lv1 := []) (aLe_of (show (List.map (fun q => q.1) ([] : ALv)).Nodup from (by show ([] : List Nat).Nodup; decide)) aSubL_nil) ?_
          exact Tf27_b99 hd a2 ha2 a3 ha3 r89_3.2 _ h
        · rw [if_neg (of_decide_eq_false hb)] at h
          refine go_ops aMi27 2 _ (f1 := (100, ([(4, .int r59_1.1), (0, .int i0), (1, .int i1), (2, .ref a2), (3, .ref a3)], [.int (3 : Int32)]))) rfl ?_
          refine go_le (lv1 := []) (aLe_of (show (List.map (fun q => q.1) ([] : ALv)).Nodup from (by show ([] : List Nat).Nodup; decide)) aSubL_nil) ?_
          exact Tf27_b100 hd a2 ha2 a3 ha3 (3 : Int32) r89_3.2 _ h
    · rw [if_neg (of_decide_eq_false hb)] at h
      refine go_ops aMi27 2 _ (f1 := (100, ([(4, .int r59_1.1), (0, .int i0), (1, .int i1), (2, .ref a2), (3, .ref a3)], [.int (2 : Int32)]))) rfl ?_
      refine go_le (lv1 := []) (aLe_of (show (List.map (fun q => q.1) ([] : ALv)).Nodup from (by show ([] : List Nat).Nodup; decide)) aSubL_nil) ?_
      exact Tf27_b100 hd a2 ha2 a3 ha3 (2 : Int32) r59_1.2 _ h
def f27 (kad : Nat → Nat) (N : Nat) (Z : AZ) (i0 : Int32) (i1 : Int32) (a2 : Nat) (a3 : Nat) (I : AI) : Option (Int32 × AI) :=
  if ¬ i0 = 0 then
    if i1 < 0 then
      f27_b54 kad N Z a2 a3 I
    else
      if ¬ i0 = (6 : Int32) then
        f27_b56 kad N Z a2 a3 i0 i1 I
      else
        (ixA 4 (1 : Int32)).bind fun j50_1 =>
        if ¬ (I (a2 + 1) j50_1) = 0 then
          f27_b56 kad N Z a2 a3 i0 i1 I
        else
          f27_b54 kad N Z a2 a3 I
  else
    if 0 ≤ i1 then
      f27_b17 kad N Z a2 a3 I
    else
      (ixA 4 (0 : Int32)).bind fun j13_2 =>
      if ¬ (I (a2 + 1) j13_2) = 0 then
        (f51 kad N Z a3 (0 : Int32) I).bind fun r23_3 =>
        if 0 ≤ r23_3.1 then
          f27_b34 kad N Z a2 a3 (0 : Int32) r23_3.2
        else
          f27_b34 kad N Z a2 a3 (2 : Int32) r23_3.2
      else
        f27_b17 kad N Z a2 a3 I
set_option maxRecDepth 20000 in
theorem Tf27 {kad : Nat → Nat} {N : Nat} {Z : AZ} {d : Nat} {t : Option Nat × (Nat × Nat)} (hd : 3 ≤ d) : ∀ (i0 : Int32) (i1 : Int32) (a2 : Nat) (ha2 : sh2 kad Z a2) (a3 : Nat) (ha3 : sh3 kad Z a3) (I : AI) (r : Int32 × AI), f27 kad N Z i0 i1 a2 a3 I = some r → aGo kad d 27 (0, ([(0, .int i0), (1, .int i1), (2, .ref a2), (3, .ref a3)], [])) (aMem Z I, t) (qI Z t r) := by
  intro i0 i1 a2 ha2 a3 ha3 I r h
  unfold f27 at h
  refine go_ops aMi27 1 _ (f1 := (1, ([(0, .int i0), (1, .int i1), (2, .ref a2), (3, .ref a3)], [.int i0]))) rfl ?_
  refine gg_br (b := decide (¬ i0 = 0)) (tg := 35) (off := 34) aMi27 rfl rfl rfl rfl (fun hb => ?_) (fun hb => ?_)
  · rw [if_pos (of_decide_eq_true hb)] at h
    refine go_ops aMi27 1 _ (f1 := (36, ([(0, .int i0), (1, .int i1), (2, .ref a2), (3, .ref a3)], [.int i1]))) rfl ?_
    refine gg_br (b := decide (i1 < 0)) (tg := 54) (off := 18) aMi27 rfl rfl rfl rfl (fun hb => ?_) (fun hb => ?_)
    · rw [if_pos (of_decide_eq_true hb)] at h
      refine go_le (lv1 := []) (aLe_of (show (List.map (fun q => q.1) ([] : ALv)).Nodup from (by show ([] : List Nat).Nodup; decide)) aSubL_nil) ?_
      exact Tf27_b54 hd a2 ha2 a3 ha3 I _ h
    · rw [if_neg (of_decide_eq_false hb)] at h
      refine go_ops aMi27 2 _ (f1 := (42, ([(0, .int i0), (1, .int i1), (2, .ref a2), (3, .ref a3)], [.int (6 : Int32), .int i0]))) rfl ?_
      refine gg_br (b := decide (¬ i0 = (6 : Int32))) (tg := 56) (off := 14) aMi27 rfl rfl rfl rfl (fun hb => ?_) (fun hb => ?_)
      · rw [if_pos (of_decide_eq_true hb)] at h
        exact Tf27_b56 hd a2 ha2 a3 ha3 i0 i1 I _ h
      · rw [if_neg (of_decide_eq_false hb)] at h
        refine go_ops aMi27 1 _ (f1 := (46, ([(0, .int i0), (1, .int i1), (2, .ref a2), (3, .ref a3)], [.ref a2]))) rfl ?_
        refine gg_gR (b := (a2 + 1)) aMi27 rfl rfl rfl (gR_of (sh2_z ha2) (sh2_r14 ha2)) ?_
        refine go_ops aMi27 1 _ (f1 := (50, ([(0, .int i0), (1, .int i1), (2, .ref a2), (3, .ref a3)], [.int (1 : Int32), .ref (a2 + 1)]))) rfl ?_
        obtain ⟨j50_1, hxj50_1, h⟩ := Option.bind_eq_some_iff.mp h
        refine gg_lI (Or.inl ⟨rfl, rfl⟩) aMi27 rfl (lI_of (sh2_a14 ha2) hxj50_1) ?_
        refine gg_br (b := decide (¬ (I (a2 + 1) j50_1) = 0)) (tg := 56) (off := 5) aMi27 rfl rfl rfl rfl (fun hb => ?_) (fun hb => ?_)
        · rw [if_pos (of_decide_eq_true hb)] at h
          exact Tf27_b56 hd a2 ha2 a3 ha3 i0 i1 I _ h
        · rw [if_neg (of_decide_eq_false hb)] at h
          refine go_le (lv1 := []) (aLe_of (show (List.map (fun q => q.1) ([] : ALv)).Nodup from (by show ([] : List Nat).Nodup; decide)) aSubL_nil) ?_
          exact Tf27_b54 hd a2 ha2 a3 ha3 I _ h
  · rw [if_neg (of_decide_eq_false hb)] at h
    refine go_ops aMi27 1 _ (f1 := (5, ([(0, .int i0), (1, .int i1), (2, .ref a2), (3, .ref a3)], [.int i1]))) rfl ?_
    refine gg_br (b := decide (0 ≤ i1)) (tg := 17) (off := 12) aMi27 rfl rfl rfl rfl (fun hb => ?_) (fun hb => ?_)
    · rw [if_pos (of_decide_eq_true hb)] at h
      refine go_le (lv1 := []) (aLe_of (show (List.map (fun q => q.1) ([] : ALv)).Nodup from (by show ([] : List Nat).Nodup; decide)) aSubL_nil) ?_
      exact Tf27_b17 hd a2 ha2 a3 ha3 I _ h
    · rw [if_neg (of_decide_eq_false hb)] at h
      refine go_ops aMi27 1 _ (f1 := (9, ([(0, .int i0), (1, .int i1), (2, .ref a2), (3, .ref a3)], [.ref a2]))) rfl ?_
      refine gg_gR (b := (a2 + 1)) aMi27 rfl rfl rfl (gR_of (sh2_z ha2) (sh2_r14 ha2)) ?_
      refine go_ops aMi27 1 _ (f1 := (13, ([(0, .int i0), (1, .int i1), (2, .ref a2), (3, .ref a3)], [.int (0 : Int32), .ref (a2 + 1)]))) rfl ?_
      obtain ⟨j13_2, hxj13_2, h⟩ := Option.bind_eq_some_iff.mp h
      refine gg_lI (Or.inl ⟨rfl, rfl⟩) aMi27 rfl (lI_of (sh2_a14 ha2) hxj13_2) ?_
      refine gg_br (b := decide (¬ (I (a2 + 1) j13_2) = 0)) (tg := 21) (off := 7) aMi27 rfl rfl rfl rfl (fun hb => ?_) (fun hb => ?_)
      · rw [if_pos (of_decide_eq_true hb)] at h
        refine go_ops aMi27 2 _ (f1 := (23, ([(0, .int i0), (1, .int i1), (2, .ref a2), (3, .ref a3)], [.int (0 : Int32), .ref a3]))) rfl ?_
        obtain ⟨r23_3, hxr23_3, h⟩ := Option.bind_eq_some_iff.mp h
        refine gg_cv (as := [.int (0 : Int32)]) (r := []) aMi27 rfl rfl rfl aMi51 (Nat.le_of_ble_eq_true rfl) rfl (Nat.le_of_ble_eq_true rfl) (Nat.le_of_ble_eq_true rfl) (by omega) (isK_of (sh3_z ha3)) (Tf51 (by omega) a3 ha3 (0 : Int32) I _ hxr23_3) ?_
        show aGo kad d 27 (26, ([(0, .int i0), (1, .int i1), (2, .ref a2), (3, .ref a3)], [.int r23_3.1])) (aMem Z r23_3.2, t) _
        refine gg_br (b := decide (0 ≤ r23_3.1)) (tg := 33) (off := 7) aMi27 rfl rfl rfl rfl (fun hb => ?_) (fun hb => ?_)
        · rw [if_pos (of_decide_eq_true hb)] at h
          refine go_ops aMi27 1 _ (f1 := (34, ([(0, .int i0), (1, .int i1), (2, .ref a2), (3, .ref a3)], [.int (0 : Int32)]))) rfl ?_
          refine go_le (lv1 := []) (aLe_of (show (List.map (fun q => q.1) ([] : ALv)).Nodup from (by show ([] : List Nat).Nodup; decide)) aSubL_nil) ?_
          exact Tf27_b34 hd a2 ha2 a3 ha3 (0 : Int32) r23_3.2 _ h
        · rw [if_neg (of_decide_eq_false hb)] at h
          refine go_ops aMi27 2 _ (f1 := (34, ([(0, .int i0), (1, .int i1), (2, .ref a2), (3, .ref a3)], [.int (2 : Int32)]))) rfl ?_
          refine go_le (lv1 := []) (aLe_of (show (List.map (fun q => q.1) ([] : ALv)).Nodup from (by show ([] : List Nat).Nodup; decide)) aSubL_nil) ?_
          exact Tf27_b34 hd a2 ha2 a3 ha3 (2 : Int32) r23_3.2 _ h
      · rw [if_neg (of_decide_eq_false hb)] at h
        refine go_le (lv1 := []) (aLe_of (show (List.map (fun q => q.1) ([] : ALv)).Nodup from (by show ([] : List Nat).Nodup; decide)) aSubL_nil) ?_
        exact Tf27_b17 hd a2 ha2 a3 ha3 I _ h
-- KernelGym$Clerk.put (III)V
def f35_b39 (kad : Nat → Nat) (N : Nat) (Z : AZ) (a0 : Nat) (I : AI) : Option (Unit × AI) :=
  some ((), I)
set_option maxRecDepth 20000 in
theorem Tf35_b39 {kad : Nat → Nat} {N : Nat} {Z : AZ} {d : Nat} {t : Option Nat × (Nat × Nat)} (hd : 0 ≤ d) : ∀ (a0 : Nat) (ha0 : sh1 kad Z a0) (I : AI) (r : Unit × AI), f35_b39 kad N Z a0 I = some r → aGo kad d 35 (39, ([], [])) (aMem Z I, t) (qV Z t r) := by
  intro a0 ha0 I r h
  unfold f35_b39 at h
  cases h
  exact go_ret aMi35 rfl rfl ⟨rfl, rfl⟩
def f35 (kad : Nat → Nat) (N : Nat) (Z : AZ) (a0 : Nat) (i1 : Int32) (i2 : Int32) (i3 : Int32) (I : AI) : Option (Unit × AI) :=
  if i1 < 0 then
    f35_b39 kad N Z a0 I
  else
    if (32 : Int32) ≤ i1 then
      f35_b39 kad N Z a0 I
    else
      if i2 < 0 then
        f35_b39 kad N Z a0 I
      else
        if (8 : Int32) ≤ i2 then
          f35_b39 kad N Z a0 I
        else
          (ixA 256 ((i1 * (8 : Int32)) + i2)).bind fun j31_2 =>
          (wI I (a0 + 1) j31_2 i3).bind fun I31_1 =>
          (ixA 32 i1).bind fun j38_4 =>
          (wB I31_1 (a0 + 2) j38_4 (1 : Int32)).bind fun I38_3 =>
          f35_b39 kad N Z a0 I38_3
set_option maxRecDepth 20000 in
theorem Tf35 {kad : Nat → Nat} {N : Nat} {Z : AZ} {d : Nat} {t : Option Nat × (Nat × Nat)} (hd : 0 ≤ d) : ∀ (a0 : Nat) (ha0 : sh1 kad Z a0) (i1 : Int32) (i2 : Int32) (i3 : Int32) (I : AI) (r : Unit × AI), f35 kad N Z a0 i1 i2 i3 I = some r → aGo kad d 35 (0, ([(0, .ref a0), (1, .int i1), (2, .int i2), (3, .int i3)], [])) (aMem Z I, t) (qV Z t r) := by
  intro a0 ha0 i1 i2 i3 I r h
  unfold f35 at h
  refine go_ops aMi35 1 _ (f1 := (1, ([(0, .ref a0), (1, .int i1), (2, .int i2), (3, .int i3)], [.int i1]))) rfl ?_
  refine gg_br (b := decide (i1 < 0)) (tg := 39) (off := 38) aMi35 rfl rfl rfl rfl (fun hb => ?_) (fun hb => ?_)
  · rw [if_pos (of_decide_eq_true hb)] at h
    refine go_le (lv1 := []) (aLe_of (show (List.map (fun q => q.1) ([] : ALv)).Nodup from (by show ([] : List Nat).Nodup; decide)) aSubL_nil) ?_
    exact Tf35_b39 hd a0 ha0 I _ h
  · rw [if_neg (of_decide_eq_false hb)] at h
    refine go_ops aMi35 2 _ (f1 := (7, ([(0, .ref a0), (1, .int i1), (2, .int i2), (3, .int i3)], [.int (32 : Int32), .int i1]))) rfl ?_
    refine gg_br (b := decide ((32 : Int32) ≤ i1)) (tg := 39) (off := 32) aMi35 rfl rfl rfl rfl (fun hb => ?_) (fun hb => ?_)
    · rw [if_pos (of_decide_eq_true hb)] at h
      refine go_le (lv1 := []) (aLe_of (show (List.map (fun q => q.1) ([] : ALv)).Nodup from (by show ([] : List Nat).Nodup; decide)) aSubL_nil) ?_
      exact Tf35_b39 hd a0 ha0 I _ h
    · rw [if_neg (of_decide_eq_false hb)] at h
      refine go_ops aMi35 1 _ (f1 := (11, ([(0, .ref a0), (1, .int i1), (2, .int i2), (3, .int i3)], [.int i2]))) rfl ?_
      refine gg_br (b := decide (i2 < 0)) (tg := 39) (off := 28) aMi35 rfl rfl rfl rfl (fun hb => ?_) (fun hb => ?_)
      · rw [if_pos (of_decide_eq_true hb)] at h
        refine go_le (lv1 := []) (aLe_of (show (List.map (fun q => q.1) ([] : ALv)).Nodup from (by show ([] : List Nat).Nodup; decide)) aSubL_nil) ?_
        exact Tf35_b39 hd a0 ha0 I _ h
      · rw [if_neg (of_decide_eq_false hb)] at h
        refine go_ops aMi35 2 _ (f1 := (17, ([(0, .ref a0), (1, .int i1), (2, .int i2), (3, .int i3)], [.int (8 : Int32), .int i2]))) rfl ?_
        refine gg_br (b := decide ((8 : Int32) ≤ i2)) (tg := 39) (off := 22) aMi35 rfl rfl rfl rfl (fun hb => ?_) (fun hb => ?_)
        · rw [if_pos (of_decide_eq_true hb)] at h
          refine go_le (lv1 := []) (aLe_of (show (List.map (fun q => q.1) ([] : ALv)).Nodup from (by show ([] : List Nat).Nodup; decide)) aSubL_nil) ?_
          exact Tf35_b39 hd a0 ha0 I _ h
        · rw [if_neg (of_decide_eq_false hb)] at h
          refine go_ops aMi35 1 _ (f1 := (21, ([(0, .ref a0), (1, .int i1), (2, .int i2), (3, .int i3)], [.ref a0]))) rfl ?_
          refine gg_gR (b := (a0 + 1)) aMi35 rfl rfl rfl (gR_of (sh1_z ha0) (sh1_r0 ha0)) ?_
          refine go_ops aMi35 6 _ (f1 := (31, ([(0, .ref a0), (1, .int i1), (2, .int i2), (3, .int i3)], [.int i3, .int ((i1 * (8 : Int32)) + i2), .ref (a0 + 1)]))) rfl ?_
          obtain ⟨j31_2, hxj31_2, h⟩ := Option.bind_eq_some_iff.mp h
          obtain ⟨I31_1, hxI31_1, h⟩ := Option.bind_eq_some_iff.mp h
          refine gg_sI (Or.inl ⟨rfl, rfl⟩) aMi35 rfl (sI_of (sh1_a0 ha0) hxj31_2 hxI31_1) ?_
          refine go_ops aMi35 1 _ (f1 := (33, ([(0, .ref a0), (1, .int i1), (2, .int i2), (3, .int i3)], [.ref a0]))) rfl ?_
          refine gg_gR (b := (a0 + 2)) aMi35 rfl rfl rfl (gR_of (sh1_z ha0) (sh1_r1 ha0)) ?_
          refine go_ops aMi35 2 _ (f1 := (38, ([(0, .ref a0), (1, .int i1), (2, .int i2), (3, .int i3)], [.int (1 : Int32), .int i1, .ref (a0 + 2)]))) rfl ?_
          obtain ⟨j38_4, hxj38_4, h⟩ := Option.bind_eq_some_iff.mp h
          obtain ⟨I38_3, hxI38_3, h⟩ := Option.bind_eq_some_iff.mp h
          refine gg_sI (Or.inr ⟨rfl, rfl⟩) aMi35 rfl (sB_of (sh1_a1 ha0) hxj38_4 hxI38_3) ?_
          refine go_le (lv1 := []) (aLe_of (show (List.map (fun q => q.1) ([] : ALv)).Nodup from (by show ([] : List Nat).Nodup; decide)) aSubL_nil) ?_
          exact Tf35_b39 hd a0 ha0 I38_3 _ h
-- KernelGym$Clerk.putInEntry (III)V
def f34 (kad : Nat → Nat) (N : Nat) (Z : AZ) (a0 : Nat) (i1 : Int32) (i2 : Int32) (i3 : Int32) (I : AI) : Option (Unit × AI) :=
  (f48 kad N Z i1 I).bind fun r2_1 =>
  (f49 kad N Z i1 r2_1.2).bind fun r6_2 =>
  (f35 kad N Z a0 r2_1.1 (r6_2.1 + i2) i3 r6_2.2).bind fun r12_3 =>
  some ((), r12_3.2)
set_option maxRecDepth 20000 in
theorem Tf34 {kad : Nat → Nat} {N : Nat} {Z : AZ} {d : Nat} {t : Option Nat × (Nat × Nat)} (hd : 1 ≤ d) : ∀ (a0 : Nat) (ha0 : sh1 kad Z a0) (i1 : Int32) (i2 : Int32) (i3 : Int32) (I : AI) (r : Unit × AI), f34 kad N Z a0 i1 i2 i3 I = some r → aGo kad d 34 (0, ([(0, .ref a0), (1, .int i1), (2, .int i2), (3, .int i3)], [])) (aMem Z I, t) (qV Z t r) := by
  intro a0 ha0 i1 i2 i3 I r h
  unfold f34 at h
  refine go_ops aMi34 2 _ (f1 := (2, ([(0, .ref a0), (1, .int i1), (2, .int i2), (3, .int i3)], [.int i1, .ref a0]))) rfl ?_
  obtain ⟨r2_1, hxr2_1, h⟩ := Option.bind_eq_some_iff.mp h
  refine gg_cs (as := [.int i1]) (r := [.ref a0]) aMi34 rfl rfl rfl aMi48 rfl (Nat.le_of_ble_eq_true rfl) (Nat.le_of_ble_eq_true rfl) (by omega) (Tf48 (by omega) i1 I _ hxr2_1) ?_
  show aGo kad d 34 (5, ([(0, .ref a0), (1, .int i1), (2, .int i2), (3, .int i3)], [.int r2_1.1, .ref a0])) (aMem Z r2_1.2, t) _
  refine go_ops aMi34 1 _ (f1 := (6, ([(0, .ref a0), (1, .int i1), (2, .int i2), (3, .int i3)], [.int i1, .int r2_1.1, .ref a0]))) rfl ?_
  obtain ⟨r6_2, hxr6_2, h⟩ := Option.bind_eq_some_iff.mp h
  refine gg_cs (as := [.int i1]) (r := [.int r2_1.1, .ref a0]) aMi34 rfl rfl rfl aMi49 rfl (Nat.le_of_ble_eq_true rfl) (Nat.le_of_ble_eq_true rfl) (by omega) (Tf49 (by omega) i1 r2_1.2 _ hxr6_2) ?_
  show aGo kad d 34 (9, ([(0, .ref a0), (1, .int i1), (2, .int i2), (3, .int i3)], [.int r6_2.1, .int r2_1.1, .ref a0])) (aMem Z r6_2.2, t) _
  refine go_ops aMi34 3 _ (f1 := (12, ([(0, .ref a0), (1, .int i1), (2, .int i2), (3, .int i3)], [.int i3, .int (r6_2.1 + i2), .int r2_1.1, .ref a0]))) rfl ?_
  obtain ⟨r12_3, hxr12_3, h⟩ := Option.bind_eq_some_iff.mp h
  refine gg_cv (as := [.int r2_1.1, .int (r6_2.1 + i2), .int i3]) (r := []) aMi34 rfl rfl rfl aMi35 (Nat.le_of_ble_eq_true rfl) rfl (Nat.le_of_ble_eq_true rfl) (Nat.le_of_ble_eq_true rfl) (by omega) (isK_of (sh1_z ha0)) (Tf35 (by omega) a0 ha0 r2_1.1 (r6_2.1 + i2) i3 r6_2.2 _ hxr12_3) ?_
  show aGo kad d 34 (15, ([(0, .ref a0), (1, .int i1), (2, .int i2), (3, .int i3)], [])) (aMem Z r12_3.2, t) _
  cases h
  exact go_ret aMi34 rfl rfl ⟨rfl, rfl⟩
-- KernelGym$Disk.blockOfPlace (II)I
def f53_b13 (kad : Nat → Nat) (N : Nat) (Z : AZ) (a0 : Nat) (s0 : Int32) (s1 : Int32) (I : AI) : Option (Int32 × AI) :=
  (f50 kad N Z a0 s1 s0 I).bind fun r13_1 =>
  some (r13_1.1, r13_1.2)
set_option maxRecDepth 20000 in
theorem Tf53_b13 {kad : Nat → Nat} {N : Nat} {Z : AZ} {d : Nat} {t : Option Nat × (Nat × Nat)} (hd : 2 ≤ d) : ∀ (a0 : Nat) (ha0 : sh3 kad Z a0) (s0 : Int32) (s1 : Int32) (I : AI) (r : Int32 × AI), f53_b13 kad N Z a0 s0 s1 I = some r → aGo kad d 53 (13, ([], [.int s0, .int s1, .ref a0])) (aMem Z I, t) (qI Z t r) := by
  intro a0 ha0 s0 s1 I r h
  unfold f53_b13 at h
  obtain ⟨r13_1, hxr13_1, h⟩ := Option.bind_eq_some_iff.mp h
  refine gg_cv (as := [.int s1, .int s0]) (r := []) aMi53 rfl rfl rfl aMi50 (Nat.le_of_ble_eq_true rfl) rfl (Nat.le_of_ble_eq_true rfl) (Nat.le_of_ble_eq_true rfl) (by omega) (isK_of (sh3_z ha0)) (Tf50 (by omega) a0 ha0 s1 s0 I _ hxr13_1) ?_
  show aGo kad d 53 (16, ([], [.int r13_1.1])) (aMem Z r13_1.2, t) _
  cases h
  exact go_ret aMi53 rfl aRetI ⟨rfl, rfl⟩
def f53 (kad : Nat → Nat) (N : Nat) (Z : AZ) (a0 : Nat) (i1 : Int32) (i2 : Int32) (I : AI) : Option (Int32 × AI) :=
  if (8 : Int32) ≤ i2 then
    f53_b13 kad N Z a0 (3 : Int32) i1 I
  else
    f53_b13 kad N Z a0 (2 : Int32) i1 I
set_option maxRecDepth 20000 in
theorem Tf53 {kad : Nat → Nat} {N : Nat} {Z : AZ} {d : Nat} {t : Option Nat × (Nat × Nat)} (hd : 2 ≤ d) : ∀ (a0 : Nat) (ha0 : sh3 kad Z a0) (i1 : Int32) (i2 : Int32) (I : AI) (r : Int32 × AI), f53 kad N Z a0 i1 i2 I = some r → aGo kad d 53 (0, ([(0, .ref a0), (1, .int i1), (2, .int i2)], [])) (aMem Z I, t) (qI Z t r) := by
  intro a0 ha0 i1 i2 I r h
  unfold f53 at h
  refine go_ops aMi53 4 _ (f1 := (5, ([(0, .ref a0), (1, .int i1), (2, .int i2)], [.int (8 : Int32), .int i2, .int i1, .ref a0]))) rfl ?_
  refine gg_br (b := decide ((8 : Int32) ≤ i2)) (tg := 12) (off := 7) aMi53 rfl rfl rfl rfl (fun hb => ?_) (fun hb => ?_)
  · rw [if_pos (of_decide_eq_true hb)] at h
    refine go_ops aMi53 1 _ (f1 := (13, ([(0, .ref a0), (1, .int i1), (2, .int i2)], [.int (3 : Int32), .int i1, .ref a0]))) rfl ?_
    refine go_le (lv1 := []) (aLe_of (show (List.map (fun q => q.1) ([] : ALv)).Nodup from (by show ([] : List Nat).Nodup; decide)) aSubL_nil) ?_
    exact Tf53_b13 hd a0 ha0 (3 : Int32) i1 I _ h
  · rw [if_neg (of_decide_eq_false hb)] at h
    refine go_ops aMi53 2 _ (f1 := (13, ([(0, .ref a0), (1, .int i1), (2, .int i2)], [.int (2 : Int32), .int i1, .ref a0]))) rfl ?_
    refine go_le (lv1 := []) (aLe_of (show (List.map (fun q => q.1) ([] : ALv)).Nodup from (by show ([] : List Nat).Nodup; decide)) aSubL_nil) ?_
    exact Tf53_b13 hd a0 ha0 (2 : Int32) i1 I _ h
-- KernelGym$Clerk.setUsed (IZ)V
def f33_b53 (kad : Nat → Nat) (N : Nat) (Z : AZ) (a0 : Nat) (s0 : Int32) (s1 : Int32) (s2 : Int32) (I : AI) : Option (Unit × AI) :=
  (f35 kad N Z a0 s2 s1 s0 I).bind fun r53_1 =>
  some ((), r53_1.2)
set_option maxRecDepth 20000 in
theorem Tf33_b53 {kad : Nat → Nat} {N : Nat} {Z : AZ} {d : Nat} {t : Option Nat × (Nat × Nat)} (hd : 1 ≤ d) : ∀ (a0 : Nat) (ha0 : sh1 kad Z a0) (s0 : Int32) (s1 : Int32) (s2 : Int32) (I : AI) (r : Unit × AI), f33_b53 kad N Z a0 s0 s1 s2 I = some r → aGo kad d 33 (53, ([], [.int s0, .int s1, .int s2, .ref a0])) (aMem Z I, t) (qV Z t r) := by
  intro a0 ha0 s0 s1 s2 I r h
  unfold f33_b53 at h
  obtain ⟨r53_1, hxr53_1, h⟩ := Option.bind_eq_some_iff.mp h
  refine gg_cv (as := [.int s2, .int s1, .int s0]) (r := []) aMi33 rfl rfl rfl aMi35 (Nat.le_of_ble_eq_true rfl) rfl (Nat.le_of_ble_eq_true rfl) (Nat.le_of_ble_eq_true rfl) (by omega) (isK_of (sh1_z ha0)) (Tf35 (by omega) a0 ha0 s2 s1 s0 I _ hxr53_1) ?_
  show aGo kad d 33 (56, ([], [])) (aMem Z r53_1.2, t) _
  cases h
  exact go_ret aMi33 rfl rfl ⟨rfl, rfl⟩
def f33_b11 (kad : Nat → Nat) (N : Nat) (Z : AZ) (a0 : Nat) (i1 : Int32) (i2 : Int32) (s0 : Int32) (I : AI) : Option (Unit × AI) :=
  (ixA 256 ((32 : Int32) + s0)).bind fun j28_1 =>
  if i2 = 0 then
    f33_b53 kad N Z a0 ((I (a0 + 1) j28_1) &&& (((1 : Int32) <<< ((i1 - i1 / (16 : Int32) * (16 : Int32)) &&& 31)) ^^^ (Int32.ofInt (-1)))) s0 (4 : Int32) I
  else
    f33_b53 kad N Z a0 ((I (a0 + 1) j28_1) ||| ((1 : Int32) <<< ((i1 - i1 / (16 : Int32) * (16 : Int32)) &&& 31))) s0 (4 : Int32) I
set_option maxRecDepth 20000 in
theorem Tf33_b11 {kad : Nat → Nat} {N : Nat} {Z : AZ} {d : Nat} {t : Option Nat × (Nat × Nat)} (hd : 1 ≤ d) : ∀ (a0 : Nat) (ha0 : sh1 kad Z a0) (i1 : Int32) (i2 : Int32) (s0 : Int32) (I : AI) (r : Unit × AI), f33_b11 kad N Z a0 i1 i2 s0 I = some r → aGo kad d 33 (11, ([(0, .ref a0), (1, .int i1), (2, .int i2)], [.int s0])) (aMem Z I, t) (qV Z t r) := by
  intro a0 ha0 i1 i2 s0 I r h
  unfold f33_b11 at h
  refine go_ops aMi33 8 _ (f1 := (21, ([(4, .int ((1 : Int32) <<< ((i1 - i1 / (16 : Int32) * (16 : Int32)) &&& 31))), (3, .int s0), (0, .ref a0), (1, .int i1), (2, .int i2)], [.ref a0]))) rfl ?_
  refine gg_gR (b := (a0 + 1)) aMi33 rfl rfl rfl (gR_of (sh1_z ha0) (sh1_r0 ha0)) ?_
  refine go_ops aMi33 3 _ (f1 := (28, ([(4, .int ((1 : Int32) <<< ((i1 - i1 / (16 : Int32) * (16 : Int32)) &&& 31))), (3, .int s0), (0, .ref a0), (1, .int i1), (2, .int i2)], [.int ((32 : Int32) + s0), .ref (a0 + 1)]))) rfl ?_
  obtain ⟨j28_1, hxj28_1, h⟩ := Option.bind_eq_some_iff.mp h
  refine gg_lI (Or.inl ⟨rfl, rfl⟩) aMi33 rfl (lI_of (sh1_a0 ha0) hxj28_1) ?_
  refine go_ops aMi33 5 _ (f1 := (35, ([(5, .int (I (a0 + 1) j28_1)), (4, .int ((1 : Int32) <<< ((i1 - i1 / (16 : Int32) * (16 : Int32)) &&& 31))), (3, .int s0), (0, .ref a0), (1, .int i1), (2, .int i2)], [.int i2, .int s0, .int (4 : Int32), .ref a0]))) rfl ?_
  refine gg_br (b := decide (i2 = 0)) (tg := 46) (off := 11) aMi33 rfl rfl rfl rfl (fun hb => ?_) (fun hb => ?_)
  · rw [if_pos (of_decide_eq_true hb)] at h
    refine go_ops aMi33 5 _ (f1 := (53, ([(5, .int (I (a0 + 1) j28_1)), (4, .int ((1 : Int32) <<< ((i1 - i1 / (16 : Int32) * (16 : Int32)) &&& 31))), (3, .int s0), (0, .ref a0), (1, .int i1), (2, .int i2)], [.int ((I (a0 + 1) j28_1) &&& (((1 : Int32) <<< ((i1 - i1 / (16 : Int32) * (16 : Int32)) &&& 31)) ^^^ (Int32.ofInt (-1)))), .int s0, .int (4 : Int32), .ref a0]))) rfl ?_
    refine go_le (lv1 := []) (aLe_of (show (List.map (fun q => q.1) ([] : ALv)).Nodup from (by show ([] : List Nat).Nodup; decide)) aSubL_nil) ?_
    exact Tf33_b53 hd a0 ha0 ((I (a0 + 1) j28_1) &&& (((1 : Int32) <<< ((i1 - i1 / (16 : Int32) * (16 : Int32)) &&& 31)) ^^^ (Int32.ofInt (-1)))) s0 (4 : Int32) I _ h
  · rw [if_neg (of_decide_eq_false hb)] at h
    refine go_ops aMi33 4 _ (f1 := (53, ([(5, .int (I (a0 + 1) j28_1)), (4, .int ((1 : Int32) <<< ((i1 - i1 / (16 : Int32) * (16 : Int32)) &&& 31))), (3, .int s0), (0, .ref a0), (1, .int i1), (2, .int i2)], [.int ((I (a0 + 1) j28_1) ||| ((1 : Int32) <<< ((i1 - i1 / (16 : Int32) * (16 : Int32)) &&& 31))), .int s0, .int (4 : Int32), .ref a0]))) rfl ?_
    refine go_le (lv1 := []) (aLe_of (show (List.map (fun q => q.1) ([] : ALv)).Nodup from (by show ([] : List Nat).Nodup; decide)) aSubL_nil) ?_
    exact Tf33_b53 hd a0 ha0 ((I (a0 + 1) j28_1) ||| ((1 : Int32) <<< ((i1 - i1 / (16 : Int32) * (16 : Int32)) &&& 31))) s0 (4 : Int32) I _ h
def f33 (kad : Nat → Nat) (N : Nat) (Z : AZ) (a0 : Nat) (i1 : Int32) (i2 : Int32) (I : AI) : Option (Unit × AI) :=
  if (16 : Int32) ≤ i1 then
    f33_b11 kad N Z a0 i1 i2 (1 : Int32) I
  else
    f33_b11 kad N Z a0 i1 i2 (0 : Int32) I
set_option maxRecDepth 20000 in
theorem Tf33 {kad : Nat → Nat} {N : Nat} {Z : AZ} {d : Nat} {t : Option Nat × (Nat × Nat)} (hd : 1 ≤ d) : ∀ (a0 : Nat) (ha0 : sh1 kad Z a0) (i1 : Int32) (i2 : Int32) (I : AI) (r : Unit × AI), f33 kad N Z a0 i1 i2 I = some r → aGo kad d 33 (0, ([(0, .ref a0), (1, .int i1), (2, .int i2)], [])) (aMem Z I, t) (qV Z t r) := by
  intro a0 ha0 i1 i2 I r h
  unfold f33 at h
  refine go_ops aMi33 2 _ (f1 := (3, ([(0, .ref a0), (1, .int i1), (2, .int i2)], [.int (16 : Int32), .int i1]))) rfl ?_
  refine gg_br (b := decide ((16 : Int32) ≤ i1)) (tg := 10) (off := 7) aMi33 rfl rfl rfl rfl (fun hb => ?_) (fun hb => ?_)
  · rw [if_pos (of_decide_eq_true hb)] at h
    refine go_ops aMi33 1 _ (f1 := (11, ([(0, .ref a0), (1, .int i1), (2, .int i2)], [.int (1 : Int32)]))) rfl ?_
    exact Tf33_b11 hd a0 ha0 i1 i2 (1 : Int32) I _ h
  · rw [if_neg (of_decide_eq_false hb)] at h
    refine go_ops aMi33 2 _ (f1 := (11, ([(0, .ref a0), (1, .int i1), (2, .int i2)], [.int (0 : Int32)]))) rfl ?_
    exact Tf33_b11 hd a0 ha0 i1 i2 (0 : Int32) I _ h
-- KernelGym$Clerk.append (IILKernelGym$Disk;)V
def f30_b82 (kad : Nat → Nat) (N : Nat) (Z : AZ) (a0 : Nat) (a3 : Nat) (i1 : Int32) (i2 : Int32) (i4 : Int32) (i5 : Int32) (I : AI) : Option (Unit × AI) :=
  (f35 kad N Z a0 i5 (i4 - i4 / (8 : Int32) * (8 : Int32)) i2 I).bind fun r91_1 =>
  (f34 kad N Z a0 i1 (1 : Int32) (i4 + (1 : Int32)) r91_1.2).bind fun r101_2 =>
  some ((), r101_2.2)
set_option maxRecDepth 20000 in
theorem Tf30_b82 {kad : Nat → Nat} {N : Nat} {Z : AZ} {d : Nat} {t : Option Nat × (Nat × Nat)} (hd : 3 ≤ d) : ∀ (a0 : Nat) (ha0 : sh1 kad Z a0) (a3 : Nat) (ha3 : sh3 kad Z a3) (i1 : Int32) (i2 : Int32) (i4 : Int32) (i5 : Int32) (I : AI) (r : Unit × AI), f30_b82 kad N Z a0 a3 i1 i2 i4 i5 I = some r → aGo kad d 30 (82, ([(0, .ref a0), (1, .int i1), (2, .int i2), (4, .int i4), (5, .int i5)], [])) (aMem Z I, t) (qV Z t r) := by
  intro a0 ha0 a3 ha3 i1 i2 i4 i5 I r h
  unfold f30_b82 at h
  refine go_ops aMi30 6 _ (f1 := (91, ([(0, .ref a0), (1, .int i1), (2, .int i2), (4, .int i4), (5, .int i5)], [.int i2, .int (i4 - i4 / (8 : Int32) * (8 : Int32)), .int i5, .ref a0]))) rfl ?_
  obtain ⟨r91_1, hxr91_1, h⟩ := Option.bind_eq_some_iff.mp h
  refine gg_cv (as := [.int i5, .int (i4 - i4 / (8 : Int32) * (8 : Int32)), .int i2]) (r := []) aMi30 rfl rfl rfl aMi35 (Nat.le_of_ble_eq_true rfl) rfl (Nat.le_of_ble_eq_true rfl) (Nat.le_of_ble_eq_true rfl) (by omega) (isK_of (sh1_z ha0)) (Tf35 (by omega) a0 ha0 i5 (i4 - i4 / (8 : Int32) * (8 : Int32)) i2 I _ hxr91_1) ?_
  show aGo kad d 30 (94, ([(0, .ref a0), (1, .int i1), (2, .int i2), (4, .int i4), (5, .int i5)], [])) (aMem Z r91_1.2, t) _
  refine go_ops aMi30 6 _ (f1 := (101, ([(0, .ref a0), (1, .int i1), (2, .int i2), (4, .int i4), (5, .int i5)], [.int (i4 + (1 : Int32)), .int (1 : Int32), .int i1, .ref a0]))) rfl ?_
  obtain ⟨r101_2, hxr101_2, h⟩ := Option.bind_eq_some_iff.mp h
  refine gg_cv (as := [.int i1, .int (1 : Int32), .int (i4 + (1 : Int32))]) (r := []) aMi30 rfl rfl rfl aMi34 (Nat.le_of_ble_eq_true rfl) rfl (Nat.le_of_ble_eq_true rfl) (Nat.le_of_ble_eq_true rfl) (by omega) (isK_of (sh1_z ha0)) (Tf34 (by omega) a0 ha0 i1 (1 : Int32) (i4 + (1 : Int32)) r91_1.2 _ hxr101_2) ?_
  show aGo kad d 30 (104, ([(0, .ref a0), (1, .int i1), (2, .int i2), (4, .int i4), (5, .int i5)], [])) (aMem Z r101_2.2, t) _
  cases h
  exact go_ret aMi30 rfl rfl ⟨rfl, rfl⟩
def f30_b60 (kad : Nat → Nat) (N : Nat) (Z : AZ) : Nat → Nat → Nat → Int32 → Int32 → Int32 → Int32 → Int32 → AI → Option (Unit × AI)
  | 0, _, _, _, _, _, _, _, _ => none
  | F + 1, a0, a3, i1, i2, i4, i5, i6, I =>
    if (8 : Int32) ≤ i6 then
      f30_b82 kad N Z a0 a3 i1 i2 i4 i5 I
    else
      (f35 kad N Z a0 i5 i6 (0 : Int32) I).bind fun r73_1 =>
      f30_b60 kad N Z F a0 a3 i1 i2 i4 i5 (i6 + (1 : Int32)) r73_1.2
set_option maxRecDepth 20000 in
theorem Tf30_b60 {kad : Nat → Nat} {N : Nat} {Z : AZ} {d : Nat} {t : Option Nat × (Nat × Nat)} (hd : 3 ≤ d) : ∀ (F : Nat) (a0 : Nat) (ha0 : sh1 kad Z a0) (a3 : Nat) (ha3 : sh3 kad Z a3) (i1 : Int32) (i2 : Int32) (i4 : Int32) (i5 : Int32) (i6 : Int32) (I : AI) (r : Unit × AI), f30_b60 kad N Z F a0 a3 i1 i2 i4 i5 i6 I = some r → aGo kad d 30 (60, ([(0, .ref a0), (1, .int i1), (2, .int i2), (4, .int i4), (5, .int i5), (6, .int i6)], [])) (aMem Z I, t) (qV Z t r) := by
  intro F
  induction F with
  | zero => intro a0 ha0 a3 ha3 i1 i2 i4 i5 i6 I r h; cases h
  | succ F ih =>
    intro a0 ha0 a3 ha3 i1 i2 i4 i5 i6 I r h
    unfold f30_b60 at h
    refine go_ops aMi30 2 _ (f1 := (64, ([(0, .ref a0), (1, .int i1), (2, .int i2), (4, .int i4), (5, .int i5), (6, .int i6)], [.int (8 : Int32), .int i6]))) rfl ?_
    refine gg_br (b := decide ((8 : Int32) ≤ i6)) (tg := 82) (off := 18) aMi30 rfl rfl rfl rfl (fun hb => ?_) (fun hb => ?_)
    · rw [if_pos (of_decide_eq_true hb)] at h
      refine go_le (lv1 := [(0, .ref a0), (1, .int i1), (2, .int i2), (4, .int i4), (5, .int i5)]) (aLe_of (show (List.map (fun q => q.1) ([(0, .ref a0), (1, .int i1), (2, .int i2), (4, .int i4), (5, .int i5)] : ALv)).Nodup from (by show ([0, 1, 2, 4, 5] : List Nat).Nodup; decide)) (aSubL_cons rfl (aSubL_cons rfl (aSubL_cons rfl (aSubL_cons rfl (aSubL_cons rfl aSubL_nil)))))) ?_
      exact Tf30_b82 hd a0 ha0 a3 ha3 i1 i2 i4 i5 I _ h
    · rw [if_neg (of_decide_eq_false hb)] at h
      refine go_ops aMi30 4 _ (f1 := (73, ([(0, .ref a0), (1, .int i1), (2, .int i2), (4, .int i4), (5, .int i5), (6, .int i6)], [.int (0 : Int32), .int i6, .int i5, .ref a0]))) rfl ?_
      obtain ⟨r73_1, hxr73_1, h⟩ := Option.bind_eq_some_iff.mp h
      refine gg_cv (as := [.int i5, .int i6, .int (0 : Int32)]) (r := []) aMi30 rfl rfl rfl aMi35 (Nat.le_of_ble_eq_true rfl) rfl (Nat.le_of_ble_eq_true rfl) (Nat.le_of_ble_eq_true rfl) (by omega) (isK_of (sh1_z ha0)) (Tf35 (by omega) a0 ha0 i5 i6 (0 : Int32) I _ hxr73_1) ?_
      show aGo kad d 30 (76, ([(0, .ref a0), (1, .int i1), (2, .int i2), (4, .int i4), (5, .int i5), (6, .int i6)], [])) (aMem Z r73_1.2, t) _
      refine go_ops aMi30 2 _ (f1 := (60, ([(6, .int (i6 + (1 : Int32))), (0, .ref a0), (1, .int i1), (2, .int i2), (4, .int i4), (5, .int i5)], []))) rfl ?_
      refine go_le (lv1 := [(0, .ref a0), (1, .int i1), (2, .int i2), (4, .int i4), (5, .int i5), (6, .int (i6 + (1 : Int32)))]) (aLe_of (show (List.map (fun q => q.1) ([(0, .ref a0), (1, .int i1), (2, .int i2), (4, .int i4), (5, .int i5), (6, .int (i6 + (1 : Int32)))] : ALv)).Nodup from (by show ([0, 1, 2, 4, 5, 6] : List Nat).Nodup; decide)) (aSubL_cons rfl (aSubL_cons rfl (aSubL_cons rfl (aSubL_cons rfl (aSubL_cons rfl (aSubL_cons rfl aSubL_nil))))))) ?_
      exact ih a0 ha0 a3 ha3 i1 i2 i4 i5 (i6 + (1 : Int32)) r73_1.2 _ h
def f30_b52 (kad : Nat → Nat) (N : Nat) (Z : AZ) (a0 : Nat) (a3 : Nat) (i1 : Int32) (i2 : Int32) (i4 : Int32) (i5 : Int32) (s0 : Int32) (s1 : Int32) (I : AI) : Option (Unit × AI) :=
  (f34 kad N Z a0 s1 s0 i5 I).bind fun r54_1 =>
  f30_b60 kad N Z N a0 a3 i1 i2 i4 i5 (0 : Int32) r54_1.2
set_option maxRecDepth 20000 in
theorem Tf30_b52 {kad : Nat → Nat} {N : Nat} {Z : AZ} {d : Nat} {t : Option Nat × (Nat × Nat)} (hd : 3 ≤ d) : ∀ (a0 : Nat) (ha0 : sh1 kad Z a0) (a3 : Nat) (ha3 : sh3 kad Z a3) (i1 : Int32) (i2 : Int32) (i4 : Int32) (i5 : Int32) (s0 : Int32) (s1 : Int32) (I : AI) (r : Unit × AI), f30_b52 kad N Z a0 a3 i1 i2 i4 i5 s0 s1 I = some r → aGo kad d 30 (52, ([(0, .ref a0), (1, .int i1), (2, .int i2), (4, .int i4), (5, .int i5)], [.int s0, .int s1, .ref a0])) (aMem Z I, t) (qV Z t r) := by
  intro a0 ha0 a3 ha3 i1 i2 i4 i5 s0 s1 I r h
  unfold f30_b52 at h
  refine go_ops aMi30 1 _ (f1 := (54, ([(0, .ref a0), (1, .int i1), (2, .int i2), (4, .int i4), (5, .int i5)], [.int i5, .int s0, .int s1, .ref a0]))) rfl ?_
  obtain ⟨r54_1, hxr54_1, h⟩ := Option.bind_eq_some_iff.mp h
  refine gg_cv (as := [.int s1, .int s0, .int i5]) (r := []) aMi30 rfl rfl rfl aMi34 (Nat.le_of_ble_eq_true rfl) rfl (Nat.le_of_ble_eq_true rfl) (Nat.le_of_ble_eq_true rfl) (by omega) (isK_of (sh1_z ha0)) (Tf34 (by omega) a0 ha0 s1 s0 i5 I _ hxr54_1) ?_
  show aGo kad d 30 (57, ([(0, .ref a0), (1, .int i1), (2, .int i2), (4, .int i4), (5, .int i5)], [])) (aMem Z r54_1.2, t) _
  refine go_ops aMi30 2 _ (f1 := (60, ([(6, .int (0 : Int32)), (0, .ref a0), (1, .int i1), (2, .int i2), (4, .int i4), (5, .int i5)], []))) rfl ?_
  refine go_le (lv1 := [(0, .ref a0), (1, .int i1), (2, .int i2), (4, .int i4), (5, .int i5), (6, .int (0 : Int32))]) (aLe_of (show (List.map (fun q => q.1) ([(0, .ref a0), (1, .int i1), (2, .int i2), (4, .int i4), (5, .int i5), (6, .int (0 : Int32))] : ALv)).Nodup from (by show ([0, 1, 2, 4, 5, 6] : List Nat).Nodup; decide)) (aSubL_cons rfl (aSubL_cons rfl (aSubL_cons rfl (aSubL_cons rfl (aSubL_cons rfl (aSubL_cons rfl aSubL_nil))))))) ?_
  exact Tf30_b60 hd N a0 ha0 a3 ha3 i1 i2 i4 i5 (0 : Int32) r54_1.2 _ h
def f30 (kad : Nat → Nat) (N : Nat) (Z : AZ) (a0 : Nat) (i1 : Int32) (i2 : Int32) (a3 : Nat) (I : AI) : Option (Unit × AI) :=
  (f50 kad N Z a3 i1 (1 : Int32) I).bind fun r3_1 =>
  (f53 kad N Z a3 i1 r3_1.1 r3_1.2).bind fun r12_2 =>
  (f28 kad N Z r3_1.1 r12_2.2).bind fun r19_3 =>
  if r19_3.1 = 0 then
    f30_b82 kad N Z a0 a3 i1 i2 r3_1.1 r12_2.1 r19_3.2
  else
    (f56 kad N Z a3 r19_3.2).bind fun r26_4 =>
    (f33 kad N Z a0 r26_4.1 (1 : Int32) r26_4.2).bind fun r35_5 =>
    if (8 : Int32) ≤ r3_1.1 then
      f30_b52 kad N Z a0 a3 i1 i2 r3_1.1 r26_4.1 (3 : Int32) i1 r35_5.2
    else
      f30_b52 kad N Z a0 a3 i1 i2 r3_1.1 r26_4.1 (2 : Int32) i1 r35_5.2
set_option maxRecDepth 20000 in
theorem Tf30 {kad : Nat → Nat} {N : Nat} {Z : AZ} {d : Nat} {t : Option Nat × (Nat × Nat)} (hd : 3 ≤ d) : ∀ (a0 : Nat) (ha0 : sh1 kad Z a0) (i1 : Int32) (i2 : Int32) (a3 : Nat) (ha3 : sh3 kad Z a3) (I : AI) (r : Unit × AI), f30 kad N Z a0 i1 i2 a3 I = some r → aGo kad d 30 (0, ([(0, .ref a0), (1, .int i1), (2, .int i2), (3, .ref a3)], [])) (aMem Z I, t) (qV Z t r) := by
  intro a0 ha0 i1 i2 a3 ha3 I r h
  unfold f30 at h
  refine go_ops aMi30 3 _ (f1 := (3, ([(0, .ref a0), (1, .int i1), (2, .int i2), (3, .ref a3)], [.int (1 : Int32), .int i1, .ref a3]))) rfl ?_
  obtain ⟨r3_1, hxr3_1, h⟩ := Option.bind_eq_some_iff.mp h
  refine gg_cv (as := [.int i1, .int (1 : Int32)]) (r := []) aMi30 rfl rfl rfl aMi50 (Nat.le_of_ble_eq_true rfl) rfl (Nat.le_of_ble_eq_true rfl) (Nat.le_of_ble_eq_true rfl) (by omega) (isK_of (sh3_z ha3)) (Tf50 (by omega) a3 ha3 i1 (1 : Int32) I _ hxr3_1) ?_
  show aGo kad d 30 (6, ([(0, .ref a0), (1, .int i1), (2, .int i2), (3, .ref a3)], [.int r3_1.1])) (aMem Z r3_1.2, t) _
  refine go_ops aMi30 4 _ (f1 := (12, ([(4, .int r3_1.1), (0, .ref a0), (1, .int i1), (2, .int i2), (3, .ref a3)], [.int r3_1.1, .int i1, .ref a3]))) rfl ?_
  obtain ⟨r12_2, hxr12_2, h⟩ := Option.bind_eq_some_iff.mp h
  refine gg_cv (as := [.int i1, .int r3_1.1]) (r := []) aMi30 rfl rfl rfl aMi53 (Nat.le_of_ble_eq_true rfl) rfl (Nat.le_of_ble_eq_true rfl) (Nat.le_of_ble_eq_true rfl) (by omega) (isK_of (sh3_z ha3)) (Tf53 (by omega) a3 ha3 i1 r3_1.1 r3_1.2 _ hxr12_2) ?_
  show aGo kad d 30 (15, ([(4, .int r3_1.1), (0, .ref a0), (1, .int i1), (2, .int i2), (3, .ref a3)], [.int r12_2.1])) (aMem Z r12_2.2, t) _
  refine go_ops aMi30 2 _ (f1 := (19, ([(5, .int r12_2.1), (4, .int r3_1.1), (0, .ref a0), (1, .int i1), (2, .int i2), (3, .ref a3)], [.int r3_1.1]))) rfl ?_
  obtain ⟨r19_3, hxr19_3, h⟩ := Option.bind_eq_some_iff.mp h
  refine gg_cs (as := [.int r3_1.1]) (r := []) aMi30 rfl rfl rfl aMi28 rfl (Nat.le_of_ble_eq_true rfl) (Nat.le_of_ble_eq_true rfl) (by omega) (Tf28 (by omega) r3_1.1 r12_2.2 _ hxr19_3) ?_
  show aGo kad d 30 (22, ([(5, .int r12_2.1), (4, .int r3_1.1), (0, .ref a0), (1, .int i1), (2, .int i2), (3, .ref a3)], [.int r19_3.1])) (aMem Z r19_3.2, t) _
  refine gg_br (b := decide (r19_3.1 = 0)) (tg := 82) (off := 60) aMi30 rfl rfl rfl rfl (fun hb => ?_) (fun hb => ?_)
  · rw [if_pos (of_decide_eq_true hb)] at h
    refine go_le (lv1 := [(0, .ref a0), (1, .int i1), (2, .int i2), (4, .int r3_1.1), (5, .int r12_2.1)]) (aLe_of (show (List.map (fun q => q.1) ([(0, .ref a0), (1, .int i1), (2, .int i2), (4, .int r3_1.1), (5, .int r12_2.1)] : ALv)).Nodup from (by show ([0, 1, 2, 4, 5] : List Nat).Nodup; decide)) (aSubL_cons rfl (aSubL_cons rfl (aSubL_cons rfl (aSubL_cons rfl (aSubL_cons rfl aSubL_nil)))))) ?_
    exact Tf30_b82 hd a0 ha0 a3 ha3 i1 i2 r3_1.1 r12_2.1 r19_3.2 _ h
  · rw [if_neg (of_decide_eq_false hb)] at h
    refine go_ops aMi30 1 _ (f1 := (26, ([(5, .int r12_2.1), (4, .int r3_1.1), (0, .ref a0), (1, .int i1), (2, .int i2), (3, .ref a3)], [.ref a3]))) rfl ?_
    obtain ⟨r26_4, hxr26_4, h⟩ := Option.bind_eq_some_iff.mp h
    refine gg_cv (as := []) (r := []) aMi30 rfl rfl rfl aMi56 (Nat.le_of_ble_eq_true rfl) rfl (Nat.le_of_ble_eq_true rfl) (Nat.le_of_ble_eq_true rfl) (by omega) (isK_of (sh3_z ha3)) (Tf56 (by omega) a3 ha3 r19_3.2 _ hxr26_4) ?_
    show aGo kad d 30 (29, ([(5, .int r12_2.1), (4, .int r3_1.1), (0, .ref a0), (1, .int i1), (2, .int i2), (3, .ref a3)], [.int r26_4.1])) (aMem Z r26_4.2, t) _
    refine go_ops aMi30 4 _ (f1 := (35, ([(5, .int r26_4.1), (4, .int r3_1.1), (0, .ref a0), (1, .int i1), (2, .int i2), (3, .ref a3)], [.int (1 : Int32), .int r26_4.1, .ref a0]))) rfl ?_
    obtain ⟨r35_5, hxr35_5, h⟩ := Option.bind_eq_some_iff.mp h
    refine gg_cv (as := [.int r26_4.1, .int (1 : Int32)]) (r := []) aMi30 rfl rfl rfl aMi33 (Nat.le_of_ble_eq_true rfl) rfl (Nat.le_of_ble_eq_true rfl) (Nat.le_of_ble_eq_true rfl) (by omega) (isK_of (sh1_z ha0)) (Tf33 (by omega) a0 ha0 r26_4.1 (1 : Int32) r26_4.2 _ hxr35_5) ?_
    show aGo kad d 30 (38, ([(5, .int r26_4.1), (4, .int r3_1.1), (0, .ref a0), (1, .int i1), (2, .int i2), (3, .ref a3)], [])) (aMem Z r35_5.2, t) _
    refine go_ops aMi30 4 _ (f1 := (44, ([(5, .int r26_4.1), (4, .int r3_1.1), (0, .ref a0), (1, .int i1), (2, .int i2), (3, .ref a3)], [.int (8 : Int32), .int r3_1.1, .int i1, .ref a0]))) rfl ?_
    refine gg_br (b := decide ((8 : Int32) ≤ r3_1.1)) (tg := 51) (off := 7) aMi30 rfl rfl rfl rfl (fun hb => ?_) (fun hb => ?_)
    · rw [if_pos (of_decide_eq_true hb)] at h
      refine go_ops aMi30 1 _ (f1 := (52, ([(5, .int r26_4.1), (4, .int r3_1.1), (0, .ref a0), (1, .int i1), (2, .int i2), (3, .ref a3)], [.int (3 : Int32), .int i1, .ref a0]))) rfl ?_
      refine go_le (lv1 := [(0, .ref a0), (1, .int i1), (2, .int i2), (4, .int r3_1.1), (5, .int r26_4.1)]) (aLe_of (show (List.map (fun q => q.1) ([(0, .ref a0), (1, .int i1), (2, .int i2), (4, .int r3_1.1), (5, .int r26_4.1)] : ALv)).Nodup from (by show ([0, 1, 2, 4, 5] : List Nat).Nodup; decide)) (aSubL_cons rfl (aSubL_cons rfl (aSubL_cons rfl (aSubL_cons rfl (aSubL_cons rfl aSubL_nil)))))) ?_
      exact Tf30_b52 hd a0 ha0 a3 ha3 i1 i2 r3_1.1 r26_4.1 (3 : Int32) i1 r35_5.2 _ h
    · rw [if_neg (of_decide_eq_false hb)] at h
      refine go_ops aMi30 2 _ (f1 := (52, ([(5, .int r26_4.1), (4, .int r3_1.1), (0, .ref a0), (1, .int i1), (2, .int i2), (3, .ref a3)], [.int (2 : Int32), .int i1, .ref a0]))) rfl ?_
      refine go_le (lv1 := [(0, .ref a0), (1, .int i1), (2, .int i2), (4, .int r3_1.1), (5, .int r26_4.1)]) (aLe_of (show (List.map (fun q => q.1) ([(0, .ref a0), (1, .int i1), (2, .int i2), (4, .int r3_1.1), (5, .int r26_4.1)] : ALv)).Nodup from (by show ([0, 1, 2, 4, 5] : List Nat).Nodup; decide)) (aSubL_cons rfl (aSubL_cons rfl (aSubL_cons rfl (aSubL_cons rfl (aSubL_cons rfl aSubL_nil)))))) ?_
      exact Tf30_b52 hd a0 ha0 a3 ha3 i1 i2 r3_1.1 r26_4.1 (2 : Int32) i1 r35_5.2 _ h
-- KernelGym$Disk.fileWord (II)I
def f54 (kad : Nat → Nat) (N : Nat) (Z : AZ) (a0 : Nat) (i1 : Int32) (i2 : Int32) (I : AI) : Option (Int32 × AI) :=
  (f53 kad N Z a0 i1 i2 I).bind fun r4_1 =>
  (f43 kad N Z a0 r4_1.1 (i2 - i2 / (8 : Int32) * (8 : Int32)) r4_1.2).bind fun r11_2 =>
  some (r11_2.1, r11_2.2)
set_option maxRecDepth 20000 in
theorem Tf54 {kad : Nat → Nat} {N : Nat} {Z : AZ} {d : Nat} {t : Option Nat × (Nat × Nat)} (hd : 3 ≤ d) : ∀ (a0 : Nat) (ha0 : sh3 kad Z a0) (i1 : Int32) (i2 : Int32) (I : AI) (r : Int32 × AI), f54 kad N Z a0 i1 i2 I = some r → aGo kad d 54 (0, ([(0, .ref a0), (1, .int i1), (2, .int i2)], [])) (aMem Z I, t) (qI Z t r) := by
  intro a0 ha0 i1 i2 I r h
  unfold f54 at h
  refine go_ops aMi54 4 _ (f1 := (4, ([(0, .ref a0), (1, .int i1), (2, .int i2)], [.int i2, .int i1, .ref a0, .ref a0]))) rfl ?_
  obtain ⟨r4_1, hxr4_1, h⟩ := Option.bind_eq_some_iff.mp h
  refine gg_cv (as := [.int i1, .int i2]) (r := [.ref a0]) aMi54 rfl rfl rfl aMi53 (Nat.le_of_ble_eq_true rfl) rfl (Nat.le_of_ble_eq_true rfl) (Nat.le_of_ble_eq_true rfl) (by omega) (isK_of (sh3_z ha0)) (Tf53 (by omega) a0 ha0 i1 i2 I _ hxr4_1) ?_
  show aGo kad d 54 (7, ([(0, .ref a0), (1, .int i1), (2, .int i2)], [.int r4_1.1, .ref a0])) (aMem Z r4_1.2, t) _
  refine go_ops aMi54 3 _ (f1 := (11, ([(0, .ref a0), (1, .int i1), (2, .int i2)], [.int (i2 - i2 / (8 : Int32) * (8 : Int32)), .int r4_1.1, .ref a0]))) rfl ?_
  obtain ⟨r11_2, hxr11_2, h⟩ := Option.bind_eq_some_iff.mp h
  refine gg_cv (as := [.int r4_1.1, .int (i2 - i2 / (8 : Int32) * (8 : Int32))]) (r := []) aMi54 rfl rfl rfl aMi43 (Nat.le_of_ble_eq_true rfl) rfl (Nat.le_of_ble_eq_true rfl) (Nat.le_of_ble_eq_true rfl) (by omega) (isK_of (sh3_z ha0)) (Tf43 (by omega) a0 ha0 r4_1.1 (i2 - i2 / (8 : Int32) * (8 : Int32)) r4_1.2 _ hxr11_2) ?_
  show aGo kad d 54 (14, ([(0, .ref a0), (1, .int i1), (2, .int i2)], [.int r11_2.1])) (aMem Z r11_2.2, t) _
  cases h
  exact go_ret aMi54 rfl aRetI ⟨rfl, rfl⟩
-- KernelGym$Clerk.remove (ILKernelGym$Disk;)V
def f31_b27 (kad : Nat → Nat) (N : Nat) (Z : AZ) (k2 : Nat → Nat → Int32 → Int32 → AI → Option (Unit × AI)) (a0 : Nat) (a2 : Nat) (i1 : Int32) (i3 : Int32) (I : AI) : Option (Unit × AI) :=
  k2 a0 a2 i1 (i3 + (1 : Int32)) I
set_option maxRecDepth 20000 in
theorem Tf31_b27 {kad : Nat → Nat} {N : Nat} {Z : AZ} {d : Nat} {t : Option Nat × (Nat × Nat)} (hd : 2 ≤ d) (k2 : Nat → Nat → Int32 → Int32 → AI → Option (Unit × AI))  (hk2 : ∀ (a0 : Nat) (ha0 : sh1 kad Z a0) (a2 : Nat) (ha2 : sh3 kad Z a2) (i1 : Int32) (i3 : Int32) (I : AI) (r : Unit × AI), k2 a0 a2 i1 i3 I = some r → aGo kad d 31 (2, ([(0, .ref a0), (1, .int i1), (2, .ref a2), (3, .int i3)], [])) (aMem Z I, t) (qV Z t r)) : ∀ (a0 : Nat) (ha0 : sh1 kad Z a0) (a2 : Nat) (ha2 : sh3 kad Z a2) (i1 : Int32) (i3 : Int32) (I : AI) (r : Unit × AI), f31_b27 kad N Z k2 a0 a2 i1 i3 I = some r → aGo kad d 31 (27, ([(0, .ref a0), (1, .int i1), (2, .ref a2), (3, .int i3)], [])) (aMem Z I, t) (qV Z t r) := by
  intro a0 ha0 a2 ha2 i1 i3 I r h
  unfold f31_b27 at h
  refine go_ops aMi31 2 _ (f1 := (2, ([(3, .int (i3 + (1 : Int32))), (0, .ref a0), (1, .int i1), (2, .ref a2)], []))) rfl ?_
  refine go_le (lv1 := [(0, .ref a0), (1, .int i1), (2, .ref a2), (3, .int (i3 + (1 : Int32)))]) (aLe_of (show (List.map (fun q => q.1) ([(0, .ref a0), (1, .int i1), (2, .ref a2), (3, .int (i3 + (1 : Int32)))] : ALv)).Nodup from (by show ([0, 1, 2, 3] : List Nat).Nodup; decide)) (aSubL_cons rfl (aSubL_cons rfl (aSubL_cons rfl (aSubL_cons rfl aSubL_nil))))) ?_
  exact hk2 a0 ha0 a2 ha2 i1 (i3 + (1 : Int32)) I _ h
def f31_b35 (kad : Nat → Nat) (N : Nat) (Z : AZ) : Nat → Nat → Nat → Int32 → Int32 → AI → Option (Unit × AI)
  | 0, _, _, _, _, _ => none
  | F + 1, a0, a2, i1, i3, I =>
    if (4 : Int32) ≤ i3 then
      some ((), I)
    else
      (f34 kad N Z a0 i1 i3 (0 : Int32) I).bind fun r44_1 =>
      f31_b35 kad N Z F a0 a2 i1 (i3 + (1 : Int32)) r44_1.2
set_option maxRecDepth 20000 in
theorem Tf31_b35 {kad : Nat → Nat} {N : Nat} {Z : AZ} {d : Nat} {t : Option Nat × (Nat × Nat)} (hd : 2 ≤ d) : ∀ (F : Nat) (a0 : Nat) (ha0 : sh1 kad Z a0) (a2 : Nat) (ha2 : sh3 kad Z a2) (i1 : Int32) (i3 : Int32) (I : AI) (r : Unit × AI), f31_b35 kad N Z F a0 a2 i1 i3 I = some r → aGo kad d 31 (35, ([(0, .ref a0), (1, .int i1), (3, .int i3)], [])) (aMem Z I, t) (qV Z t r) := by
  intro F
  induction F with
  | zero => intro a0 ha0 a2 ha2 i1 i3 I r h; cases h
  | succ F ih =>
    intro a0 ha0 a2 ha2 i1 i3 I r h
    unfold f31_b35 at h
    refine go_ops aMi31 2 _ (f1 := (37, ([(0, .ref a0), (1, .int i1), (3, .int i3)], [.int (4 : Int32), .int i3]))) rfl ?_
    refine gg_br (b := decide ((4 : Int32) ≤ i3)) (tg := 53) (off := 16) aMi31 rfl rfl rfl rfl (fun hb => ?_) (fun hb => ?_)
    · rw [if_pos (of_decide_eq_true hb)] at h
      cases h
      exact go_ret aMi31 rfl rfl ⟨rfl, rfl⟩
    · rw [if_neg (of_decide_eq_false hb)] at h
      refine go_ops aMi31 4 _ (f1 := (44, ([(0, .ref a0), (1, .int i1), (3, .int i3)], [.int (0 : Int32), .int i3, .int i1, .ref a0]))) rfl ?_
      obtain ⟨r44_1, hxr44_1, h⟩ := Option.bind_eq_some_iff.mp h
      refine gg_cv (as := [.int i1, .int i3, .int (0 : Int32)]) (r := []) aMi31 rfl rfl rfl aMi34 (Nat.le_of_ble_eq_true rfl) rfl (Nat.le_of_ble_eq_true rfl) (Nat.le_of_ble_eq_true rfl) (by omega) (isK_of (sh1_z ha0)) (Tf34 (by omega) a0 ha0 i1 i3 (0 : Int32) I _ hxr44_1) ?_
      show aGo kad d 31 (47, ([(0, .ref a0), (1, .int i1), (3, .int i3)], [])) (aMem Z r44_1.2, t) _
      refine go_ops aMi31 2 _ (f1 := (35, ([(3, .int (i3 + (1 : Int32))), (0, .ref a0), (1, .int i1)], []))) rfl ?_
      refine go_le (lv1 := [(0, .ref a0), (1, .int i1), (3, .int (i3 + (1 : Int32)))]) (aLe_of (show (List.map (fun q => q.1) ([(0, .ref a0), (1, .int i1), (3, .int (i3 + (1 : Int32)))] : ALv)).Nodup from (by show ([0, 1, 3] : List Nat).Nodup; decide)) (aSubL_cons rfl (aSubL_cons rfl (aSubL_cons rfl aSubL_nil)))) ?_
      exact ih a0 ha0 a2 ha2 i1 (i3 + (1 : Int32)) r44_1.2 _ h
def f31_b2 (kad : Nat → Nat) (N : Nat) (Z : AZ) : Nat → Nat → Nat → Int32 → Int32 → AI → Option (Unit × AI)
  | 0, _, _, _, _, _ => none
  | F + 1, a0, a2, i1, i3, I =>
    if (3 : Int32) < i3 then
      f31_b35 kad N Z N a0 a2 i1 (0 : Int32) I
    else
      (f50 kad N Z a2 i1 i3 I).bind fun r10_1 =>
      if r10_1.1 = 0 then
        f31_b27 kad N Z (fun p0 p1 p2 p3 I => f31_b2 kad N Z F p0 p1 p2 p3 I) a0 a2 i1 i3 r10_1.2
      else
        (f33 kad N Z a0 r10_1.1 (0 : Int32) r10_1.2).bind fun r24_2 =>
        f31_b27 kad N Z (fun p0 p1 p2 p3 I => f31_b2 kad N Z F p0 p1 p2 p3 I) a0 a2 i1 i3 r24_2.2
set_option maxRecDepth 20000 in
theorem Tf31_b2 {kad : Nat → Nat} {N : Nat} {Z : AZ} {d : Nat} {t : Option Nat × (Nat × Nat)} (hd : 2 ≤ d) : ∀ (F : Nat) (a0 : Nat) (ha0 : sh1 kad Z a0) (a2 : Nat) (ha2 : sh3 kad Z a2) (i1 : Int32) (i3 : Int32) (I : AI) (r : Unit × AI), f31_b2 kad N Z F a0 a2 i1 i3 I = some r → aGo kad d 31 (2, ([(0, .ref a0), (1, .int i1), (2, .ref a2), (3, .int i3)], [])) (aMem Z I, t) (qV Z t r) := by
  intro F
  induction F with
  | zero => intro a0 ha0 a2 ha2 i1 i3 I r h; cases h
  | succ F ih =>
    intro a0 ha0 a2 ha2 i1 i3 I r h
    unfold f31_b2 at h
    refine go_ops aMi31 2 _ (f1 := (4, ([(0, .ref a0), (1, .int i1), (2, .ref a2), (3, .int i3)], [.int (3 : Int32), .int i3]))) rfl ?_
    refine gg_br (b := decide ((3 : Int32) < i3)) (tg := 33) (off := 29) aMi31 rfl rfl rfl rfl (fun hb => ?_) (fun hb => ?_)
    · rw [if_pos (of_decide_eq_true hb)] at h
      refine go_ops aMi31 2 _ (f1 := (35, ([(3, .int (0 : Int32)), (0, .ref a0), (1, .int i1), (2, .ref a2)], []))) rfl ?_
      refine go_le (lv1 := [(0, .ref a0), (1, .int i1), (3, .int (0 : Int32))]) (aLe_of (show (List.map (fun q => q.1) ([(0, .ref a0), (1, .int i1), (3, .int (0 : Int32))] : ALv)).Nodup from (by show ([0, 1, 3] : List Nat).Nodup; decide)) (aSubL_cons rfl (aSubL_cons rfl (aSubL_cons rfl aSubL_nil)))) ?_
      exact Tf31_b35 hd N a0 ha0 a2 ha2 i1 (0 : Int32) I _ h
    · rw [if_neg (of_decide_eq_false hb)] at h
      refine go_ops aMi31 3 _ (f1 := (10, ([(0, .ref a0), (1, .int i1), (2, .ref a2), (3, .int i3)], [.int i3, .int i1, .ref a2]))) rfl ?_
      obtain ⟨r10_1, hxr10_1, h⟩ := Option.bind_eq_some_iff.mp h
      refine gg_cv (as := [.int i1, .int i3]) (r := []) aMi31 rfl rfl rfl aMi50 (Nat.le_of_ble_eq_true rfl) rfl (Nat.le_of_ble_eq_true rfl) (Nat.le_of_ble_eq_true rfl) (by omega) (isK_of (sh3_z ha2)) (Tf50 (by omega) a2 ha2 i1 i3 I _ hxr10_1) ?_
      show aGo kad d 31 (13, ([(0, .ref a0), (1, .int i1), (2, .ref a2), (3, .int i3)], [.int r10_1.1])) (aMem Z r10_1.2, t) _
      refine go_ops aMi31 2 _ (f1 := (17, ([(4, .int r10_1.1), (0, .ref a0), (1, .int i1), (2, .ref a2), (3, .int i3)], [.int r10_1.1]))) rfl ?_
      refine gg_br (b := decide (r10_1.1 = 0)) (tg := 27) (off := 10) aMi31 rfl rfl rfl rfl (fun hb => ?_) (fun hb => ?_)
      · rw [if_pos (of_decide_eq_true hb)] at h
        refine go_le (lv1 := [(0, .ref a0), (1, .int i1), (2, .ref a2), (3, .int i3)]) (aLe_of (show (List.map (fun q => q.1) ([(0, .ref a0), (1, .int i1), (2, .ref a2), (3, .int i3)] : ALv)).Nodup from (by show ([0, 1, 2, 3] : List Nat).Nodup; decide)) (aSubL_cons rfl (aSubL_cons rfl (aSubL_cons rfl (aSubL_cons rfl aSubL_nil))))) ?_
        exact Tf31_b27 hd (fun p0 p1 p2 p3 I => f31_b2 kad N Z F p0 p1 p2 p3 I) (fun p0 q0 p1 q1 p2 p3 I r hh => ih p0 q0 p1 q1 p2 p3 I r hh) a0 ha0 a2 ha2 i1 i3 r10_1.2 _ h
      · rw [if_neg (of_decide_eq_false hb)] at h
        refine go_ops aMi31 3 _ (f1 := (24, ([(4, .int r10_1.1), (0, .ref a0), (1, .int i1), (2, .ref a2), (3, .int i3)], [.int (0 : Int32), .int r10_1.1, .ref a0]))) rfl ?_
        obtain ⟨r24_2, hxr24_2, h⟩ := Option.bind_eq_some_iff.mp h
        refine gg_cv (as := [.int r10_1.1, .int (0 : Int32)]) (r := []) aMi31 rfl rfl rfl aMi33 (Nat.le_of_ble_eq_true rfl) rfl (Nat.le_of_ble_eq_true rfl) (Nat.le_of_ble_eq_true rfl) (by omega) (isK_of (sh1_z ha0)) (Tf33 (by omega) a0 ha0 r10_1.1 (0 : Int32) r10_1.2 _ hxr24_2) ?_
        show aGo kad d 31 (27, ([(4, .int r10_1.1), (0, .ref a0), (1, .int i1), (2, .ref a2), (3, .int i3)], [])) (aMem Z r24_2.2, t) _
        refine go_le (lv1 := [(0, .ref a0), (1, .int i1), (2, .ref a2), (3, .int i3)]) (aLe_of (show (List.map (fun q => q.1) ([(0, .ref a0), (1, .int i1), (2, .ref a2), (3, .int i3)] : ALv)).Nodup from (by show ([0, 1, 2, 3] : List Nat).Nodup; decide)) (aSubL_cons rfl (aSubL_cons rfl (aSubL_cons rfl (aSubL_cons rfl aSubL_nil))))) ?_
        exact Tf31_b27 hd (fun p0 p1 p2 p3 I => f31_b2 kad N Z F p0 p1 p2 p3 I) (fun p0 q0 p1 q1 p2 p3 I r hh => ih p0 q0 p1 q1 p2 p3 I r hh) a0 ha0 a2 ha2 i1 i3 r24_2.2 _ h
def f31 (kad : Nat → Nat) (N : Nat) (Z : AZ) (a0 : Nat) (i1 : Int32) (a2 : Nat) (I : AI) : Option (Unit × AI) :=
  f31_b2 kad N Z N a0 a2 i1 (2 : Int32) I
set_option maxRecDepth 20000 in
theorem Tf31 {kad : Nat → Nat} {N : Nat} {Z : AZ} {d : Nat} {t : Option Nat × (Nat × Nat)} (hd : 2 ≤ d) : ∀ (a0 : Nat) (ha0 : sh1 kad Z a0) (i1 : Int32) (a2 : Nat) (ha2 : sh3 kad Z a2) (I : AI) (r : Unit × AI), f31 kad N Z a0 i1 a2 I = some r → aGo kad d 31 (0, ([(0, .ref a0), (1, .int i1), (2, .ref a2)], [])) (aMem Z I, t) (qV Z t r) := by
  intro a0 ha0 i1 a2 ha2 I r h
  unfold f31 at h
  refine go_ops aMi31 2 _ (f1 := (2, ([(3, .int (2 : Int32)), (0, .ref a0), (1, .int i1), (2, .ref a2)], []))) rfl ?_
  refine go_le (lv1 := [(0, .ref a0), (1, .int i1), (2, .ref a2), (3, .int (2 : Int32))]) (aLe_of (show (List.map (fun q => q.1) ([(0, .ref a0), (1, .int i1), (2, .ref a2), (3, .int (2 : Int32))] : ALv)).Nodup from (by show ([0, 1, 2, 3] : List Nat).Nodup; decide)) (aSubL_cons rfl (aSubL_cons rfl (aSubL_cons rfl (aSubL_cons rfl aSubL_nil))))) ?_
  exact Tf31_b2 hd N a0 ha0 a2 ha2 i1 (2 : Int32) I _ h
-- KernelGym$Clerk.rename (IILKernelGym$Disk;)V
def f32_b26 (kad : Nat → Nat) (N : Nat) (Z : AZ) (a0 : Nat) (a3 : Nat) (i1 : Int32) (i2 : Int32) (I : AI) : Option (Unit × AI) :=
  (f34 kad N Z a0 i1 (0 : Int32) i2 I).bind fun r30_1 =>
  some ((), r30_1.2)
set_option maxRecDepth 20000 in
theorem Tf32_b26 {kad : Nat → Nat} {N : Nat} {Z : AZ} {d : Nat} {t : Option Nat × (Nat × Nat)} (hd : 3 ≤ d) : ∀ (a0 : Nat) (ha0 : sh1 kad Z a0) (a3 : Nat) (ha3 : sh3 kad Z a3) (i1 : Int32) (i2 : Int32) (I : AI) (r : Unit × AI), f32_b26 kad N Z a0 a3 i1 i2 I = some r → aGo kad d 32 (26, ([(0, .ref a0), (1, .int i1), (2, .int i2)], [])) (aMem Z I, t) (qV Z t r) := by
  intro a0 ha0 a3 ha3 i1 i2 I r h
  unfold f32_b26 at h
  refine go_ops aMi32 4 _ (f1 := (30, ([(0, .ref a0), (1, .int i1), (2, .int i2)], [.int i2, .int (0 : Int32), .int i1, .ref a0]))) rfl ?_
  obtain ⟨r30_1, hxr30_1, h⟩ := Option.bind_eq_some_iff.mp h
  refine gg_cv (as := [.int i1, .int (0 : Int32), .int i2]) (r := []) aMi32 rfl rfl rfl aMi34 (Nat.le_of_ble_eq_true rfl) rfl (Nat.le_of_ble_eq_true rfl) (Nat.le_of_ble_eq_true rfl) (by omega) (isK_of (sh1_z ha0)) (Tf34 (by omega) a0 ha0 i1 (0 : Int32) i2 I _ hxr30_1) ?_
  show aGo kad d 32 (33, ([(0, .ref a0), (1, .int i1), (2, .int i2)], [])) (aMem Z r30_1.2, t) _
  cases h
  exact go_ret aMi32 rfl rfl ⟨rfl, rfl⟩
def f32 (kad : Nat → Nat) (N : Nat) (Z : AZ) (a0 : Nat) (i1 : Int32) (i2 : Int32) (a3 : Nat) (I : AI) : Option (Unit × AI) :=
  (f51 kad N Z a3 i2 I).bind fun r2_1 =>
  if ¬ r2_1.1 = i1 then
    if r2_1.1 < 0 then
      f32_b26 kad N Z a0 a3 i1 i2 r2_1.2
    else
      (f31 kad N Z a0 r2_1.1 a3 r2_1.2).bind fun r23_2 =>
      f32_b26 kad N Z a0 a3 i1 i2 r23_2.2
  else
    some ((), r2_1.2)
set_option maxRecDepth 20000 in
theorem Tf32 {kad : Nat → Nat} {N : Nat} {Z : AZ} {d : Nat} {t : Option Nat × (Nat × Nat)} (hd : 3 ≤ d) : ∀ (a0 : Nat) (ha0 : sh1 kad Z a0) (i1 : Int32) (i2 : Int32) (a3 : Nat) (ha3 : sh3 kad Z a3) (I : AI) (r : Unit × AI), f32 kad N Z a0 i1 i2 a3 I = some r → aGo kad d 32 (0, ([(0, .ref a0), (1, .int i1), (2, .int i2), (3, .ref a3)], [])) (aMem Z I, t) (qV Z t r) := by
  intro a0 ha0 i1 i2 a3 ha3 I r h
  unfold f32 at h
  refine go_ops aMi32 2 _ (f1 := (2, ([(0, .ref a0), (1, .int i1), (2, .int i2), (3, .ref a3)], [.int i2, .ref a3]))) rfl ?_
  obtain ⟨r2_1, hxr2_1, h⟩ := Option.bind_eq_some_iff.mp h
  refine gg_cv (as := [.int i2]) (r := []) aMi32 rfl rfl rfl aMi51 (Nat.le_of_ble_eq_true rfl) rfl (Nat.le_of_ble_eq_true rfl) (Nat.le_of_ble_eq_true rfl) (by omega) (isK_of (sh3_z ha3)) (Tf51 (by omega) a3 ha3 i2 I _ hxr2_1) ?_
  show aGo kad d 32 (5, ([(0, .ref a0), (1, .int i1), (2, .int i2), (3, .ref a3)], [.int r2_1.1])) (aMem Z r2_1.2, t) _
  refine go_ops aMi32 3 _ (f1 := (10, ([(4, .int r2_1.1), (0, .ref a0), (1, .int i1), (2, .int i2), (3, .ref a3)], [.int i1, .int r2_1.1]))) rfl ?_
  refine gg_br (b := decide (¬ r2_1.1 = i1)) (tg := 14) (off := 4) aMi32 rfl rfl rfl rfl (fun hb => ?_) (fun hb => ?_)
  · rw [if_pos (of_decide_eq_true hb)] at h
    refine go_ops aMi32 1 _ (f1 := (16, ([(4, .int r2_1.1), (0, .ref a0), (1, .int i1), (2, .int i2), (3, .ref a3)], [.int r2_1.1]))) rfl ?_
    refine gg_br (b := decide (r2_1.1 < 0)) (tg := 26) (off := 10) aMi32 rfl rfl rfl rfl (fun hb => ?_) (fun hb => ?_)
    · rw [if_pos (of_decide_eq_true hb)] at h
      refine go_le (lv1 := [(0, .ref a0), (1, .int i1), (2, .int i2)]) (aLe_of (show (List.map (fun q => q.1) ([(0, .ref a0), (1, .int i1), (2, .int i2)] : ALv)).Nodup from (by show ([0, 1, 2] : List Nat).Nodup; decide)) (aSubL_cons rfl (aSubL_cons rfl (aSubL_cons rfl aSubL_nil)))) ?_
      exact Tf32_b26 hd a0 ha0 a3 ha3 i1 i2 r2_1.2 _ h
    · rw [if_neg (of_decide_eq_false hb)] at h
      refine go_ops aMi32 3 _ (f1 := (23, ([(4, .int r2_1.1), (0, .ref a0), (1, .int i1), (2, .int i2), (3, .ref a3)], [.ref a3, .int r2_1.1, .ref a0]))) rfl ?_
      obtain ⟨r23_2, hxr23_2, h⟩ := Option.bind_eq_some_iff.mp h
      refine gg_cv (as := [.int r2_1.1, .ref a3]) (r := []) aMi32 rfl rfl rfl aMi31 (Nat.le_of_ble_eq_true rfl) rfl (Nat.le_of_ble_eq_true rfl) (Nat.le_of_ble_eq_true rfl) (by omega) (isK_of (sh1_z ha0)) (Tf31 (by omega) a0 ha0 r2_1.1 a3 ha3 r2_1.2 _ hxr23_2) ?_
      show aGo kad d 32 (26, ([(4, .int r2_1.1), (0, .ref a0), (1, .int i1), (2, .int i2), (3, .ref a3)], [])) (aMem Z r23_2.2, t) _
      refine go_le (lv1 := [(0, .ref a0), (1, .int i1), (2, .int i2)]) (aLe_of (show (List.map (fun q => q.1) ([(0, .ref a0), (1, .int i1), (2, .int i2)] : ALv)).Nodup from (by show ([0, 1, 2] : List Nat).Nodup; decide)) (aSubL_cons rfl (aSubL_cons rfl (aSubL_cons rfl aSubL_nil)))) ?_
      exact Tf32_b26 hd a0 ha0 a3 ha3 i1 i2 r23_2.2 _ h
  · rw [if_neg (of_decide_eq_false hb)] at h
    cases h
    exact go_ret aMi32 rfl rfl ⟨rfl, rfl⟩
-- KernelGym$Clerk.carryOut (IILKernelGym$Core;LKernelGym$Disk;)V
def f29_b156 (kad : Nat → Nat) (N : Nat) (Z : AZ) (a0 : Nat) (a3 : Nat) (a4 : Nat) (I : AI) : Option (Unit × AI) :=
  some ((), I)
set_option maxRecDepth 20000 in
theorem Tf29_b156 {kad : Nat → Nat} {N : Nat} {Z : AZ} {d : Nat} {t : Option Nat × (Nat × Nat)} (hd : 4 ≤ d) : ∀ (a0 : Nat) (ha0 : sh1 kad Z a0) (a3 : Nat) (ha3 : sh2 kad Z a3) (a4 : Nat) (ha4 : sh3 kad Z a4) (I : AI) (r : Unit × AI), f29_b156 kad N Z a0 a3 a4 I = some r → aGo kad d 29 (156, ([], [])) (aMem Z I, t) (qV Z t r) := by
  intro a0 ha0 a3 ha3 a4 ha4 I r h
  unfold f29_b156 at h
  cases h
  exact go_ret aMi29 rfl rfl ⟨rfl, rfl⟩
def f29 (kad : Nat → Nat) (N : Nat) (Z : AZ) (a0 : Nat) (i1 : Int32) (i2 : Int32) (a3 : Nat) (a4 : Nat) (I : AI) : Option (Unit × AI) :=
  if i1 = (0 : Int32) then
    (f51 kad N Z a4 (0 : Int32) I).bind fun r48_1 =>
    (ixA 4 (0 : Int32)).bind fun j55_2 =>
    (f34 kad N Z a0 r48_1.1 (0 : Int32) (r48_1.2 (a3 + 1) j55_2) r48_1.2).bind fun r56_3 =>
    f29_b156 kad N Z a0 a3 a4 r56_3.2
  else
  if i1 = (1 : Int32) then
    (ixA 4 (1 : Int32)).bind fun j67_4 =>
    (f30 kad N Z a0 i2 (I (a3 + 1) j67_4) a4 I).bind fun r70_5 =>
    f29_b156 kad N Z a0 a3 a4 r70_5.2
  else
  if i1 = (2 : Int32) then
    (ixA 4 (1 : Int32)).bind fun j83_6 =>
    (f53 kad N Z a4 i2 (I (a3 + 1) j83_6) I).bind fun r84_7 =>
    (ixA 4 (1 : Int32)).bind fun j90_8 =>
    (ixA 4 (2 : Int32)).bind fun j97_9 =>
    (f35 kad N Z a0 r84_7.1 ((r84_7.2 (a3 + 1) j90_8) - (r84_7.2 (a3 + 1) j90_8) / (8 : Int32) * (8 : Int32)) (r84_7.2 (a3 + 1) j97_9) r84_7.2).bind fun r98_10 =>
    f29_b156 kad N Z a0 a3 a4 r98_10.2
  else
  if i1 = (3 : Int32) then
    (ixA 4 (1 : Int32)).bind fun j113_11 =>
    (f54 kad N Z a4 i2 (I (a3 + 1) j113_11) I).bind fun r114_12 =>
    (ixA 4 (2 : Int32)).bind fun j117_14 =>
    (wI r114_12.2 (a3 + 1) j117_14 r114_12.1).bind fun I117_13 =>
    f29_b156 kad N Z a0 a3 a4 I117_13
  else
  if i1 = (4 : Int32) then
    (f50 kad N Z a4 i2 (1 : Int32) I).bind fun r128_15 =>
    (ixA 4 (1 : Int32)).bind fun j131_17 =>
    (wI r128_15.2 (a3 + 1) j131_17 r128_15.1).bind fun I131_16 =>
    f29_b156 kad N Z a0 a3 a4 I131_16
  else
  if i1 = (5 : Int32) then
    (f31 kad N Z a0 i2 a4 I).bind fun r139_18 =>
    f29_b156 kad N Z a0 a3 a4 r139_18.2
  else
    (ixA 4 (1 : Int32)).bind fun j150_19 =>
    (f32 kad N Z a0 i2 (I (a3 + 1) j150_19) a4 I).bind fun r153_20 =>
    f29_b156 kad N Z a0 a3 a4 r153_20.2
set_option maxRecDepth 20000 in
theorem Tf29 {kad : Nat → Nat} {N : Nat} {Z : AZ} {d : Nat} {t : Option Nat × (Nat × Nat)} (hd : 4 ≤ d) : ∀ (a0 : Nat) (ha0 : sh1 kad Z a0) (i1 : Int32) (i2 : Int32) (a3 : Nat) (ha3 : sh2 kad Z a3) (a4 : Nat) (ha4 : sh3 kad Z a4) (I : AI) (r : Unit × AI), f29 kad N Z a0 i1 i2 a3 a4 I = some r → aGo kad d 29 (0, ([(0, .ref a0), (1, .int i1), (2, .int i2), (3, .ref a3), (4, .ref a4)], [])) (aMem Z I, t) (qV Z t r) := by
  intro a0 ha0 i1 i2 a3 ha3 a4 ha4 I r h
  unfold f29 at h
  refine go_ops aMi29 1 _ (f1 := (1, ([(0, .ref a0), (1, .int i1), (2, .int i2), (3, .ref a3), (4, .ref a4)], [.ref a3]))) rfl ?_
  refine gg_gR (b := (a3 + 1)) aMi29 rfl rfl rfl (gR_of (sh2_z ha3) (sh2_r14 ha3)) ?_
  refine go_ops aMi29 2 _ (f1 := (7, ([(5, .ref (a3 + 1)), (0, .ref a0), (1, .int i1), (2, .int i2), (3, .ref a3), (4, .ref a4)], [.int i1]))) rfl ?_
  by_cases hs0 : i1 = (0 : Int32)
  · rw [if_pos hs0] at h
    refine go_sw (f1 := (44, ([(5, .ref (a3 + 1)), (0, .ref a0), (1, .int i1), (2, .int i2), (3, .ref a3), (4, .ref a4)], []))) aMi29 rfl (by rw [hs0]; rfl) ?_
    refine go_ops aMi29 3 _ (f1 := (48, ([(5, .ref (a3 + 1)), (0, .ref a0), (1, .int i1), (2, .int i2), (3, .ref a3), (4, .ref a4)], [.int (0 : Int32), .ref a4, .ref a0]))) rfl ?_
    obtain ⟨r48_1, hxr48_1, h⟩ := Option.bind_eq_some_iff.mp h
    refine gg_cv (as := [.int (0 : Int32)]) (r := [.ref a0]) aMi29 rfl rfl rfl aMi51 (Nat.le_of_ble_eq_true rfl) rfl (Nat.le_of_ble_eq_true rfl) (Nat.le_of_ble_eq_true rfl) (by omega) (isK_of (sh3_z ha4)) (Tf51 (by omega) a4 ha4 (0 : Int32) I _ hxr48_1) ?_
    show aGo kad d 29 (51, ([(5, .ref (a3 + 1)), (0, .ref a0), (1, .int i1), (2, .int i2), (3, .ref a3), (4, .ref a4)], [.int r48_1.1, .ref a0])) (aMem Z r48_1.2, t) _
    refine go_ops aMi29 3 _ (f1 := (55, ([(5, .ref (a3 + 1)), (0, .ref a0), (1, .int i1), (2, .int i2), (3, .ref a3), (4, .ref a4)], [.int (0 : Int32), .ref (a3 + 1), .int (0 : Int32), .int r48_1.1, .ref a0]))) rfl ?_
    obtain ⟨j55_2, hxj55_2, h⟩ := Option.bind_eq_some_iff.mp h
    refine gg_lI (Or.inl ⟨rfl, rfl⟩) aMi29 rfl (lI_of (sh2_a14 ha3) hxj55_2) ?_
    obtain ⟨r56_3, hxr56_3, h⟩ := Option.bind_eq_some_iff.mp h
    refine gg_cv (as := [.int r48_1.1, .int (0 : Int32), .int (r48_1.2 (a3 + 1) j55_2)]) (r := []) aMi29 rfl rfl rfl aMi34 (Nat.le_of_ble_eq_true rfl) rfl (Nat.le_of_ble_eq_true rfl) (Nat.le_of_ble_eq_true rfl) (by omega) (isK_of (sh1_z ha0)) (Tf34 (by omega) a0 ha0 r48_1.1 (0 : Int32) (r48_1.2 (a3 + 1) j55_2) r48_1.2 _ hxr56_3) ?_
    show aGo kad d 29 (59, ([(5, .ref (a3 + 1)), (0, .ref a0), (1, .int i1), (2, .int i2), (3, .ref a3), (4, .ref a4)], [])) (aMem Z r56_3.2, t) _
    refine go_ops aMi29 1 _ (f1 := (156, ([(5, .ref (a3 + 1)), (0, .ref a0), (1, .int i1), (2, .int i2), (3, .ref a3), (4, .ref a4)], []))) rfl ?_
    refine go_le (lv1 := []) (aLe_of (show (List.map (fun q => q.1) ([] : ALv)).Nodup from (by show ([] : List Nat).Nodup; decide)) aSubL_nil) ?_
    exact Tf29_b156 hd a0 ha0 a3 ha3 a4 ha4 r56_3.2 _ h
  rw [if_neg hs0] at h
  by_cases hs1 : i1 = (1 : Int32)
  · rw [if_pos hs1] at h
    refine go_sw (f1 := (62, ([(5, .ref (a3 + 1)), (0, .ref a0), (1, .int i1), (2, .int i2), (3, .ref a3), (4, .ref a4)], []))) aMi29 rfl (by rw [hs1]; rfl) ?_
    refine go_ops aMi29 4 _ (f1 := (67, ([(5, .ref (a3 + 1)), (0, .ref a0), (1, .int i1), (2, .int i2), (3, .ref a3), (4, .ref a4)], [.int (1 : Int32), .ref (a3 + 1), .int i2, .ref a0]))) rfl ?_
    obtain ⟨j67_4, hxj67_4, h⟩ := Option.bind_eq_some_iff.mp h
    refine gg_lI (Or.inl ⟨rfl, rfl⟩) aMi29 rfl (lI_of (sh2_a14 ha3) hxj67_4) ?_
    refine go_ops aMi29 1 _ (f1 := (70, ([(5, .ref (a3 + 1)), (0, .ref a0), (1, .int i1), (2, .int i2), (3, .ref a3), (4, .ref a4)], [.ref a4, .int (I (a3 + 1) j67_4), .int i2, .ref a0]))) rfl ?_
    obtain ⟨r70_5, hxr70_5, h⟩ := Option.bind_eq_some_iff.mp h
    refine gg_cv (as := [.int i2, .int (I (a3 + 1) j67_4), .ref a4]) (r := []) aMi29 rfl rfl rfl aMi30 (Nat.le_of_ble_eq_true rfl) rfl (Nat.le_of_ble_eq_true rfl) (Nat.le_of_ble_eq_true rfl) (by omega) (isK_of (sh1_z ha0)) (Tf30 (by omega) a0 ha0 i2 (I (a3 + 1) j67_4) a4 ha4 I _ hxr70_5) ?_
    show aGo kad d 29 (73, ([(5, .ref (a3 + 1)), (0, .ref a0), (1, .int i1), (2, .int i2), (3, .ref a3), (4, .ref a4)], [])) (aMem Z r70_5.2, t) _
    refine go_ops aMi29 1 _ (f1 := (156, ([(5, .ref (a3 + 1)), (0, .ref a0), (1, .int i1), (2, .int i2), (3, .ref a3), (4, .ref a4)], []))) rfl ?_
    refine go_le (lv1 := []) (aLe_of (show (List.map (fun q => q.1) ([] : ALv)).Nodup from (by show ([] : List Nat).Nodup; decide)) aSubL_nil) ?_
    exact Tf29_b156 hd a0 ha0 a3 ha3 a4 ha4 r70_5.2 _ h
  rw [if_neg hs1] at h
  by_cases hs2 : i1 = (2 : Int32)
  · rw [if_pos hs2] at h
    refine go_sw (f1 := (76, ([(5, .ref (a3 + 1)), (0, .ref a0), (1, .int i1), (2, .int i2), (3, .ref a3), (4, .ref a4)], []))) aMi29 rfl (by rw [hs2]; rfl) ?_
    refine go_ops aMi29 5 _ (f1 := (83, ([(5, .ref (a3 + 1)), (0, .ref a0), (1, .int i1), (2, .int i2), (3, .ref a3), (4, .ref a4)], [.int (1 : Int32), .ref (a3 + 1), .int i2, .ref a4, .ref a0]))) rfl ?_
    obtain ⟨j83_6, hxj83_6, h⟩ := Option.bind_eq_some_iff.mp h
    refine gg_lI (Or.inl ⟨rfl, rfl⟩) aMi29 rfl (lI_of (sh2_a14 ha3) hxj83_6) ?_
    obtain ⟨r84_7, hxr84_7, h⟩ := Option.bind_eq_some_iff.mp h
    refine gg_cv (as := [.int i2, .int (I (a3 + 1) j83_6)]) (r := [.ref a0]) aMi29 rfl rfl rfl aMi53 (Nat.le_of_ble_eq_true rfl) rfl (Nat.le_of_ble_eq_true rfl) (Nat.le_of_ble_eq_true rfl) (by omega) (isK_of (sh3_z ha4)) (Tf53 (by omega) a4 ha4 i2 (I (a3 + 1) j83_6) I _ hxr84_7) ?_
    show aGo kad d 29 (87, ([(5, .ref (a3 + 1)), (0, .ref a0), (1, .int i1), (2, .int i2), (3, .ref a3), (4, .ref a4)], [.int r84_7.1, .ref a0])) (aMem Z r84_7.2, t) _
    refine go_ops aMi29 2 _ (f1 := (90, ([(5, .ref (a3 + 1)), (0, .ref a0), (1, .int i1), (2, .int i2), (3, .ref a3), (4, .ref a4)], [.int (1 : Int32), .ref (a3 + 1), .int r84_7.1, .ref a0]))) rfl ?_
    obtain ⟨j90_8, hxj90_8, h⟩ := Option.bind_eq_some_iff.mp h
    refine gg_lI (Or.inl ⟨rfl, rfl⟩) aMi29 rfl (lI_of (sh2_a14 ha3) hxj90_8) ?_
    refine go_ops aMi29 4 _ (f1 := (97, ([(5, .ref (a3 + 1)), (0, .ref a0), (1, .int i1), (2, .int i2), (3, .ref a3), (4, .ref a4)], [.int (2 : Int32), .ref (a3 + 1), .int ((r84_7.2 (a3 + 1) j90_8) - (r84_7.2 (a3 + 1) j90_8) / (8 : Int32) * (8 : Int32)), .int r84_7.1, .ref a0]))) rfl ?_
    obtain ⟨j97_9, hxj97_9, h⟩ := Option.bind_eq_some_iff.mp h
    refine gg_lI (Or.inl ⟨rfl, rfl⟩) aMi29 rfl (lI_of (sh2_a14 ha3) hxj97_9) ?_
    obtain ⟨r98_10, hxr98_10, h⟩ := Option.bind_eq_some_iff.mp h
    refine gg_cv (as := [.int r84_7.1, .int ((r84_7.2 (a3 + 1) j90_8) - (r84_7.2 (a3 + 1) j90_8) / (8 : Int32) * (8 : Int32)), .int (r84_7.2 (a3 + 1) j97_9)]) (r := []) aMi29 rfl rfl rfl aMi35 (Nat.le_of_ble_eq_true rfl) rfl (Nat.le_of_ble_eq_true rfl) (Nat.le_of_ble_eq_true rfl) (by omega) (isK_of (sh1_z ha0)) (Tf35 (by omega) a0 ha0 r84_7.1 ((r84_7.2 (a3 + 1) j90_8) - (r84_7.2 (a3 + 1) j90_8) / (8 : Int32) * (8 : Int32)) (r84_7.2 (a3 + 1) j97_9) r84_7.2 _ hxr98_10) ?_
    show aGo kad d 29 (101, ([(5, .ref (a3 + 1)), (0, .ref a0), (1, .int i1), (2, .int i2), (3, .ref a3), (4, .ref a4)], [])) (aMem Z r98_10.2, t) _
    refine go_ops aMi29 1 _ (f1 := (156, ([(5, .ref (a3 + 1)), (0, .ref a0), (1, .int i1), (2, .int i2), (3, .ref a3), (4, .ref a4)], []))) rfl ?_
    refine go_le (lv1 := []) (aLe_of (show (List.map (fun q => q.1) ([] : ALv)).Nodup from (by show ([] : List Nat).Nodup; decide)) aSubL_nil) ?_
    exact Tf29_b156 hd a0 ha0 a3 ha3 a4 ha4 r98_10.2 _ h
  rw [if_neg hs2] at h
  by_cases hs3 : i1 = (3 : Int32)
  · rw [if_pos hs3] at h
    refine go_sw (f1 := (104, ([(5, .ref (a3 + 1)), (0, .ref a0), (1, .int i1), (2, .int i2), (3, .ref a3), (4, .ref a4)], []))) aMi29 rfl (by rw [hs3]; rfl) ?_
    refine go_ops aMi29 6 _ (f1 := (113, ([(5, .ref (a3 + 1)), (0, .ref a0), (1, .int i1), (2, .int i2), (3, .ref a3), (4, .ref a4)], [.int (1 : Int32), .ref (a3 + 1), .int i2, .ref a4, .int (2 : Int32), .ref (a3 + 1)]))) rfl ?_
    obtain ⟨j113_11, hxj113_11, h⟩ := Option.bind_eq_some_iff.mp h
    refine gg_lI (Or.inl ⟨rfl, rfl⟩) aMi29 rfl (lI_of (sh2_a14 ha3) hxj113_11) ?_
    obtain ⟨r114_12, hxr114_12, h⟩ := Option.bind_eq_some_iff.mp h
    refine gg_cv (as := [.int i2, .int (I (a3 + 1) j113_11)]) (r := [.int (2 : Int32), .ref (a3 + 1)]) aMi29 rfl rfl rfl aMi54 (Nat.le_of_ble_eq_true rfl) rfl (Nat.le_of_ble_eq_true rfl) (Nat.le_of_ble_eq_true rfl) (by omega) (isK_of (sh3_z ha4)) (Tf54 (by omega) a4 ha4 i2 (I (a3 + 1) j113_11) I _ hxr114_12) ?_
    show aGo kad d 29 (117, ([(5, .ref (a3 + 1)), (0, .ref a0), (1, .int i1), (2, .int i2), (3, .ref a3), (4, .ref a4)], [.int r114_12.1, .int (2 : Int32), .ref (a3 + 1)])) (aMem Z r114_12.2, t) _
    obtain ⟨j117_14, hxj117_14, h⟩ := Option.bind_eq_some_iff.mp h
    obtain ⟨I117_13, hxI117_13, h⟩ := Option.bind_eq_some_iff.mp h
    refine gg_sI (Or.inl ⟨rfl, rfl⟩) aMi29 rfl (sI_of (sh2_a14 ha3) hxj117_14 hxI117_13) ?_
    refine go_ops aMi29 1 _ (f1 := (156, ([(5, .ref (a3 + 1)), (0, .ref a0), (1, .int i1), (2, .int i2), (3, .ref a3), (4, .ref a4)], []))) rfl ?_
    refine go_le (lv1 := []) (aLe_of (show (List.map (fun q => q.1) ([] : ALv)).Nodup from (by show ([] : List Nat).Nodup; decide)) aSubL_nil) ?_
    exact Tf29_b156 hd a0 ha0 a3 ha3 a4 ha4 I117_13 _ h
  rw [if_neg hs3] at h
  by_cases hs4 : i1 = (4 : Int32)
  · rw [if_pos hs4] at h
    refine go_sw (f1 := (121, ([(5, .ref (a3 + 1)), (0, .ref a0), (1, .int i1), (2, .int i2), (3, .ref a3), (4, .ref a4)], []))) aMi29 rfl (by rw [hs4]; rfl) ?_
    refine go_ops aMi29 5 _ (f1 := (128, ([(5, .ref (a3 + 1)), (0, .ref a0), (1, .int i1), (2, .int i2), (3, .ref a3), (4, .ref a4)], [.int (1 : Int32), .int i2, .ref a4, .int (1 : Int32), .ref (a3 + 1)]))) rfl ?_
    obtain ⟨r128_15, hxr128_15, h⟩ := Option.bind_eq_some_iff.mp h
    refine gg_cv (as := [.int i2, .int (1 : Int32)]) (r := [.int (1 : Int32), .ref (a3 + 1)]) aMi29 rfl rfl rfl aMi50 (Nat.le_of_ble_eq_true rfl) rfl (Nat.le_of_ble_eq_true rfl) (Nat.le_of_ble_eq_true rfl) (by omega) (isK_of (sh3_z ha4)) (Tf50 (by omega) a4 ha4 i2 (1 : Int32) I _ hxr128_15) ?_
    show aGo kad d 29 (131, ([(5, .ref (a3 + 1)), (0, .ref a0), (1, .int i1), (2, .int i2), (3, .ref a3), (4, .ref a4)], [.int r128_15.1, .int (1 : Int32), .ref (a3 + 1)])) (aMem Z r128_15.2, t) _
    obtain ⟨j131_17, hxj131_17, h⟩ := Option.bind_eq_some_iff.mp h
    obtain ⟨I131_16, hxI131_16, h⟩ := Option.bind_eq_some_iff.mp h
    refine gg_sI (Or.inl ⟨rfl, rfl⟩) aMi29 rfl (sI_of (sh2_a14 ha3) hxj131_17 hxI131_16) ?_
    refine go_ops aMi29 1 _ (f1 := (156, ([(5, .ref (a3 + 1)), (0, .ref a0), (1, .int i1), (2, .int i2), (3, .ref a3), (4, .ref a4)], []))) rfl ?_
    refine go_le (lv1 := []) (aLe_of (show (List.map (fun q => q.1) ([] : ALv)).Nodup from (by show ([] : List Nat).Nodup; decide)) aSubL_nil) ?_
    exact Tf29_b156 hd a0 ha0 a3 ha3 a4 ha4 I131_16 _ h
  rw [if_neg hs4] at h
  by_cases hs5 : i1 = (5 : Int32)
  · rw [if_pos hs5] at h
    refine go_sw (f1 := (135, ([(5, .ref (a3 + 1)), (0, .ref a0), (1, .int i1), (2, .int i2), (3, .ref a3), (4, .ref a4)], []))) aMi29 rfl (by rw [hs5]; rfl) ?_
    refine go_ops aMi29 3 _ (f1 := (139, ([(5, .ref (a3 + 1)), (0, .ref a0), (1, .int i1), (2, .int i2), (3, .ref a3), (4, .ref a4)], [.ref a4, .int i2, .ref a0]))) rfl ?_
    obtain ⟨r139_18, hxr139_18, h⟩ := Option.bind_eq_some_iff.mp h
    refine gg_cv (as := [.int i2, .ref a4]) (r := []) aMi29 rfl rfl rfl aMi31 (Nat.le_of_ble_eq_true rfl) rfl (Nat.le_of_ble_eq_true rfl) (Nat.le_of_ble_eq_true rfl) (by omega) (isK_of (sh1_z ha0)) (Tf31 (by omega) a0 ha0 i2 a4 ha4 I _ hxr139_18) ?_
    show aGo kad d 29 (142, ([(5, .ref (a3 + 1)), (0, .ref a0), (1, .int i1), (2, .int i2), (3, .ref a3), (4, .ref a4)], [])) (aMem Z r139_18.2, t) _
    refine go_ops aMi29 1 _ (f1 := (156, ([(5, .ref (a3 + 1)), (0, .ref a0), (1, .int i1), (2, .int i2), (3, .ref a3), (4, .ref a4)], []))) rfl ?_
    refine go_le (lv1 := []) (aLe_of (show (List.map (fun q => q.1) ([] : ALv)).Nodup from (by show ([] : List Nat).Nodup; decide)) aSubL_nil) ?_
    exact Tf29_b156 hd a0 ha0 a3 ha3 a4 ha4 r139_18.2 _ h
  rw [if_neg hs5] at h
  refine go_swd (tg := 145) (m := 6) aMi29 rfl rfl (by decide) (fun k hk => ?_) ?_
  · match k, hk with
    | 0, _ => exact hs0
    | 1, _ => exact hs1
    | 2, _ => exact hs2
    | 3, _ => exact hs3
    | 4, _ => exact hs4
    | 5, _ => exact hs5
    | k + 6, hk => exact absurd hk (by omega)
  refine go_ops aMi29 4 _ (f1 := (150, ([(5, .ref (a3 + 1)), (0, .ref a0), (1, .int i1), (2, .int i2), (3, .ref a3), (4, .ref a4)], [.int (1 : Int32), .ref (a3 + 1), .int i2, .ref a0]))) rfl ?_
  obtain ⟨j150_19, hxj150_19, h⟩ := Option.bind_eq_some_iff.mp h
  refine gg_lI (Or.inl ⟨rfl, rfl⟩) aMi29 rfl (lI_of (sh2_a14 ha3) hxj150_19) ?_
  refine go_ops aMi29 1 _ (f1 := (153, ([(5, .ref (a3 + 1)), (0, .ref a0), (1, .int i1), (2, .int i2), (3, .ref a3), (4, .ref a4)], [.ref a4, .int (I (a3 + 1) j150_19), .int i2, .ref a0]))) rfl ?_
  obtain ⟨r153_20, hxr153_20, h⟩ := Option.bind_eq_some_iff.mp h
  refine gg_cv (as := [.int i2, .int (I (a3 + 1) j150_19), .ref a4]) (r := []) aMi29 rfl rfl rfl aMi32 (Nat.le_of_ble_eq_true rfl) rfl (Nat.le_of_ble_eq_true rfl) (Nat.le_of_ble_eq_true rfl) (by omega) (isK_of (sh1_z ha0)) (Tf32 (by omega) a0 ha0 i2 (I (a3 + 1) j150_19) a4 ha4 I _ hxr153_20) ?_
  show aGo kad d 29 (156, ([(5, .ref (a3 + 1)), (0, .ref a0), (1, .int i1), (2, .int i2), (3, .ref a3), (4, .ref a4)], [])) (aMem Z r153_20.2, t) _
  refine go_le (lv1 := []) (aLe_of (show (List.map (fun q => q.1) ([] : ALv)).Nodup from (by show ([] : List Nat).Nodup; decide)) aSubL_nil) ?_
  exact Tf29_b156 hd a0 ha0 a3 ha3 a4 ha4 r153_20.2 _ h
-- KernelGym$FileCall.addBlock (I[II)V
def f64_b59 (kad : Nat → Nat) (N : Nat) (Z : AZ) (a0 : Nat) (I : AI) : Option (Unit × AI) :=
  some ((), I)
set_option maxRecDepth 20000 in
theorem Tf64_b59 {kad : Nat → Nat} {N : Nat} {Z : AZ} {d : Nat} {t : Option Nat × (Nat × Nat)} (hd : 0 ≤ d) : ∀ (a0 : Nat) (ha0 : sh4 kad Z a0) (I : AI) (r : Unit × AI), f64_b59 kad N Z a0 I = some r → aGo kad d 64 (59, ([], [])) (aMem Z I, t) (qV Z t r) := by
  intro a0 ha0 I r h
  unfold f64_b59 at h
  cases h
  exact go_ret aMi64 rfl rfl ⟨rfl, rfl⟩
def f64 (kad : Nat → Nat) (N : Nat) (Z : AZ) (a0 : Nat) (i1 : Int32) (b2 : Nat) (i3 : Int32) (I : AI) : Option (Unit × AI) :=
  if (3 : Int32) ≤ (I a0 0) then
    f64_b59 kad N Z a0 I
  else
    if i3 < 0 then
      f64_b59 kad N Z a0 I
    else
      (nL Z b2).bind fun x17_1 =>
      if x17_1 < (i3 + (8 : Int32)) then
        f64_b59 kad N Z a0 I
      else
        (ixA 3 (I a0 0)).bind fun j30_3 =>
        (wI I (a0 + 1) j30_3 i1).bind fun I30_2 =>
        (cI Z I30_2 b2 i3 (a0 + 2) ((I30_2 a0 0) * (8 : Int32)) (8 : Int32)).bind fun I46_4 =>
        (wI I46_4 a0 0 ((I46_4 a0 0) + (1 : Int32))).bind fun I56_5 =>
        f64_b59 kad N Z a0 I56_5
set_option maxRecDepth 20000 in
theorem Tf64 {kad : Nat → Nat} {N : Nat} {Z : AZ} {d : Nat} {t : Option Nat × (Nat × Nat)} (hd : 0 ≤ d) : ∀ (a0 : Nat) (ha0 : sh4 kad Z a0) (i1 : Int32) (b2 : Nat) (i3 : Int32) (I : AI) (r : Unit × AI), f64 kad N Z a0 i1 b2 i3 I = some r → aGo kad d 64 (0, ([(0, .ref a0), (1, .int i1), (2, .ref b2), (3, .int i3)], [])) (aMem Z I, t) (qV Z t r) := by
  intro a0 ha0 i1 b2 i3 I r h
  unfold f64 at h
  refine go_ops aMi64 1 _ (f1 := (1, ([(0, .ref a0), (1, .int i1), (2, .ref b2), (3, .int i3)], [.ref a0]))) rfl ?_
  refine gg_gI aMi64 rfl rfl rfl (gI_of (sh4_z ha0)) ?_
  refine go_ops aMi64 1 _ (f1 := (5, ([(0, .ref a0), (1, .int i1), (2, .ref b2), (3, .int i3)], [.int (3 : Int32), .int (I a0 0)]))) rfl ?_
  refine gg_br (b := decide ((3 : Int32) ≤ (I a0 0))) (tg := 59) (off := 54) aMi64 rfl rfl rfl rfl (fun hb => ?_) (fun hb => ?_)
  · rw [if_pos (of_decide_eq_true hb)] at h
    refine go_le (lv1 := []) (aLe_of (show (List.map (fun q => q.1) ([] : ALv)).Nodup from (by show ([] : List Nat).Nodup; decide)) aSubL_nil) ?_
    exact Tf64_b59 hd a0 ha0 I _ h
  · rw [if_neg (of_decide_eq_false hb)] at h
    refine go_ops aMi64 1 _ (f1 := (9, ([(0, .ref a0), (1, .int i1), (2, .ref b2), (3, .int i3)], [.int i3]))) rfl ?_
    refine gg_br (b := decide (i3 < 0)) (tg := 59) (off := 50) aMi64 rfl rfl rfl rfl (fun hb => ?_) (fun hb => ?_)
    · rw [if_pos (of_decide_eq_true hb)] at h
      refine go_le (lv1 := []) (aLe_of (show (List.map (fun q => q.1) ([] : ALv)).Nodup from (by show ([] : List Nat).Nodup; decide)) aSubL_nil) ?_
      exact Tf64_b59 hd a0 ha0 I _ h
    · rw [if_neg (of_decide_eq_false hb)] at h
      refine go_ops aMi64 4 _ (f1 := (17, ([(0, .ref a0), (1, .int i1), (2, .ref b2), (3, .int i3)], [.ref b2, .int (i3 + (8 : Int32))]))) rfl ?_
      obtain ⟨x17_1, hxx17_1, h⟩ := Option.bind_eq_some_iff.mp h
      refine gg_len aMi64 rfl hxx17_1 ?_
      refine gg_br (b := decide (x17_1 < (i3 + (8 : Int32)))) (tg := 59) (off := 41) aMi64 rfl rfl rfl rfl (fun hb => ?_) (fun hb => ?_)
      · rw [if_pos (of_decide_eq_true hb)] at h
        refine go_le (lv1 := []) (aLe_of (show (List.map (fun q => q.1) ([] : ALv)).Nodup from (by show ([] : List Nat).Nodup; decide)) aSubL_nil) ?_
        exact Tf64_b59 hd a0 ha0 I _ h
      · rw [if_neg (of_decide_eq_false hb)] at h
        refine go_ops aMi64 1 _ (f1 := (22, ([(0, .ref a0), (1, .int i1), (2, .ref b2), (3, .int i3)], [.ref a0]))) rfl ?_
        refine gg_gR (b := (a0 + 1)) aMi64 rfl rfl rfl (gR_of (sh4_z ha0) (sh4_r2 ha0)) ?_
        refine go_ops aMi64 1 _ (f1 := (26, ([(0, .ref a0), (1, .int i1), (2, .ref b2), (3, .int i3)], [.ref a0, .ref (a0 + 1)]))) rfl ?_
        refine gg_gI aMi64 rfl rfl rfl (gI_of (sh4_z ha0)) ?_
        refine go_ops aMi64 1 _ (f1 := (30, ([(0, .ref a0), (1, .int i1), (2, .ref b2), (3, .int i3)], [.int i1, .int (I a0 0), .ref (a0 + 1)]))) rfl ?_
        obtain ⟨j30_3, hxj30_3, h⟩ := Option.bind_eq_some_iff.mp h
        obtain ⟨I30_2, hxI30_2, h⟩ := Option.bind_eq_some_iff.mp h
        refine gg_sI (Or.inl ⟨rfl, rfl⟩) aMi64 rfl (sI_of (sh4_a2 ha0) hxj30_3 hxI30_2) ?_
        refine go_ops aMi64 3 _ (f1 := (34, ([(0, .ref a0), (1, .int i1), (2, .ref b2), (3, .int i3)], [.ref a0, .int i3, .ref b2]))) rfl ?_
        refine gg_gR (b := (a0 + 2)) aMi64 rfl rfl rfl (gR_of (sh4_z ha0) (sh4_r3 ha0)) ?_
        refine go_ops aMi64 1 _ (f1 := (38, ([(0, .ref a0), (1, .int i1), (2, .ref b2), (3, .int i3)], [.ref a0, .ref (a0 + 2), .int i3, .ref b2]))) rfl ?_
        refine gg_gI aMi64 rfl rfl rfl (gI_of (sh4_z ha0)) ?_
        refine go_ops aMi64 3 _ (f1 := (46, ([(0, .ref a0), (1, .int i1), (2, .ref b2), (3, .int i3)], [.int (8 : Int32), .int ((I30_2 a0 0) * (8 : Int32)), .ref (a0 + 2), .int i3, .ref b2]))) rfl ?_
        obtain ⟨I46_4, hxI46_4, h⟩ := Option.bind_eq_some_iff.mp h
        refine gg_cp aMi64 rfl rfl (Nat.le_of_ble_eq_true rfl) hxI46_4 ?_
        refine go_ops aMi64 2 _ (f1 := (51, ([(0, .ref a0), (1, .int i1), (2, .ref b2), (3, .int i3)], [.ref a0, .ref a0]))) rfl ?_
        refine gg_gI aMi64 rfl rfl rfl (gI_of (sh4_z ha0)) ?_
        refine go_ops aMi64 2 _ (f1 := (56, ([(0, .ref a0), (1, .int i1), (2, .ref b2), (3, .int i3)], [.int ((I46_4 a0 0) + (1 : Int32)), .ref a0]))) rfl ?_
        obtain ⟨I56_5, hxI56_5, h⟩ := Option.bind_eq_some_iff.mp h
        refine gg_pI aMi64 rfl rfl rfl rfl (by decide) (pI_of (sh4_z ha0) hxI56_5) ?_
        refine go_le (lv1 := []) (aLe_of (show (List.map (fun q => q.1) ([] : ALv)).Nodup from (by show ([] : List Nat).Nodup; decide)) aSubL_nil) ?_
        exact Tf64_b59 hd a0 ha0 I56_5 _ h
-- KernelGym$Clerk.find (ILKernelGym$Core;LKernelGym$Disk;)I
def f26_b10 (kad : Nat → Nat) (N : Nat) (Z : AZ) (a0 : Nat) (a2 : Nat) (a3 : Nat) (I : AI) : Option (Int32 × AI) :=
  some ((9 : Int32), I)
set_option maxRecDepth 20000 in
theorem Tf26_b10 {kad : Nat → Nat} {N : Nat} {Z : AZ} {d : Nat} {t : Option Nat × (Nat × Nat)} (hd : 5 ≤ d) : ∀ (a0 : Nat) (ha0 : sh1 kad Z a0) (a2 : Nat) (ha2 : sh2 kad Z a2) (a3 : Nat) (ha3 : sh3 kad Z a3) (I : AI) (r : Int32 × AI), f26_b10 kad N Z a0 a2 a3 I = some r → aGo kad d 26 (10, ([], [])) (aMem Z I, t) (qI Z t r) := by
  intro a0 ha0 a2 ha2 a3 ha3 I r h
  unfold f26_b10 at h
  refine go_ops aMi26 1 _ (f1 := (12, ([], [.int (9 : Int32)]))) rfl ?_
  cases h
  exact go_ret aMi26 rfl aRetI ⟨rfl, rfl⟩
def f26_b143 (kad : Nat → Nat) (N : Nat) (Z : AZ) (k108 : Nat → Nat → Nat → Int32 → AI → Option (Int32 × AI)) (a0 : Nat) (a2 : Nat) (a3 : Nat) (i6 : Int32) (I : AI) : Option (Int32 × AI) :=
  k108 a0 a2 a3 (i6 + (1 : Int32)) I
set_option maxRecDepth 20000 in
theorem Tf26_b143 {kad : Nat → Nat} {N : Nat} {Z : AZ} {d : Nat} {t : Option Nat × (Nat × Nat)} (hd : 5 ≤ d) (k108 : Nat → Nat → Nat → Int32 → AI → Option (Int32 × AI))  (hk108 : ∀ (a0 : Nat) (ha0 : sh1 kad Z a0) (a2 : Nat) (ha2 : sh2 kad Z a2) (a3 : Nat) (ha3 : sh3 kad Z a3) (i6 : Int32) (I : AI) (r : Int32 × AI), k108 a0 a2 a3 i6 I = some r → aGo kad d 26 (108, ([(0, .ref a0), (2, .ref a2), (6, .int i6)], [])) (aMem Z I, t) (qI Z t r)) : ∀ (a0 : Nat) (ha0 : sh1 kad Z a0) (a2 : Nat) (ha2 : sh2 kad Z a2) (a3 : Nat) (ha3 : sh3 kad Z a3) (i6 : Int32) (I : AI) (r : Int32 × AI), f26_b143 kad N Z k108 a0 a2 a3 i6 I = some r → aGo kad d 26 (143, ([(0, .ref a0), (2, .ref a2), (6, .int i6)], [])) (aMem Z I, t) (qI Z t r) := by
  intro a0 ha0 a2 ha2 a3 ha3 i6 I r h
  unfold f26_b143 at h
  refine go_ops aMi26 2 _ (f1 := (108, ([(6, .int (i6 + (1 : Int32))), (0, .ref a0), (2, .ref a2)], []))) rfl ?_
  refine go_le (lv1 := [(0, .ref a0), (2, .ref a2), (6, .int (i6 + (1 : Int32)))]) (aLe_of (show (List.map (fun q => q.1) ([(0, .ref a0), (2, .ref a2), (6, .int (i6 + (1 : Int32)))] : ALv)).Nodup from (by show ([0, 2, 6] : List Nat).Nodup; decide)) (aSubL_cons rfl (aSubL_cons rfl (aSubL_cons rfl aSubL_nil)))) ?_
  exact hk108 a0 ha0 a2 ha2 a3 ha3 (i6 + (1 : Int32)) I _ h
def f26_b108 (kad : Nat → Nat) (N : Nat) (Z : AZ) : Nat → Nat → Nat → Nat → Int32 → AI → Option (Int32 × AI)
  | 0, _, _, _, _, _ => none
  | F + 1, a0, a2, a3, i6, I =>
    if (32 : Int32) ≤ i6 then
      some ((0 : Int32), I)
    else
      (ixA 32 i6).bind fun j121_1 =>
      if (I (a0 + 2) j121_1) = 0 then
        f26_b143 kad N Z (fun p0 p1 p2 p3 I => f26_b108 kad N Z F p0 p1 p2 p3 I) a0 a2 a3 i6 I
      else
        (f64 kad N Z (a2 + 2) i6 (a0 + 1) (i6 * (8 : Int32)) I).bind fun r140_2 =>
        f26_b143 kad N Z (fun p0 p1 p2 p3 I => f26_b108 kad N Z F p0 p1 p2 p3 I) a0 a2 a3 i6 r140_2.2
set_option maxRecDepth 20000 in
theorem Tf26_b108 {kad : Nat → Nat} {N : Nat} {Z : AZ} {d : Nat} {t : Option Nat × (Nat × Nat)} (hd : 5 ≤ d) : ∀ (F : Nat) (a0 : Nat) (ha0 : sh1 kad Z a0) (a2 : Nat) (ha2 : sh2 kad Z a2) (a3 : Nat) (ha3 : sh3 kad Z a3) (i6 : Int32) (I : AI) (r : Int32 × AI), f26_b108 kad N Z F a0 a2 a3 i6 I = some r → aGo kad d 26 (108, ([(0, .ref a0), (2, .ref a2), (6, .int i6)], [])) (aMem Z I, t) (qI Z t r) := by
  intro F
  induction F with
  | zero => intro a0 ha0 a2 ha2 a3 ha3 i6 I r h; cases h
  | succ F ih =>
    intro a0 ha0 a2 ha2 a3 ha3 i6 I r h
    unfold f26_b108 at h
    refine go_ops aMi26 2 _ (f1 := (112, ([(0, .ref a0), (2, .ref a2), (6, .int i6)], [.int (32 : Int32), .int i6]))) rfl ?_
    refine gg_br (b := decide ((32 : Int32) ≤ i6)) (tg := 149) (off := 37) aMi26 rfl rfl rfl rfl (fun hb => ?_) (fun hb => ?_)
    · rw [if_pos (of_decide_eq_true hb)] at h
      refine go_ops aMi26 1 _ (f1 := (150, ([(0, .ref a0), (2, .ref a2), (6, .int i6)], [.int (0 : Int32)]))) rfl ?_
      cases h
      exact go_ret aMi26 rfl aRetI ⟨rfl, rfl⟩
    · rw [if_neg (of_decide_eq_false hb)] at h
      refine go_ops aMi26 1 _ (f1 := (116, ([(0, .ref a0), (2, .ref a2), (6, .int i6)], [.ref a0]))) rfl ?_
      refine gg_gR (b := (a0 + 2)) aMi26 rfl rfl rfl (gR_of (sh1_z ha0) (sh1_r1 ha0)) ?_
      refine go_ops aMi26 1 _ (f1 := (121, ([(0, .ref a0), (2, .ref a2), (6, .int i6)], [.int i6, .ref (a0 + 2)]))) rfl ?_
      obtain ⟨j121_1, hxj121_1, h⟩ := Option.bind_eq_some_iff.mp h
      refine gg_lI (Or.inr ⟨rfl, rfl⟩) aMi26 rfl (lI_of (sh1_a1 ha0) hxj121_1) ?_
      refine gg_br (b := decide ((I (a0 + 2) j121_1) = 0)) (tg := 143) (off := 21) aMi26 rfl rfl rfl rfl (fun hb => ?_) (fun hb => ?_)
      · rw [if_pos (of_decide_eq_true hb)] at h
        exact Tf26_b143 hd (fun p0 p1 p2 p3 I => f26_b108 kad N Z F p0 p1 p2 p3 I) (fun p0 q0 p1 q1 p2 q2 p3 I r hh => ih p0 q0 p1 q1 p2 q2 p3 I r hh) a0 ha0 a2 ha2 a3 ha3 i6 I _ h
      · rw [if_neg (of_decide_eq_false hb)] at h
        refine go_ops aMi26 1 _ (f1 := (126, ([(0, .ref a0), (2, .ref a2), (6, .int i6)], [.ref a2]))) rfl ?_
        refine gg_gR (b := (a2 + 2)) aMi26 rfl rfl rfl (gR_of (sh2_z ha2) (sh2_r15 ha2)) ?_
        refine go_ops aMi26 2 _ (f1 := (132, ([(0, .ref a0), (2, .ref a2), (6, .int i6)], [.ref a0, .int i6, .ref (a2 + 2)]))) rfl ?_
        refine gg_gR (b := (a0 + 1)) aMi26 rfl rfl rfl (gR_of (sh1_z ha0) (sh1_r0 ha0)) ?_
        refine go_ops aMi26 3 _ (f1 := (140, ([(0, .ref a0), (2, .ref a2), (6, .int i6)], [.int (i6 * (8 : Int32)), .ref (a0 + 1), .int i6, .ref (a2 + 2)]))) rfl ?_
        obtain ⟨r140_2, hxr140_2, h⟩ := Option.bind_eq_some_iff.mp h
        refine gg_cv (as := [.int i6, .ref (a0 + 1), .int (i6 * (8 : Int32))]) (r := []) aMi26 rfl rfl rfl aMi64 (Nat.le_of_ble_eq_true rfl) rfl (Nat.le_of_ble_eq_true rfl) (Nat.le_of_ble_eq_true rfl) (by omega) (isK_of (sh4_z (sh2_s15 ha2))) (Tf64 (by omega) (a2 + 2) (sh2_s15 ha2) i6 (a0 + 1) (i6 * (8 : Int32)) I _ hxr140_2) ?_
        show aGo kad d 26 (143, ([(0, .ref a0), (2, .ref a2), (6, .int i6)], [])) (aMem Z r140_2.2, t) _
        exact Tf26_b143 hd (fun p0 p1 p2 p3 I => f26_b108 kad N Z F p0 p1 p2 p3 I) (fun p0 q0 p1 q1 p2 q2 p3 I r hh => ih p0 q0 p1 q1 p2 q2 p3 I r hh) a0 ha0 a2 ha2 a3 ha3 i6 r140_2.2 _ h
def f26_b75 (kad : Nat → Nat) (N : Nat) (Z : AZ) : Nat → Nat → Nat → Nat → Int32 → Int32 → Int32 → AI → Option (Int32 × AI)
  | 0, _, _, _, _, _, _, _ => none
  | F + 1, a0, a2, a3, i1, i4, i6, I =>
    if (32 : Int32) ≤ i6 then
      (f29 kad N Z a0 i1 i4 a2 a3 I).bind fun r102_1 =>
      f26_b108 kad N Z N a0 a2 a3 (0 : Int32) r102_1.2
    else
      (ixA 32 i6).bind fun j89_3 =>
      (wB I (a0 + 2) j89_3 (0 : Int32)).bind fun I89_2 =>
      f26_b75 kad N Z F a0 a2 a3 i1 i4 (i6 + (1 : Int32)) I89_2
set_option maxRecDepth 20000 in
theorem Tf26_b75 {kad : Nat → Nat} {N : Nat} {Z : AZ} {d : Nat} {t : Option Nat × (Nat × Nat)} (hd : 5 ≤ d) : ∀ (F : Nat) (a0 : Nat) (ha0 : sh1 kad Z a0) (a2 : Nat) (ha2 : sh2 kad Z a2) (a3 : Nat) (ha3 : sh3 kad Z a3) (i1 : Int32) (i4 : Int32) (i6 : Int32) (I : AI) (r : Int32 × AI), f26_b75 kad N Z F a0 a2 a3 i1 i4 i6 I = some r → aGo kad d 26 (75, ([(0, .ref a0), (1, .int i1), (2, .ref a2), (3, .ref a3), (4, .int i4), (6, .int i6)], [])) (aMem Z I, t) (qI Z t r) := by
  intro F
  induction F with
  | zero => intro a0 ha0 a2 ha2 a3 ha3 i1 i4 i6 I r h; cases h
  | succ F ih =>
    intro a0 ha0 a2 ha2 a3 ha3 i1 i4 i6 I r h
    unfold f26_b75 at h
    refine go_ops aMi26 2 _ (f1 := (79, ([(0, .ref a0), (1, .int i1), (2, .ref a2), (3, .ref a3), (4, .int i4), (6, .int i6)], [.int (32 : Int32), .int i6]))) rfl ?_
    refine gg_br (b := decide ((32 : Int32) ≤ i6)) (tg := 96) (off := 17) aMi26 rfl rfl rfl rfl (fun hb => ?_) (fun hb => ?_)
    · rw [if_pos (of_decide_eq_true hb)] at h
      refine go_ops aMi26 5 _ (f1 := (102, ([(0, .ref a0), (1, .int i1), (2, .ref a2), (3, .ref a3), (4, .int i4), (6, .int i6)], [.ref a3, .ref a2, .int i4, .int i1, .ref a0]))) rfl ?_
      obtain ⟨r102_1, hxr102_1, h⟩ := Option.bind_eq_some_iff.mp h
      refine gg_cv (as := [.int i1, .int i4, .ref a2, .ref a3]) (r := []) aMi26 rfl rfl rfl aMi29 (Nat.le_of_ble_eq_true rfl) rfl (Nat.le_of_ble_eq_true rfl) (Nat.le_of_ble_eq_true rfl) (by omega) (isK_of (sh1_z ha0)) (Tf29 (by omega) a0 ha0 i1 i4 a2 ha2 a3 ha3 I _ hxr102_1) ?_
      show aGo kad d 26 (105, ([(0, .ref a0), (1, .int i1), (2, .ref a2), (3, .ref a3), (4, .int i4), (6, .int i6)], [])) (aMem Z r102_1.2, t) _
      refine go_ops aMi26 2 _ (f1 := (108, ([(6, .int (0 : Int32)), (0, .ref a0), (1, .int i1), (2, .ref a2), (3, .ref a3), (4, .int i4)], []))) rfl ?_
      refine go_le (lv1 := [(0, .ref a0), (2, .ref a2), (6, .int (0 : Int32))]) (aLe_of (show (List.map (fun q => q.1) ([(0, .ref a0), (2, .ref a2), (6, .int (0 : Int32))] : ALv)).Nodup from (by show ([0, 2, 6] : List Nat).Nodup; decide)) (aSubL_cons rfl (aSubL_cons rfl (aSubL_cons rfl aSubL_nil)))) ?_
      exact Tf26_b108 hd N a0 ha0 a2 ha2 a3 ha3 (0 : Int32) r102_1.2 _ h
    · rw [if_neg (of_decide_eq_false hb)] at h
      refine go_ops aMi26 1 _ (f1 := (83, ([(0, .ref a0), (1, .int i1), (2, .ref a2), (3, .ref a3), (4, .int i4), (6, .int i6)], [.ref a0]))) rfl ?_
      refine gg_gR (b := (a0 + 2)) aMi26 rfl rfl rfl (gR_of (sh1_z ha0) (sh1_r1 ha0)) ?_
      refine go_ops aMi26 2 _ (f1 := (89, ([(0, .ref a0), (1, .int i1), (2, .ref a2), (3, .ref a3), (4, .int i4), (6, .int i6)], [.int (0 : Int32), .int i6, .ref (a0 + 2)]))) rfl ?_
      obtain ⟨j89_3, hxj89_3, h⟩ := Option.bind_eq_some_iff.mp h
      obtain ⟨I89_2, hxI89_2, h⟩ := Option.bind_eq_some_iff.mp h
      refine gg_sI (Or.inr ⟨rfl, rfl⟩) aMi26 rfl (sB_of (sh1_a1 ha0) hxj89_3 hxI89_2) ?_
      refine go_ops aMi26 2 _ (f1 := (75, ([(6, .int (i6 + (1 : Int32))), (0, .ref a0), (1, .int i1), (2, .ref a2), (3, .ref a3), (4, .int i4)], []))) rfl ?_
      refine go_le (lv1 := [(0, .ref a0), (1, .int i1), (2, .ref a2), (3, .ref a3), (4, .int i4), (6, .int (i6 + (1 : Int32)))]) (aLe_of (show (List.map (fun q => q.1) ([(0, .ref a0), (1, .int i1), (2, .ref a2), (3, .ref a3), (4, .int i4), (6, .int (i6 + (1 : Int32)))] : ALv)).Nodup from (by show ([0, 1, 2, 3, 4, 6] : List Nat).Nodup; decide)) (aSubL_cons rfl (aSubL_cons rfl (aSubL_cons rfl (aSubL_cons rfl (aSubL_cons rfl (aSubL_cons rfl aSubL_nil))))))) ?_
      exact ih a0 ha0 a2 ha2 a3 ha3 i1 i4 (i6 + (1 : Int32)) I89_2 _ h
def f26_b36 (kad : Nat → Nat) (N : Nat) (Z : AZ) (a0 : Nat) (a2 : Nat) (a3 : Nat) (i1 : Int32) (s0 : Int32) (I : AI) : Option (Int32 × AI) :=
  (f27 kad N Z i1 s0 a2 a3 I).bind fun r43_1 =>
  if r43_1.1 = 0 then
    (cA r43_1.2 (a3 + 1) 256 (0 : Int32) (a0 + 1) 256 (0 : Int32) (256 : Int32)).bind fun I69_2 =>
    f26_b75 kad N Z N a0 a2 a3 i1 s0 (0 : Int32) I69_2
  else
    some (r43_1.1, r43_1.2)
set_option maxRecDepth 20000 in
theorem Tf26_b36 {kad : Nat → Nat} {N : Nat} {Z : AZ} {d : Nat} {t : Option Nat × (Nat × Nat)} (hd : 5 ≤ d) : ∀ (a0 : Nat) (ha0 : sh1 kad Z a0) (a2 : Nat) (ha2 : sh2 kad Z a2) (a3 : Nat) (ha3 : sh3 kad Z a3) (i1 : Int32) (s0 : Int32) (I : AI) (r : Int32 × AI), f26_b36 kad N Z a0 a2 a3 i1 s0 I = some r → aGo kad d 26 (36, ([(0, .ref a0), (1, .int i1), (2, .ref a2), (3, .ref a3)], [.int s0])) (aMem Z I, t) (qI Z t r) := by
  intro a0 ha0 a2 ha2 a3 ha3 i1 s0 I r h
  unfold f26_b36 at h
  refine go_ops aMi26 5 _ (f1 := (43, ([(4, .int s0), (0, .ref a0), (1, .int i1), (2, .ref a2), (3, .ref a3)], [.ref a3, .ref a2, .int s0, .int i1]))) rfl ?_
  obtain ⟨r43_1, hxr43_1, h⟩ := Option.bind_eq_some_iff.mp h
  refine gg_cs (as := [.int i1, .int s0, .ref a2, .ref a3]) (r := []) aMi26 rfl rfl rfl aMi27 rfl (Nat.le_of_ble_eq_true rfl) (Nat.le_of_ble_eq_true rfl) (by omega) (Tf27 (by omega) i1 s0 a2 ha2 a3 ha3 I _ hxr43_1) ?_
  show aGo kad d 26 (46, ([(4, .int s0), (0, .ref a0), (1, .int i1), (2, .ref a2), (3, .ref a3)], [.int r43_1.1])) (aMem Z r43_1.2, t) _
  refine go_ops aMi26 2 _ (f1 := (50, ([(5, .int r43_1.1), (4, .int s0), (0, .ref a0), (1, .int i1), (2, .ref a2), (3, .ref a3)], [.int r43_1.1]))) rfl ?_
  refine gg_br (b := decide (r43_1.1 = 0)) (tg := 56) (off := 6) aMi26 rfl rfl rfl rfl (fun hb => ?_) (fun hb => ?_)
  · rw [if_pos (of_decide_eq_true hb)] at h
    refine go_ops aMi26 1 _ (f1 := (57, ([(5, .int r43_1.1), (4, .int s0), (0, .ref a0), (1, .int i1), (2, .ref a2), (3, .ref a3)], [.ref a3]))) rfl ?_
    refine gg_gR (b := (a3 + 1)) aMi26 rfl rfl rfl (gR_of (sh3_z ha3) (sh3_r0 ha3)) ?_
    refine go_ops aMi26 2 _ (f1 := (62, ([(5, .int r43_1.1), (4, .int s0), (0, .ref a0), (1, .int i1), (2, .ref a2), (3, .ref a3)], [.ref a0, .int (0 : Int32), .ref (a3 + 1)]))) rfl ?_
    refine gg_gR (b := (a0 + 1)) aMi26 rfl rfl rfl (gR_of (sh1_z ha0) (sh1_r0 ha0)) ?_
    refine go_ops aMi26 2 _ (f1 := (69, ([(5, .int r43_1.1), (4, .int s0), (0, .ref a0), (1, .int i1), (2, .ref a2), (3, .ref a3)], [.int (256 : Int32), .int (0 : Int32), .ref (a0 + 1), .int (0 : Int32), .ref (a3 + 1)]))) rfl ?_
    obtain ⟨I69_2, hxI69_2, h⟩ := Option.bind_eq_some_iff.mp h
    refine gg_cp aMi26 rfl rfl (Nat.le_of_ble_eq_true rfl) (cI_of (sh3_a0 ha3) (sh1_a0 ha0) hxI69_2) ?_
    refine go_ops aMi26 2 _ (f1 := (75, ([(6, .int (0 : Int32)), (5, .int r43_1.1), (4, .int s0), (0, .ref a0), (1, .int i1), (2, .ref a2), (3, .ref a3)], []))) rfl ?_
    refine go_le (lv1 := [(0, .ref a0), (1, .int i1), (2, .ref a2), (3, .ref a3), (4, .int s0), (6, .int (0 : Int32))]) (aLe_of (show (List.map (fun q => q.1) ([(0, .ref a0), (1, .int i1), (2, .ref a2), (3, .ref a3), (4, .int s0), (6, .int (0 : Int32))] : ALv)).Nodup from (by show ([0, 1, 2, 3, 4, 6] : List Nat).Nodup; decide)) (aSubL_cons rfl (aSubL_cons rfl (aSubL_cons rfl (aSubL_cons rfl (aSubL_cons rfl (aSubL_cons rfl aSubL_nil))))))) ?_
    exact Tf26_b75 hd N a0 ha0 a2 ha2 a3 ha3 i1 s0 (0 : Int32) I69_2 _ h
  · rw [if_neg (of_decide_eq_false hb)] at h
    refine go_ops aMi26 1 _ (f1 := (55, ([(5, .int r43_1.1), (4, .int s0), (0, .ref a0), (1, .int i1), (2, .ref a2), (3, .ref a3)], [.int r43_1.1]))) rfl ?_
    cases h
    exact go_ret aMi26 rfl aRetI ⟨rfl, rfl⟩
def f26 (kad : Nat → Nat) (N : Nat) (Z : AZ) (a0 : Nat) (i1 : Int32) (a2 : Nat) (a3 : Nat) (I : AI) : Option (Int32 × AI) :=
  if i1 < 0 then
    f26_b10 kad N Z a0 a2 a3 I
  else
    if i1 ≤ (6 : Int32) then
      (ixA 4 (0 : Int32)).bind fun j18_1 =>
      if ¬ (I (a2 + 1) j18_1) = 0 then
        (ixA 4 (0 : Int32)).bind fun j32_2 =>
        (f51 kad N Z a3 (I (a2 + 1) j32_2) I).bind fun r33_3 =>
        f26_b36 kad N Z a0 a2 a3 i1 r33_3.1 r33_3.2
      else
        f26_b36 kad N Z a0 a2 a3 i1 (Int32.ofInt (-1)) I
    else
      f26_b10 kad N Z a0 a2 a3 I
set_option maxRecDepth 20000 in
theorem Tf26 {kad : Nat → Nat} {N : Nat} {Z : AZ} {d : Nat} {t : Option Nat × (Nat × Nat)} (hd : 5 ≤ d) : ∀ (a0 : Nat) (ha0 : sh1 kad Z a0) (i1 : Int32) (a2 : Nat) (ha2 : sh2 kad Z a2) (a3 : Nat) (ha3 : sh3 kad Z a3) (I : AI) (r : Int32 × AI), f26 kad N Z a0 i1 a2 a3 I = some r → aGo kad d 26 (0, ([(0, .ref a0), (1, .int i1), (2, .ref a2), (3, .ref a3)], [])) (aMem Z I, t) (qI Z t r) := by
  intro a0 ha0 i1 a2 ha2 a3 ha3 I r h
  unfold f26 at h
  refine go_ops aMi26 1 _ (f1 := (1, ([(0, .ref a0), (1, .int i1), (2, .ref a2), (3, .ref a3)], [.int i1]))) rfl ?_
  refine gg_br (b := decide (i1 < 0)) (tg := 10) (off := 9) aMi26 rfl rfl rfl rfl (fun hb => ?_) (fun hb => ?_)
  · rw [if_pos (of_decide_eq_true hb)] at h
    refine go_le (lv1 := []) (aLe_of (show (List.map (fun q => q.1) ([] : ALv)).Nodup from (by show ([] : List Nat).Nodup; decide)) aSubL_nil) ?_
    exact Tf26_b10 hd a0 ha0 a2 ha2 a3 ha3 I _ h
  · rw [if_neg (of_decide_eq_false hb)] at h
    refine go_ops aMi26 2 _ (f1 := (7, ([(0, .ref a0), (1, .int i1), (2, .ref a2), (3, .ref a3)], [.int (6 : Int32), .int i1]))) rfl ?_
    refine gg_br (b := decide (i1 ≤ (6 : Int32))) (tg := 13) (off := 6) aMi26 rfl rfl rfl rfl (fun hb => ?_) (fun hb => ?_)
    · rw [if_pos (of_decide_eq_true hb)] at h
      refine go_ops aMi26 1 _ (f1 := (14, ([(0, .ref a0), (1, .int i1), (2, .ref a2), (3, .ref a3)], [.ref a2]))) rfl ?_
      refine gg_gR (b := (a2 + 1)) aMi26 rfl rfl rfl (gR_of (sh2_z ha2) (sh2_r14 ha2)) ?_
      refine go_ops aMi26 1 _ (f1 := (18, ([(0, .ref a0), (1, .int i1), (2, .ref a2), (3, .ref a3)], [.int (0 : Int32), .ref (a2 + 1)]))) rfl ?_
      obtain ⟨j18_1, hxj18_1, h⟩ := Option.bind_eq_some_iff.mp h
      refine gg_lI (Or.inl ⟨rfl, rfl⟩) aMi26 rfl (lI_of (sh2_a14 ha2) hxj18_1) ?_
      refine gg_br (b := decide (¬ (I (a2 + 1) j18_1) = 0)) (tg := 26) (off := 7) aMi26 rfl rfl rfl rfl (fun hb => ?_) (fun hb => ?_)
      · rw [if_pos (of_decide_eq_true hb)] at h
        refine go_ops aMi26 2 _ (f1 := (28, ([(0, .ref a0), (1, .int i1), (2, .ref a2), (3, .ref a3)], [.ref a2, .ref a3]))) rfl ?_
        refine gg_gR (b := (a2 + 1)) aMi26 rfl rfl rfl (gR_of (sh2_z ha2) (sh2_r14 ha2)) ?_
        refine go_ops aMi26 1 _ (f1 := (32, ([(0, .ref a0), (1, .int i1), (2, .ref a2), (3, .ref a3)], [.int (0 : Int32), .ref (a2 + 1), .ref a3]))) rfl ?_
        obtain ⟨j32_2, hxj32_2, h⟩ := Option.bind_eq_some_iff.mp h
        refine gg_lI (Or.inl ⟨rfl, rfl⟩) aMi26 rfl (lI_of (sh2_a14 ha2) hxj32_2) ?_
        obtain ⟨r33_3, hxr33_3, h⟩ := Option.bind_eq_some_iff.mp h
        refine gg_cv (as := [.int (I (a2 + 1) j32_2)]) (r := []) aMi26 rfl rfl rfl aMi51 (Nat.le_of_ble_eq_true rfl) rfl (Nat.le_of_ble_eq_true rfl) (Nat.le_of_ble_eq_true rfl) (by omega) (isK_of (sh3_z ha3)) (Tf51 (by omega) a3 ha3 (I (a2 + 1) j32_2) I _ hxr33_3) ?_
        show aGo kad d 26 (36, ([(0, .ref a0), (1, .int i1), (2, .ref a2), (3, .ref a3)], [.int r33_3.1])) (aMem Z r33_3.2, t) _
        exact Tf26_b36 hd a0 ha0 a2 ha2 a3 ha3 i1 r33_3.1 r33_3.2 _ h
      · rw [if_neg (of_decide_eq_false hb)] at h
        refine go_ops aMi26 2 _ (f1 := (36, ([(0, .ref a0), (1, .int i1), (2, .ref a2), (3, .ref a3)], [.int (Int32.ofInt (-1))]))) rfl ?_
        exact Tf26_b36 hd a0 ha0 a2 ha2 a3 ha3 i1 (Int32.ofInt (-1)) I _ h
    · rw [if_neg (of_decide_eq_false hb)] at h
      refine go_le (lv1 := []) (aLe_of (show (List.map (fun q => q.1) ([] : ALv)).Nodup from (by show ([] : List Nat).Nodup; decide)) aSubL_nil) ?_
      exact Tf26_b10 hd a0 ha0 a2 ha2 a3 ha3 I _ h
