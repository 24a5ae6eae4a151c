-- KernelGym.tape ()I
def f161 (kad : Nat → Nat) (N : Nat) (Z : AZ) (a0 : Nat) (I : AI) : Option (Int32 × AI) :=
  (gR Z I 10 3 a0).bind fun b1_1 =>
  (gR Z I 8 0 b1_1).bind fun b4_2 =>
  (gI Z I 2 12 b4_2).bind fun x7_3 =>
  some (x7_3, I)
theorem Tf161 {kad : Nat → Nat} {N : Nat} {Z : AZ} {d : Nat} {t : Option Nat × (Nat × Nat)} (hd : 0 ≤ d) : ∀ (a0 : Nat) (I : AI) (r : Int32 × AI), f161 kad N Z a0 I = some r → aGo kad d 161 (0, ([(0, .ref a0)], [])) (aMem Z I, t) (qI Z t r) := by
  intro a0 I r h
  unfold f161 at h
  refine go_ops aMi161 1 _ (f1 := (1, ([(0, .ref a0)], [.ref a0]))) rfl ?_
  obtain ⟨b1_1, hxb1_1, h⟩ := Option.bind_eq_some_iff.mp h
  refine gg_gR aMi161 rfl rfl rfl hxb1_1 ?_
  obtain ⟨b4_2, hxb4_2, h⟩ := Option.bind_eq_some_iff.mp h
  refine gg_gR aMi161 rfl rfl rfl hxb4_2 ?_
  obtain ⟨x7_3, hxx7_3, h⟩ := Option.bind_eq_some_iff.mp h
  refine gg_gI aMi161 rfl rfl rfl hxx7_3 ?_
  cases h
  exact go_ret aMi161 rfl aRetI ⟨rfl, rfl⟩
-- KernelGym.sum ()I
def f163 (kad : Nat → Nat) (N : Nat) (Z : AZ) (a0 : Nat) (I : AI) : Option (Int32 × AI) :=
  (gR Z I 10 3 a0).bind fun b1_1 =>
  (isK Z b1_1 8).bind fun u4_2 =>
  (f112 kad N Z b1_1 I).bind fun r4_3 =>
  some (r4_3.1, r4_3.2)
theorem Tf163 {kad : Nat → Nat} {N : Nat} {Z : AZ} {d : Nat} {t : Option Nat × (Nat × Nat)} (hd : 3 ≤ d) : ∀ (a0 : Nat) (I : AI) (r : Int32 × AI), f163 kad N Z a0 I = some r → aGo kad d 163 (0, ([(0, .ref a0)], [])) (aMem Z I, t) (qI Z t r) := by
  intro a0 I r h
  unfold f163 at h
  refine go_ops aMi163 1 _ (f1 := (1, ([(0, .ref a0)], [.ref a0]))) rfl ?_
  obtain ⟨b1_1, hxb1_1, h⟩ := Option.bind_eq_some_iff.mp h
  refine gg_gR aMi163 rfl rfl rfl hxb1_1 ?_
  obtain ⟨u4_2, hxu4_2, h⟩ := Option.bind_eq_some_iff.mp h
  obtain ⟨r4_3, hxr4_3, h⟩ := Option.bind_eq_some_iff.mp h
  refine gg_cv (as := []) (r := []) aMi163 rfl rfl rfl aMi112 (Nat.le_of_ble_eq_true rfl) rfl (Nat.le_of_ble_eq_true rfl) (Nat.le_of_ble_eq_true rfl) (by omega) hxu4_2 (Tf112 (by omega) b1_1 I _ hxr4_3) ?_
  show aGo kad d 163 (7, ([(0, .ref a0)], [.int r4_3.1])) (aMem Z r4_3.2, t) _
  cases h
  exact go_ret aMi163 rfl aRetI ⟨rfl, rfl⟩
-- KernelGym.written ()I
def f168 (kad : Nat → Nat) (N : Nat) (Z : AZ) (a0 : Nat) (I : AI) : Option (Int32 × AI) :=
  (gR Z I 10 3 a0).bind fun b1_1 =>
  (gR Z I 8 3 b1_1).bind fun b4_2 =>
  (gI Z I 3 1 b4_2).bind fun x7_3 =>
  some (x7_3, I)
theorem Tf168 {kad : Nat → Nat} {N : Nat} {Z : AZ} {d : Nat} {t : Option Nat × (Nat × Nat)} (hd : 0 ≤ d) : ∀ (a0 : Nat) (I : AI) (r : Int32 × AI), f168 kad N Z a0 I = some r → aGo kad d 168 (0, ([(0, .ref a0)], [])) (aMem Z I, t) (qI Z t r) := by
  intro a0 I r h
  unfold f168 at h
  refine go_ops aMi168 1 _ (f1 := (1, ([(0, .ref a0)], [.ref a0]))) rfl ?_
  obtain ⟨b1_1, hxb1_1, h⟩ := Option.bind_eq_some_iff.mp h
  refine gg_gR aMi168 rfl rfl rfl hxb1_1 ?_
  obtain ⟨b4_2, hxb4_2, h⟩ := Option.bind_eq_some_iff.mp h
  refine gg_gR aMi168 rfl rfl rfl hxb4_2 ?_
  obtain ⟨x7_3, hxx7_3, h⟩ := Option.bind_eq_some_iff.mp h
  refine gg_gI aMi168 rfl rfl rfl hxx7_3 ?_
  cases h
  exact go_ret aMi168 rfl aRetI ⟨rfl, rfl⟩
-- KernelGym.files ()I
def f170 (kad : Nat → Nat) (N : Nat) (Z : AZ) (a0 : Nat) (I : AI) : Option (Int32 × AI) :=
  (gR Z I 10 3 a0).bind fun b1_1 =>
  (gR Z I 8 3 b1_1).bind fun b4_2 =>
  (isK Z b4_2 3).bind fun u7_3 =>
  (f52 kad N Z b4_2 I).bind fun r7_4 =>
  some (r7_4.1, r7_4.2)
theorem Tf170 {kad : Nat → Nat} {N : Nat} {Z : AZ} {d : Nat} {t : Option Nat × (Nat × Nat)} (hd : 3 ≤ d) : ∀ (a0 : Nat) (I : AI) (r : Int32 × AI), f170 kad N Z a0 I = some r → aGo kad d 170 (0, ([(0, .ref a0)], [])) (aMem Z I, t) (qI Z t r) := by
  intro a0 I r h
  unfold f170 at h
  refine go_ops aMi170 1 _ (f1 := (1, ([(0, .ref a0)], [.ref a0]))) rfl ?_
  obtain ⟨b1_1, hxb1_1, h⟩ := Option.bind_eq_some_iff.mp h
  refine gg_gR aMi170 rfl rfl rfl hxb1_1 ?_
  obtain ⟨b4_2, hxb4_2, h⟩ := Option.bind_eq_some_iff.mp h
  refine gg_gR aMi170 rfl rfl rfl hxb4_2 ?_
  obtain ⟨u7_3, hxu7_3, h⟩ := Option.bind_eq_some_iff.mp h
  obtain ⟨r7_4, hxr7_4, h⟩ := Option.bind_eq_some_iff.mp h
  refine gg_cv (as := []) (r := []) aMi170 rfl rfl rfl aMi52 (Nat.le_of_ble_eq_true rfl) rfl (Nat.le_of_ble_eq_true rfl) (Nat.le_of_ble_eq_true rfl) (by omega) hxu7_3 (Tf52 (by omega) b4_2 I _ hxr7_4) ?_
  show aGo kad d 170 (10, ([(0, .ref a0)], [.int r7_4.1])) (aMem Z r7_4.2, t) _
  cases h
  exact go_ret aMi170 rfl aRetI ⟨rfl, rfl⟩
-- KernelGym.freeBlocks ()I
def f173 (kad : Nat → Nat) (N : Nat) (Z : AZ) (a0 : Nat) (I : AI) : Option (Int32 × AI) :=
  (gR Z I 10 3 a0).bind fun b1_1 =>
  (gR Z I 8 3 b1_1).bind fun b4_2 =>
  (isK Z b4_2 3).bind fun u7_3 =>
  (f57 kad N Z b4_2 I).bind fun r7_4 =>
  some (r7_4.1, r7_4.2)
theorem Tf173 {kad : Nat → Nat} {N : Nat} {Z : AZ} {d : Nat} {t : Option Nat × (Nat × Nat)} (hd : 3 ≤ d) : ∀ (a0 : Nat) (I : AI) (r : Int32 × AI), f173 kad N Z a0 I = some r → aGo kad d 173 (0, ([(0, .ref a0)], [])) (aMem Z I, t) (qI Z t r) := by
  intro a0 I r h
  unfold f173 at h
  refine go_ops aMi173 1 _ (f1 := (1, ([(0, .ref a0)], [.ref a0]))) rfl ?_
  obtain ⟨b1_1, hxb1_1, h⟩ := Option.bind_eq_some_iff.mp h
  refine gg_gR aMi173 rfl rfl rfl hxb1_1 ?_
  obtain ⟨b4_2, hxb4_2, h⟩ := Option.bind_eq_some_iff.mp h
  refine gg_gR aMi173 rfl rfl rfl hxb4_2 ?_
  obtain ⟨u7_3, hxu7_3, h⟩ := Option.bind_eq_some_iff.mp h
  obtain ⟨r7_4, hxr7_4, h⟩ := Option.bind_eq_some_iff.mp h
  refine gg_cv (as := []) (r := []) aMi173 rfl rfl rfl aMi57 (Nat.le_of_ble_eq_true rfl) rfl (Nat.le_of_ble_eq_true rfl) (Nat.le_of_ble_eq_true rfl) (by omega) hxu7_3 (Tf57 (by omega) b4_2 I _ hxr7_4) ?_
  show aGo kad d 173 (10, ([(0, .ref a0)], [.int r7_4.1])) (aMem Z r7_4.2, t) _
  cases h
  exact go_ret aMi173 rfl aRetI ⟨rfl, rfl⟩
-- KernelGym.isWhole ()Z
def f174 (kad : Nat → Nat) (N : Nat) (Z : AZ) (a0 : Nat) (I : AI) : Option (Int32 × AI) :=
  (gR Z I 10 3 a0).bind fun b1_1 =>
  (gR Z I 8 3 b1_1).bind fun b4_2 =>
  (isK Z b4_2 3).bind fun u7_3 =>
  (f58 kad N Z b4_2 I).bind fun r7_4 =>
  if r7_4.1 = 0 ∨ r7_4.1 = 1 then some (r7_4.1, r7_4.2) else none
theorem Tf174 {kad : Nat → Nat} {N : Nat} {Z : AZ} {d : Nat} {t : Option Nat × (Nat × Nat)} (hd : 5 ≤ d) : ∀ (a0 : Nat) (I : AI) (r : Int32 × AI), f174 kad N Z a0 I = some r → aGo kad d 174 (0, ([(0, .ref a0)], [])) (aMem Z I, t) (qI Z t r) := by
  intro a0 I r h
  unfold f174 at h
  refine go_ops aMi174 1 _ (f1 := (1, ([(0, .ref a0)], [.ref a0]))) rfl ?_
  obtain ⟨b1_1, hxb1_1, h⟩ := Option.bind_eq_some_iff.mp h
  refine gg_gR aMi174 rfl rfl rfl hxb1_1 ?_
  obtain ⟨b4_2, hxb4_2, h⟩ := Option.bind_eq_some_iff.mp h
  refine gg_gR aMi174 rfl rfl rfl hxb4_2 ?_
  obtain ⟨u7_3, hxu7_3, h⟩ := Option.bind_eq_some_iff.mp h
  obtain ⟨r7_4, hxr7_4, h⟩ := Option.bind_eq_some_iff.mp h
  refine gg_cv (as := []) (r := []) aMi174 rfl rfl rfl aMi58 (Nat.le_of_ble_eq_true rfl) rfl (Nat.le_of_ble_eq_true rfl) (Nat.le_of_ble_eq_true rfl) (by omega) hxu7_3 (Tf58 (by omega) b4_2 I _ hxr7_4) ?_
  show aGo kad d 174 (10, ([(0, .ref a0)], [.int r7_4.1])) (aMem Z r7_4.2, t) _
  split at h
  · rename_i hz
    cases h
    exact go_ret aMi174 rfl (aRetZ hz) ⟨rfl, rfl⟩
  · cases h
-- KernelGym.tests ()I
def f179 (kad : Nat → Nat) (N : Nat) (Z : AZ) (a0 : Nat) (I : AI) : Option (Int32 × AI) :=
  (gI Z I 10 12 a0).bind fun x1_1 =>
  some (x1_1, I)
theorem Tf179 {kad : Nat → Nat} {N : Nat} {Z : AZ} {d : Nat} {t : Option Nat × (Nat × Nat)} (hd : 0 ≤ d) : ∀ (a0 : Nat) (I : AI) (r : Int32 × AI), f179 kad N Z a0 I = some r → aGo kad d 179 (0, ([(0, .ref a0)], [])) (aMem Z I, t) (qI Z t r) := by
  intro a0 I r h
  unfold f179 at h
  refine go_ops aMi179 1 _ (f1 := (1, ([(0, .ref a0)], [.ref a0]))) rfl ?_
  obtain ⟨x1_1, hxx1_1, h⟩ := Option.bind_eq_some_iff.mp h
  refine gg_gI aMi179 rfl rfl rfl hxx1_1 ?_
  cases h
  exact go_ret aMi179 rfl aRetI ⟨rfl, rfl⟩
-- KernelGym.mark ()I
def f182_b35 (kad : Nat → Nat) (N : Nat) (Z : AZ) (i1 : Int32) (I : AI) : Option (Int32 × AI) :=
  some ((if i1 < (0 : Int32) then (0 : Int32) else i1), I)
theorem Tf182_b35 {kad : Nat → Nat} {N : Nat} {Z : AZ} {d : Nat} {t : Option Nat × (Nat × Nat)} (hd : 1 ≤ d) : ∀ (i1 : Int32) (I : AI) (r : Int32 × AI), f182_b35 kad N Z i1 I = some r → aGo kad d 182 (35, ([(1, .int i1)], [])) (aMem Z I, t) (qI Z t r) := by
  intro i1 I r h
  unfold f182_b35 at h
  refine go_ops aMi182 2 _ (f1 := (37, ([(1, .int i1)], [.int (0 : Int32), .int i1]))) rfl ?_
  refine gg_mx aMi182 rfl rfl (Nat.le_of_ble_eq_true rfl) ?_
  cases h
  exact go_ret aMi182 rfl aRetI ⟨rfl, rfl⟩
def f182_b4 (kad : Nat → Nat) (N : Nat) (Z : AZ) : Nat → Nat → Int32 → Int32 → AI → Option (Int32 × AI)
  | 0, _, _, _, _ => none
  | F + 1, a0, i1, i2, I =>
    (gI Z I 10 12 a0).bind fun x6_1 =>
    if x6_1 ≤ i2 then
      f182_b35 kad N Z i1 I
    else
      if (5 : Int32) ≤ i2 then
        f182_b35 kad N Z i1 I
      else
        (gR Z I 10 11 a0).bind fun b19_2 =>
        (lR Z I b19_2 i2).bind fun b23_3 =>
        (isK Z b23_3 9).bind fun u24_4 =>
        (f122 kad N Z b23_3 I).bind fun r24_5 =>
        f182_b4 kad N Z F a0 (i1 + r24_5.1) (i2 + (1 : Int32)) r24_5.2
theorem Tf182_b4 {kad : Nat → Nat} {N : Nat} {Z : AZ} {d : Nat} {t : Option Nat × (Nat × Nat)} (hd : 1 ≤ d) : ∀ (F : Nat) (a0 : Nat) (i1 : Int32) (i2 : Int32) (I : AI) (r : Int32 × AI), f182_b4 kad N Z F a0 i1 i2 I = some r → aGo kad d 182 (4, ([(0, .ref a0), (1, .int i1), (2, .int i2)], [])) (aMem Z I, t) (qI Z t r) := by
  intro F
  induction F with
  | zero => intro a0 i1 i2 I r h; cases h
  | succ F ih =>
    intro a0 i1 i2 I r h
    unfold f182_b4 at h
    refine go_ops aMi182 2 _ (f1 := (6, ([(0, .ref a0), (1, .int i1), (2, .int i2)], [.ref a0, .int i2]))) rfl ?_
    obtain ⟨x6_1, hxx6_1, h⟩ := Option.bind_eq_some_iff.mp h
    refine gg_gI aMi182 rfl rfl rfl hxx6_1 ?_
    refine gg_br (b := decide (x6_1 ≤ i2)) (tg := 35) (off := 26) aMi182 rfl rfl rfl rfl (fun hb => ?_) (fun hb => ?_)
    · rw [if_pos (of_decide_eq_true hb)] at h
      refine go_le (lv1 := [(1, .int i1)]) (aLe_of (show (List.map (fun q => q.1) ([(1, .int i1)] : ALv)).Nodup from (by show ([1] : List Nat).Nodup; decide)) (aSubL_cons rfl aSubL_nil)) ?_
      exact Tf182_b35 hd i1 I _ h
    · rw [if_neg (of_decide_eq_false hb)] at h
      refine go_ops aMi182 2 _ (f1 := (14, ([(0, .ref a0), (1, .int i1), (2, .int i2)], [.int (5 : Int32), .int i2]))) rfl ?_
      refine gg_br (b := decide ((5 : Int32) ≤ i2)) (tg := 35) (off := 21) aMi182 rfl rfl rfl rfl (fun hb => ?_) (fun hb => ?_)
      · rw [if_pos (of_decide_eq_true hb)] at h
        refine go_le (lv1 := [(1, .int i1)]) (aLe_of (show (List.map (fun q => q.1) ([(1, .int i1)] : ALv)).Nodup from (by show ([1] : List Nat).Nodup; decide)) (aSubL_cons rfl aSubL_nil)) ?_
        exact Tf182_b35 hd i1 I _ h
      · rw [if_neg (of_decide_eq_false hb)] at h
        refine go_ops aMi182 2 _ (f1 := (19, ([(0, .ref a0), (1, .int i1), (2, .int i2)], [.ref a0, .int i1]))) rfl ?_
        obtain ⟨b19_2, hxb19_2, h⟩ := Option.bind_eq_some_iff.mp h
        refine gg_gR aMi182 rfl rfl rfl hxb19_2 ?_
        refine go_ops aMi182 1 _ (f1 := (23, ([(0, .ref a0), (1, .int i1), (2, .int i2)], [.int i2, .ref b19_2, .int i1]))) rfl ?_
        obtain ⟨b23_3, hxb23_3, h⟩ := Option.bind_eq_some_iff.mp h
        refine gg_lR aMi182 rfl hxb23_3 ?_
        obtain ⟨u24_4, hxu24_4, h⟩ := Option.bind_eq_some_iff.mp h
        obtain ⟨r24_5, hxr24_5, h⟩ := Option.bind_eq_some_iff.mp h
        refine gg_cv (as := []) (r := [.int i1]) aMi182 rfl rfl rfl aMi122 (Nat.le_of_ble_eq_true rfl) rfl (Nat.le_of_ble_eq_true rfl) (Nat.le_of_ble_eq_true rfl) (by omega) hxu24_4 (Tf122 (by omega) b23_3 I _ hxr24_5) ?_
        show aGo kad d 182 (27, ([(0, .ref a0), (1, .int i1), (2, .int i2)], [.int r24_5.1, .int i1])) (aMem Z r24_5.2, t) _
        refine go_ops aMi182 4 _ (f1 := (4, ([(2, .int (i2 + (1 : Int32))), (1, .int (i1 + r24_5.1)), (0, .ref a0)], []))) rfl ?_
        refine go_le (lv1 := [(0, .ref a0), (1, .int (i1 + r24_5.1)), (2, .int (i2 + (1 : Int32)))]) (aLe_of (show (List.map (fun q => q.1) ([(0, .ref a0), (1, .int (i1 + r24_5.1)), (2, .int (i2 + (1 : Int32)))] : ALv)).Nodup from (by show ([0, 1, 2] : List Nat).Nodup; decide)) (aSubL_cons rfl (aSubL_cons rfl (aSubL_cons rfl aSubL_nil)))) ?_
        exact ih a0 (i1 + r24_5.1) (i2 + (1 : Int32)) r24_5.2 _ h
def f182 (kad : Nat → Nat) (N : Nat) (Z : AZ) (a0 : Nat) (I : AI) : Option (Int32 × AI) :=
  f182_b4 kad N Z N a0 (0 : Int32) (0 : Int32) I
theorem Tf182 {kad : Nat → Nat} {N : Nat} {Z : AZ} {d : Nat} {t : Option Nat × (Nat × Nat)} (hd : 1 ≤ d) : ∀ (a0 : Nat) (I : AI) (r : Int32 × AI), f182 kad N Z a0 I = some r → aGo kad d 182 (0, ([(0, .ref a0)], [])) (aMem Z I, t) (qI Z t r) := by
  intro a0 I r h
  unfold f182 at h
  refine go_ops aMi182 4 _ (f1 := (4, ([(2, .int (0 : Int32)), (1, .int (0 : Int32)), (0, .ref a0)], []))) rfl ?_
  refine go_le (lv1 := [(0, .ref a0), (1, .int (0 : Int32)), (2, .int (0 : Int32))]) (aLe_of (show (List.map (fun q => q.1) ([(0, .ref a0), (1, .int (0 : Int32)), (2, .int (0 : Int32))] : ALv)).Nodup from (by show ([0, 1, 2] : List Nat).Nodup; decide)) (aSubL_cons rfl (aSubL_cons rfl (aSubL_cons rfl aSubL_nil)))) ?_
  exact Tf182_b4 hd N a0 (0 : Int32) (0 : Int32) I _ h
-- KernelGymModel.thrown ()I
def f184 (kad : Nat → Nat) (N : Nat) (Z : AZ) (a0 : Nat) (I : AI) : Option (Int32 × AI) :=
  (gI Z I 11 0 a0).bind fun x1_1 =>
  some (x1_1, I)
theorem Tf184 {kad : Nat → Nat} {N : Nat} {Z : AZ} {d : Nat} {t : Option Nat × (Nat × Nat)} (hd : 0 ≤ d) : ∀ (a0 : Nat) (I : AI) (r : Int32 × AI), f184 kad N Z a0 I = some r → aGo kad d 184 (0, ([(0, .ref a0)], [])) (aMem Z I, t) (qI Z t r) := by
  intro a0 I r h
  unfold f184 at h
  refine go_ops aMi184 1 _ (f1 := (1, ([(0, .ref a0)], [.ref a0]))) rfl ?_
  obtain ⟨x1_1, hxx1_1, h⟩ := Option.bind_eq_some_iff.mp h
  refine gg_gI aMi184 rfl rfl rfl hxx1_1 ?_
  cases h
  exact go_ret aMi184 rfl aRetI ⟨rfl, rfl⟩
-- KernelGymModel.holds (I)Z
def f185_b14 (kad : Nat → Nat) (N : Nat) (Z : AZ) (s0 : Int32) (I : AI) : Option (Int32 × AI) :=
  if s0 = 0 ∨ s0 = 1 then some (s0, I) else none
theorem Tf185_b14 {kad : Nat → Nat} {N : Nat} {Z : AZ} {d : Nat} {t : Option Nat × (Nat × Nat)} (hd : 0 ≤ d) : ∀ (s0 : Int32) (I : AI) (r : Int32 × AI), f185_b14 kad N Z s0 I = some r → aGo kad d 185 (14, ([], [.int s0])) (aMem Z I, t) (qI Z t r) := by
  intro s0 I r h
  unfold f185_b14 at h
  split at h
  · rename_i hz
    cases h
    exact go_ret aMi185 rfl (aRetZ hz) ⟨rfl, rfl⟩
  · cases h
def f185 (kad : Nat → Nat) (N : Nat) (Z : AZ) (a0 : Nat) (i1 : Int32) (I : AI) : Option (Int32 × AI) :=
  (pI Z I 11 0 a0 i1).bind fun I2_1 =>
  if ¬ i1 = 0 then
    f185_b14 kad N Z (0 : Int32) I2_1
  else
    f185_b14 kad N Z (1 : Int32) I2_1
theorem Tf185 {kad : Nat → Nat} {N : Nat} {Z : AZ} {d : Nat} {t : Option Nat × (Nat × Nat)} (hd : 0 ≤ d) : ∀ (a0 : Nat) (i1 : Int32) (I : AI) (r : Int32 × AI), f185 kad N Z a0 i1 I = some r → aGo kad d 185 (0, ([(0, .ref a0), (1, .int i1)], [])) (aMem Z I, t) (qI Z t r) := by
  intro a0 i1 I r h
  unfold f185 at h
  refine go_ops aMi185 2 _ (f1 := (2, ([(0, .ref a0), (1, .int i1)], [.int i1, .ref a0]))) rfl ?_
  obtain ⟨I2_1, hxI2_1, h⟩ := Option.bind_eq_some_iff.mp h
  refine gg_pI aMi185 rfl rfl rfl rfl (by decide) hxI2_1 ?_
  refine go_ops aMi185 1 _ (f1 := (6, ([(0, .ref a0), (1, .int i1)], [.int i1]))) rfl ?_
  refine gg_br (b := decide (¬ i1 = 0)) (tg := 13) (off := 7) aMi185 rfl rfl rfl rfl (fun hb => ?_) (fun hb => ?_)
  · rw [if_pos (of_decide_eq_true hb)] at h
    refine go_ops aMi185 1 _ (f1 := (14, ([(0, .ref a0), (1, .int i1)], [.int (0 : Int32)]))) rfl ?_
    refine go_le (lv1 := []) (aLe_of (show (List.map (fun q => q.1) ([] : ALv)).Nodup from (by show ([] : List Nat).Nodup; decide)) aSubL_nil) ?_
    exact Tf185_b14 hd (0 : Int32) I2_1 _ h
  · rw [if_neg (of_decide_eq_false hb)] at h
    refine go_ops aMi185 2 _ (f1 := (14, ([(0, .ref a0), (1, .int i1)], [.int (1 : Int32)]))) rfl ?_
    refine go_le (lv1 := []) (aLe_of (show (List.map (fun q => q.1) ([] : ALv)).Nodup from (by show ([] : List Nat).Nodup; decide)) aSubL_nil) ?_
    exact Tf185_b14 hd (1 : Int32) I2_1 _ h
-- KernelGymModel.in (III)Z
def f186_b15 (kad : Nat → Nat) (N : Nat) (Z : AZ) (s0 : Int32) (I : AI) : Option (Int32 × AI) :=
  if s0 = 0 ∨ s0 = 1 then some (s0, I) else none
theorem Tf186_b15 {kad : Nat → Nat} {N : Nat} {Z : AZ} {d : Nat} {t : Option Nat × (Nat × Nat)} (hd : 0 ≤ d) : ∀ (s0 : Int32) (I : AI) (r : Int32 × AI), f186_b15 kad N Z s0 I = some r → aGo kad d 186 (15, ([], [.int s0])) (aMem Z I, t) (qI Z t r) := by
  intro s0 I r h
  unfold f186_b15 at h
  split at h
  · rename_i hz
    cases h
    exact go_ret aMi186 rfl (aRetZ hz) ⟨rfl, rfl⟩
  · cases h
def f186_b14 (kad : Nat → Nat) (N : Nat) (Z : AZ)  (I : AI) : Option (Int32 × AI) :=
  f186_b15 kad N Z (0 : Int32) I
theorem Tf186_b14 {kad : Nat → Nat} {N : Nat} {Z : AZ} {d : Nat} {t : Option Nat × (Nat × Nat)} (hd : 0 ≤ d) : ∀  (I : AI) (r : Int32 × AI), f186_b14 kad N Z  I = some r → aGo kad d 186 (14, ([], [])) (aMem Z I, t) (qI Z t r) := by
  intro  I r h
  unfold f186_b14 at h
  refine go_ops aMi186 1 _ (f1 := (15, ([], [.int (0 : Int32)]))) rfl ?_
  exact Tf186_b15 hd (0 : Int32) I _ h
def f186 (kad : Nat → Nat) (N : Nat) (Z : AZ) (i0 : Int32) (i1 : Int32) (i2 : Int32) (I : AI) : Option (Int32 × AI) :=
  if i0 < i1 then
    f186_b14 kad N Z  I
  else
    if i2 < i0 then
      f186_b14 kad N Z  I
    else
      f186_b15 kad N Z (1 : Int32) I
theorem Tf186 {kad : Nat → Nat} {N : Nat} {Z : AZ} {d : Nat} {t : Option Nat × (Nat × Nat)} (hd : 0 ≤ d) : ∀ (i0 : Int32) (i1 : Int32) (i2 : Int32) (I : AI) (r : Int32 × AI), f186 kad N Z i0 i1 i2 I = some r → aGo kad d 186 (0, ([(0, .int i0), (1, .int i1), (2, .int i2)], [])) (aMem Z I, t) (qI Z t r) := by
  intro i0 i1 i2 I r h
  unfold f186 at h
  refine go_ops aMi186 2 _ (f1 := (2, ([(0, .int i0), (1, .int i1), (2, .int i2)], [.int i1, .int i0]))) rfl ?_
  refine gg_br (b := decide (i0 < i1)) (tg := 14) (off := 12) aMi186 rfl rfl rfl rfl (fun hb => ?_) (fun hb => ?_)
  · rw [if_pos (of_decide_eq_true hb)] at h
    refine go_le (lv1 := []) (aLe_of (show (List.map (fun q => q.1) ([] : ALv)).Nodup from (by show ([] : List Nat).Nodup; decide)) aSubL_nil) ?_
    exact Tf186_b14 hd  I _ h
  · rw [if_neg (of_decide_eq_false hb)] at h
    refine go_ops aMi186 2 _ (f1 := (7, ([(0, .int i0), (1, .int i1), (2, .int i2)], [.int i2, .int i0]))) rfl ?_
    refine gg_br (b := decide (i2 < i0)) (tg := 14) (off := 7) aMi186 rfl rfl rfl rfl (fun hb => ?_) (fun hb => ?_)
    · rw [if_pos (of_decide_eq_true hb)] at h
      refine go_le (lv1 := []) (aLe_of (show (List.map (fun q => q.1) ([] : ALv)).Nodup from (by show ([] : List Nat).Nodup; decide)) aSubL_nil) ?_
      exact Tf186_b14 hd  I _ h
    · rw [if_neg (of_decide_eq_false hb)] at h
      refine go_ops aMi186 2 _ (f1 := (15, ([(0, .int i0), (1, .int i1), (2, .int i2)], [.int (1 : Int32)]))) rfl ?_
      refine go_le (lv1 := []) (aLe_of (show (List.map (fun q => q.1) ([] : ALv)).Nodup from (by show ([] : List Nat).Nodup; decide)) aSubL_nil) ?_
      exact Tf186_b15 hd (1 : Int32) I _ h
-- KernelGymModel.clear ()I
def f187 (kad : Nat → Nat) (N : Nat) (Z : AZ) (a0 : Nat) (I : AI) : Option (Int32 × AI) :=
  (pI Z I 11 0 a0 (0 : Int32)).bind fun I2_1 =>
  (gI Z I2_1 11 1 a0).bind fun x6_2 =>
  (pI Z I2_1 11 1 a0 (0 : Int32)).bind fun I12_3 =>
  some (x6_2, I12_3)
theorem Tf187 {kad : Nat → Nat} {N : Nat} {Z : AZ} {d : Nat} {t : Option Nat × (Nat × Nat)} (hd : 0 ≤ d) : ∀ (a0 : Nat) (I : AI) (r : Int32 × AI), f187 kad N Z a0 I = some r → aGo kad d 187 (0, ([(0, .ref a0)], [])) (aMem Z I, t) (qI Z t r) := by
  intro a0 I r h
  unfold f187 at h
  refine go_ops aMi187 2 _ (f1 := (2, ([(0, .ref a0)], [.int (0 : Int32), .ref a0]))) rfl ?_
  obtain ⟨I2_1, hxI2_1, h⟩ := Option.bind_eq_some_iff.mp h
  refine gg_pI aMi187 rfl rfl rfl rfl (by decide) hxI2_1 ?_
  refine go_ops aMi187 1 _ (f1 := (6, ([(0, .ref a0)], [.ref a0]))) rfl ?_
  obtain ⟨x6_2, hxx6_2, h⟩ := Option.bind_eq_some_iff.mp h
  refine gg_gI aMi187 rfl rfl rfl hxx6_2 ?_
  refine go_ops aMi187 3 _ (f1 := (12, ([(1, .int x6_2), (0, .ref a0)], [.int (0 : Int32), .ref a0]))) rfl ?_
  obtain ⟨I12_3, hxI12_3, h⟩ := Option.bind_eq_some_iff.mp h
  refine gg_pI aMi187 rfl rfl rfl rfl (by decide) hxI12_3 ?_
  refine go_ops aMi187 1 _ (f1 := (16, ([(1, .int x6_2), (0, .ref a0)], [.int x6_2]))) rfl ?_
  cases h
  exact go_ret aMi187 rfl aRetI ⟨rfl, rfl⟩
-- KernelGymModel.lines ()I
def f188 (kad : Nat → Nat) (N : Nat) (Z : AZ) (a0 : Nat) (I : AI) : Option (Int32 × AI) :=
  (pI Z I 11 0 a0 (0 : Int32)).bind fun I2_1 =>
  (gI Z I2_1 11 1 a0).bind fun x6_2 =>
  some (x6_2, I2_1)
theorem Tf188 {kad : Nat → Nat} {N : Nat} {Z : AZ} {d : Nat} {t : Option Nat × (Nat × Nat)} (hd : 0 ≤ d) : ∀ (a0 : Nat) (I : AI) (r : Int32 × AI), f188 kad N Z a0 I = some r → aGo kad d 188 (0, ([(0, .ref a0)], [])) (aMem Z I, t) (qI Z t r) := by
  intro a0 I r h
  unfold f188 at h
  refine go_ops aMi188 2 _ (f1 := (2, ([(0, .ref a0)], [.int (0 : Int32), .ref a0]))) rfl ?_
  obtain ⟨I2_1, hxI2_1, h⟩ := Option.bind_eq_some_iff.mp h
  refine gg_pI aMi188 rfl rfl rfl rfl (by decide) hxI2_1 ?_
  refine go_ops aMi188 1 _ (f1 := (6, ([(0, .ref a0)], [.ref a0]))) rfl ?_
  obtain ⟨x6_2, hxx6_2, h⟩ := Option.bind_eq_some_iff.mp h
  refine gg_gI aMi188 rfl rfl rfl hxx6_2 ?_
  cases h
  exact go_ret aMi188 rfl aRetI ⟨rfl, rfl⟩
-- KernelGymModel.isOperand (II)Z
def f189_b34 (kad : Nat → Nat) (N : Nat) (Z : AZ) (s0 : Int32) (I : AI) : Option (Int32 × AI) :=
  if s0 = 0 ∨ s0 = 1 then some (s0, I) else none
theorem Tf189_b34 {kad : Nat → Nat} {N : Nat} {Z : AZ} {d : Nat} {t : Option Nat × (Nat × Nat)} (hd : 1 ≤ d) : ∀ (s0 : Int32) (I : AI) (r : Int32 × AI), f189_b34 kad N Z s0 I = some r → aGo kad d 189 (34, ([], [.int s0])) (aMem Z I, t) (qI Z t r) := by
  intro s0 I r h
  unfold f189_b34 at h
  split at h
  · rename_i hz
    cases h
    exact go_ret aMi189 rfl (aRetZ hz) ⟨rfl, rfl⟩
  · cases h
def f189_b33 (kad : Nat → Nat) (N : Nat) (Z : AZ)  (I : AI) : Option (Int32 × AI) :=
  f189_b34 kad N Z (0 : Int32) I
theorem Tf189_b33 {kad : Nat → Nat} {N : Nat} {Z : AZ} {d : Nat} {t : Option Nat × (Nat × Nat)} (hd : 1 ≤ d) : ∀  (I : AI) (r : Int32 × AI), f189_b33 kad N Z  I = some r → aGo kad d 189 (33, ([], [])) (aMem Z I, t) (qI Z t r) := by
  intro  I r h
  unfold f189_b33 at h
  refine go_ops aMi189 1 _ (f1 := (34, ([], [.int (0 : Int32)]))) rfl ?_
  exact Tf189_b34 hd (0 : Int32) I _ h
def f189_b23 (kad : Nat → Nat) (N : Nat) (Z : AZ) (s0 : Int32) (s1 : Int32) (s2 : Int32) (I : AI) : Option (Int32 × AI) :=
  (f186 kad N Z s2 s1 s0 I).bind fun r23_1 =>
  if r23_1.1 = 0 then
    f189_b33 kad N Z  r23_1.2
  else
    f189_b34 kad N Z (1 : Int32) r23_1.2
theorem Tf189_b23 {kad : Nat → Nat} {N : Nat} {Z : AZ} {d : Nat} {t : Option Nat × (Nat × Nat)} (hd : 1 ≤ d) : ∀ (s0 : Int32) (s1 : Int32) (s2 : Int32) (I : AI) (r : Int32 × AI), f189_b23 kad N Z s0 s1 s2 I = some r → aGo kad d 189 (23, ([], [.int s0, .int s1, .int s2])) (aMem Z I, t) (qI Z t r) := by
  intro s0 s1 s2 I r h
  unfold f189_b23 at h
  obtain ⟨r23_1, hxr23_1, h⟩ := Option.bind_eq_some_iff.mp h
  refine gg_cs (as := [.int s2, .int s1, .int s0]) (r := []) aMi189 rfl rfl rfl aMi186 rfl (Nat.le_of_ble_eq_true rfl) (Nat.le_of_ble_eq_true rfl) (by omega) (Tf186 (by omega) s2 s1 s0 I _ hxr23_1) ?_
  show aGo kad d 189 (26, ([], [.int r23_1.1])) (aMem Z r23_1.2, t) _
  refine gg_br (b := decide (r23_1.1 = 0)) (tg := 33) (off := 7) aMi189 rfl rfl rfl rfl (fun hb => ?_) (fun hb => ?_)
  · rw [if_pos (of_decide_eq_true hb)] at h
    exact Tf189_b33 hd  r23_1.2 _ h
  · rw [if_neg (of_decide_eq_false hb)] at h
    refine go_ops aMi189 2 _ (f1 := (34, ([], [.int (1 : Int32)]))) rfl ?_
    exact Tf189_b34 hd (1 : Int32) r23_1.2 _ h
def f189 (kad : Nat → Nat) (N : Nat) (Z : AZ) (i0 : Int32) (i1 : Int32) (I : AI) : Option (Int32 × AI) :=
  (f186 kad N Z i0 (0 : Int32) (3 : Int32) I).bind fun r3_1 =>
  if r3_1.1 = 0 then
    f189_b33 kad N Z  r3_1.2
  else
    if ¬ i0 = (1 : Int32) then
      f189_b23 kad N Z (65535 : Int32) (0 : Int32) i1 r3_1.2
    else
      f189_b23 kad N Z (19 : Int32) (0 : Int32) i1 r3_1.2
theorem Tf189 {kad : Nat → Nat} {N : Nat} {Z : AZ} {d : Nat} {t : Option Nat × (Nat × Nat)} (hd : 1 ≤ d) : ∀ (i0 : Int32) (i1 : Int32) (I : AI) (r : Int32 × AI), f189 kad N Z i0 i1 I = some r → aGo kad d 189 (0, ([(0, .int i0), (1, .int i1)], [])) (aMem Z I, t) (qI Z t r) := by
  intro i0 i1 I r h
  unfold f189 at h
  refine go_ops aMi189 3 _ (f1 := (3, ([(0, .int i0), (1, .int i1)], [.int (3 : Int32), .int (0 : Int32), .int i0]))) rfl ?_
  obtain ⟨r3_1, hxr3_1, h⟩ := Option.bind_eq_some_iff.mp h
  refine gg_cs (as := [.int i0, .int (0 : Int32), .int (3 : Int32)]) (r := []) aMi189 rfl rfl rfl aMi186 rfl (Nat.le_of_ble_eq_true rfl) (Nat.le_of_ble_eq_true rfl) (by omega) (Tf186 (by omega) i0 (0 : Int32) (3 : Int32) I _ hxr3_1) ?_
  show aGo kad d 189 (6, ([(0, .int i0), (1, .int i1)], [.int r3_1.1])) (aMem Z r3_1.2, t) _
  refine gg_br (b := decide (r3_1.1 = 0)) (tg := 33) (off := 27) aMi189 rfl rfl rfl rfl (fun hb => ?_) (fun hb => ?_)
  · rw [if_pos (of_decide_eq_true hb)] at h
    refine go_le (lv1 := []) (aLe_of (show (List.map (fun q => q.1) ([] : ALv)).Nodup from (by show ([] : List Nat).Nodup; decide)) aSubL_nil) ?_
    exact Tf189_b33 hd  r3_1.2 _ h
  · rw [if_neg (of_decide_eq_false hb)] at h
    refine go_ops aMi189 4 _ (f1 := (13, ([(0, .int i0), (1, .int i1)], [.int (1 : Int32), .int i0, .int (0 : Int32), .int i1]))) rfl ?_
    refine gg_br (b := decide (¬ i0 = (1 : Int32))) (tg := 21) (off := 8) aMi189 rfl rfl rfl rfl (fun hb => ?_) (fun hb => ?_)
    · rw [if_pos (of_decide_eq_true hb)] at h
      refine gg_kI (Or.inl ⟨rfl, rfl⟩) aMi189 rfl rfl ?_
      refine go_le (lv1 := []) (aLe_of (show (List.map (fun q => q.1) ([] : ALv)).Nodup from (by show ([] : List Nat).Nodup; decide)) aSubL_nil) ?_
      exact Tf189_b23 hd (65535 : Int32) (0 : Int32) i1 r3_1.2 _ h
    · rw [if_neg (of_decide_eq_false hb)] at h
      refine go_ops aMi189 2 _ (f1 := (23, ([(0, .int i0), (1, .int i1)], [.int (19 : Int32), .int (0 : Int32), .int i1]))) rfl ?_
      refine go_le (lv1 := []) (aLe_of (show (List.map (fun q => q.1) ([] : ALv)).Nodup from (by show ([] : List Nat).Nodup; decide)) aSubL_nil) ?_
      exact Tf189_b23 hd (19 : Int32) (0 : Int32) i1 r3_1.2 _ h
-- KernelGymModel.adds (ZIIIIII)I
def f190_b23 (kad : Nat → Nat) (N : Nat) (Z : AZ) (a0 : Nat) (i2 : Int32) (i3 : Int32) (i4 : Int32) (i5 : Int32) (i6 : Int32) (i7 : Int32) (s0 : Int32) (s1 : Nat) (I : AI) : Option (Int32 × AI) :=
  (isK Z s1 11).bind fun u23_1 =>
  (f185 kad N Z s1 s0 I).bind fun r23_2 =>
  if ¬ r23_2.1 = 0 then
    (gR Z r23_2.2 11 2 a0).bind fun b32_3 =>
    (gI Z r23_2.2 11 1 a0).bind fun x36_4 =>
    (sI Z r23_2.2 100 b32_3 x36_4 i2).bind fun I40_5 =>
    (gR Z I40_5 11 3 a0).bind fun b42_6 =>
    (gI Z I40_5 11 1 a0).bind fun x47_7 =>
    (sI Z I40_5 100 b42_6 ((5 : Int32) * x47_7) i3).bind fun I52_8 =>
    (gR Z I52_8 11 3 a0).bind fun b54_9 =>
    (gI Z I52_8 11 1 a0).bind fun x59_10 =>
    (sI Z I52_8 100 b54_9 (((5 : Int32) * x59_10) + (1 : Int32)) i4).bind fun I67_11 =>
    (gR Z I67_11 11 3 a0).bind fun b69_12 =>
    (gI Z I67_11 11 1 a0).bind fun x74_13 =>
    (sI Z I67_11 100 b69_12 (((5 : Int32) * x74_13) + (2 : Int32)) i5).bind fun I82_14 =>
    (gR Z I82_14 11 3 a0).bind fun b84_15 =>
    (gI Z I82_14 11 1 a0).bind fun x89_16 =>
    (sI Z I82_14 100 b84_15 (((5 : Int32) * x89_16) + (3 : Int32)) i6).bind fun I97_17 =>
    (gR Z I97_17 11 3 a0).bind fun b99_18 =>
    (gI Z I97_17 11 1 a0).bind fun x104_19 =>
    (sI Z I97_17 100 b99_18 (((5 : Int32) * x104_19) + (4 : Int32)) i7).bind fun I112_20 =>
    (gI Z I112_20 11 1 a0).bind fun x115_21 =>
    (pI Z I112_20 11 1 a0 (x115_21 + (1 : Int32))).bind fun I120_22 =>
    (gI Z I120_22 11 1 a0).bind fun x124_23 =>
    some (x124_23, I120_22)
  else
    some ((0 : Int32), r23_2.2)
theorem Tf190_b23 {kad : Nat → Nat} {N : Nat} {Z : AZ} {d : Nat} {t : Option Nat × (Nat × Nat)} (hd : 1 ≤ d) : ∀ (a0 : Nat) (i2 : Int32) (i3 : Int32) (i4 : Int32) (i5 : Int32) (i6 : Int32) (i7 : Int32) (s0 : Int32) (s1 : Nat) (I : AI) (r : Int32 × AI), f190_b23 kad N Z a0 i2 i3 i4 i5 i6 i7 s0 s1 I = some r → aGo kad d 190 (23, ([(0, .ref a0), (2, .int i2), (3, .int i3), (4, .int i4), (5, .int i5), (6, .int i6), (7, .int i7)], [.int s0, .ref s1])) (aMem Z I, t) (qI Z t r) := by
  intro a0 i2 i3 i4 i5 i6 i7 s0 s1 I r h
  unfold f190_b23 at h
  obtain ⟨u23_1, hxu23_1, h⟩ := Option.bind_eq_some_iff.mp h
  obtain ⟨r23_2, hxr23_2, h⟩ := Option.bind_eq_some_iff.mp h
  refine gg_cv (as := [.int s0]) (r := []) aMi190 rfl rfl rfl aMi185 (Nat.le_of_ble_eq_true rfl) rfl (Nat.le_of_ble_eq_true rfl) (Nat.le_of_ble_eq_true rfl) (by omega) hxu23_1 (Tf185 (by omega) s1 s0 I _ hxr23_2) ?_
  show aGo kad d 190 (26, ([(0, .ref a0), (2, .int i2), (3, .int i3), (4, .int i4), (5, .int i5), (6, .int i6), (7, .int i7)], [.int r23_2.1])) (aMem Z r23_2.2, t) _
  refine gg_br (b := decide (¬ r23_2.1 = 0)) (tg := 31) (off := 5) aMi190 rfl rfl rfl rfl (fun hb => ?_) (fun hb => ?_)
  · rw [if_pos (of_decide_eq_true hb)] at h
    refine go_ops aMi190 1 _ (f1 := (32, ([(0, .ref a0), (2, .int i2), (3, .int i3), (4, .int i4), (5, .int i5), (6, .int i6), (7, .int i7)], [.ref a0]))) rfl ?_
    obtain ⟨b32_3, hxb32_3, h⟩ := Option.bind_eq_some_iff.mp h
    refine gg_gR aMi190 rfl rfl rfl hxb32_3 ?_
    refine go_ops aMi190 1 _ (f1 := (36, ([(0, .ref a0), (2, .int i2), (3, .int i3), (4, .int i4), (5, .int i5), (6, .int i6), (7, .int i7)], [.ref a0, .ref b32_3]))) rfl ?_
    obtain ⟨x36_4, hxx36_4, h⟩ := Option.bind_eq_some_iff.mp h
    refine gg_gI aMi190 rfl rfl rfl hxx36_4 ?_
    refine go_ops aMi190 1 _ (f1 := (40, ([(0, .ref a0), (2, .int i2), (3, .int i3), (4, .int i4), (5, .int i5), (6, .int i6), (7, .int i7)], [.int i2, .int x36_4, .ref b32_3]))) rfl ?_
    obtain ⟨I40_5, hxI40_5, h⟩ := Option.bind_eq_some_iff.mp h
    refine gg_sI (Or.inl ⟨rfl, rfl⟩) aMi190 rfl hxI40_5 ?_
    refine go_ops aMi190 1 _ (f1 := (42, ([(0, .ref a0), (2, .int i2), (3, .int i3), (4, .int i4), (5, .int i5), (6, .int i6), (7, .int i7)], [.ref a0]))) rfl ?_
    obtain ⟨b42_6, hxb42_6, h⟩ := Option.bind_eq_some_iff.mp h
    refine gg_gR aMi190 rfl rfl rfl hxb42_6 ?_
    refine go_ops aMi190 2 _ (f1 := (47, ([(0, .ref a0), (2, .int i2), (3, .int i3), (4, .int i4), (5, .int i5), (6, .int i6), (7, .int i7)], [.ref a0, .int (5 : Int32), .ref b42_6]))) rfl ?_
    obtain ⟨x47_7, hxx47_7, h⟩ := Option.bind_eq_some_iff.mp h
    refine gg_gI aMi190 rfl rfl rfl hxx47_7 ?_
    refine go_ops aMi190 2 _ (f1 := (52, ([(0, .ref a0), (2, .int i2), (3, .int i3), (4, .int i4), (5, .int i5), (6, .int i6), (7, .int i7)], [.int i3, .int ((5 : Int32) * x47_7), .ref b42_6]))) rfl ?_
    obtain ⟨I52_8, hxI52_8, h⟩ := Option.bind_eq_some_iff.mp h
    refine gg_sI (Or.inl ⟨rfl, rfl⟩) aMi190 rfl hxI52_8 ?_
    refine go_ops aMi190 1 _ (f1 := (54, ([(0, .ref a0), (2, .int i2), (3, .int i3), (4, .int i4), (5, .int i5), (6, .int i6), (7, .int i7)], [.ref a0]))) rfl ?_
    obtain ⟨b54_9, hxb54_9, h⟩ := Option.bind_eq_some_iff.mp h
    refine gg_gR aMi190 rfl rfl rfl hxb54_9 ?_
    refine go_ops aMi190 2 _ (f1 := (59, ([(0, .ref a0), (2, .int i2), (3, .int i3), (4, .int i4), (5, .int i5), (6, .int i6), (7, .int i7)], [.ref a0, .int (5 : Int32), .ref b54_9]))) rfl ?_
    obtain ⟨x59_10, hxx59_10, h⟩ := Option.bind_eq_some_iff.mp h
    refine gg_gI aMi190 rfl rfl rfl hxx59_10 ?_
    refine go_ops aMi190 4 _ (f1 := (67, ([(0, .ref a0), (2, .int i2), (3, .int i3), (4, .int i4), (5, .int i5), (6, .int i6), (7, .int i7)], [.int i4, .int (((5 : Int32) * x59_10) + (1 : Int32)), .ref b54_9]))) rfl ?_
    obtain ⟨I67_11, hxI67_11, h⟩ := Option.bind_eq_some_iff.mp h
    refine gg_sI (Or.inl ⟨rfl, rfl⟩) aMi190 rfl hxI67_11 ?_
    refine go_ops aMi190 1 _ (f1 := (69, ([(0, .ref a0), (2, .int i2), (3, .int i3), (4, .int i4), (5, .int i5), (6, .int i6), (7, .int i7)], [.ref a0]))) rfl ?_
    obtain ⟨b69_12, hxb69_12, h⟩ := Option.bind_eq_some_iff.mp h
    refine gg_gR aMi190 rfl rfl rfl hxb69_12 ?_
    refine go_ops aMi190 2 _ (f1 := (74, ([(0, .ref a0), (2, .int i2), (3, .int i3), (4, .int i4), (5, .int i5), (6, .int i6), (7, .int i7)], [.ref a0, .int (5 : Int32), .ref b69_12]))) rfl ?_
    obtain ⟨x74_13, hxx74_13, h⟩ := Option.bind_eq_some_iff.mp h
    refine gg_gI aMi190 rfl rfl rfl hxx74_13 ?_
    refine go_ops aMi190 4 _ (f1 := (82, ([(0, .ref a0), (2, .int i2), (3, .int i3), (4, .int i4), (5, .int i5), (6, .int i6), (7, .int i7)], [.int i5, .int (((5 : Int32) * x74_13) + (2 : Int32)), .ref b69_12]))) rfl ?_
    obtain ⟨I82_14, hxI82_14, h⟩ := Option.bind_eq_some_iff.mp h
    refine gg_sI (Or.inl ⟨rfl, rfl⟩) aMi190 rfl hxI82_14 ?_
    refine go_ops aMi190 1 _ (f1 := (84, ([(0, .ref a0), (2, .int i2), (3, .int i3), (4, .int i4), (5, .int i5), (6, .int i6), (7, .int i7)], [.ref a0]))) rfl ?_
    obtain ⟨b84_15, hxb84_15, h⟩ := Option.bind_eq_some_iff.mp h
    refine gg_gR aMi190 rfl rfl rfl hxb84_15 ?_
    refine go_ops aMi190 2 _ (f1 := (89, ([(0, .ref a0), (2, .int i2), (3, .int i3), (4, .int i4), (5, .int i5), (6, .int i6), (7, .int i7)], [.ref a0, .int (5 : Int32), .ref b84_15]))) rfl ?_
    obtain ⟨x89_16, hxx89_16, h⟩ := Option.bind_eq_some_iff.mp h
    refine gg_gI aMi190 rfl rfl rfl hxx89_16 ?_
    refine go_ops aMi190 4 _ (f1 := (97, ([(0, .ref a0), (2, .int i2), (3, .int i3), (4, .int i4), (5, .int i5), (6, .int i6), (7, .int i7)], [.int i6, .int (((5 : Int32) * x89_16) + (3 : Int32)), .ref b84_15]))) rfl ?_
    obtain ⟨I97_17, hxI97_17, h⟩ := Option.bind_eq_some_iff.mp h
    refine gg_sI (Or.inl ⟨rfl, rfl⟩) aMi190 rfl hxI97_17 ?_
    refine go_ops aMi190 1 _ (f1 := (99, ([(0, .ref a0), (2, .int i2), (3, .int i3), (4, .int i4), (5, .int i5), (6, .int i6), (7, .int i7)], [.ref a0]))) rfl ?_
    obtain ⟨b99_18, hxb99_18, h⟩ := Option.bind_eq_some_iff.mp h
    refine gg_gR aMi190 rfl rfl rfl hxb99_18 ?_
    refine go_ops aMi190 2 _ (f1 := (104, ([(0, .ref a0), (2, .int i2), (3, .int i3), (4, .int i4), (5, .int i5), (6, .int i6), (7, .int i7)], [.ref a0, .int (5 : Int32), .ref b99_18]))) rfl ?_
    obtain ⟨x104_19, hxx104_19, h⟩ := Option.bind_eq_some_iff.mp h
    refine gg_gI aMi190 rfl rfl rfl hxx104_19 ?_
    refine go_ops aMi190 4 _ (f1 := (112, ([(0, .ref a0), (2, .int i2), (3, .int i3), (4, .int i4), (5, .int i5), (6, .int i6), (7, .int i7)], [.int i7, .int (((5 : Int32) * x104_19) + (4 : Int32)), .ref b99_18]))) rfl ?_
    obtain ⟨I112_20, hxI112_20, h⟩ := Option.bind_eq_some_iff.mp h
    refine gg_sI (Or.inl ⟨rfl, rfl⟩) aMi190 rfl hxI112_20 ?_
    refine go_ops aMi190 2 _ (f1 := (115, ([(0, .ref a0), (2, .int i2), (3, .int i3), (4, .int i4), (5, .int i5), (6, .int i6), (7, .int i7)], [.ref a0, .ref a0]))) rfl ?_
    obtain ⟨x115_21, hxx115_21, h⟩ := Option.bind_eq_some_iff.mp h
    refine gg_gI aMi190 rfl rfl rfl hxx115_21 ?_
    refine go_ops aMi190 2 _ (f1 := (120, ([(0, .ref a0), (2, .int i2), (3, .int i3), (4, .int i4), (5, .int i5), (6, .int i6), (7, .int i7)], [.int (x115_21 + (1 : Int32)), .ref a0]))) rfl ?_
    obtain ⟨I120_22, hxI120_22, h⟩ := Option.bind_eq_some_iff.mp h
    refine gg_pI aMi190 rfl rfl rfl rfl (by decide) hxI120_22 ?_
    refine go_ops aMi190 1 _ (f1 := (124, ([(0, .ref a0), (2, .int i2), (3, .int i3), (4, .int i4), (5, .int i5), (6, .int i6), (7, .int i7)], [.ref a0]))) rfl ?_
    obtain ⟨x124_23, hxx124_23, h⟩ := Option.bind_eq_some_iff.mp h
    refine gg_gI aMi190 rfl rfl rfl hxx124_23 ?_
    cases h
    exact go_ret aMi190 rfl aRetI ⟨rfl, rfl⟩
  · rw [if_neg (of_decide_eq_false hb)] at h
    refine go_ops aMi190 1 _ (f1 := (30, ([(0, .ref a0), (2, .int i2), (3, .int i3), (4, .int i4), (5, .int i5), (6, .int i6), (7, .int i7)], [.int (0 : Int32)]))) rfl ?_
    cases h
    exact go_ret aMi190 rfl aRetI ⟨rfl, rfl⟩
def f190 (kad : Nat → Nat) (N : Nat) (Z : AZ) (a0 : Nat) (i1 : Int32) (i2 : Int32) (i3 : Int32) (i4 : Int32) (i5 : Int32) (i6 : Int32) (i7 : Int32) (I : AI) : Option (Int32 × AI) :=
  if ¬ i1 = 0 then
    (gI Z I 11 1 a0).bind fun x10_1 =>
    if ¬ x10_1 = (100 : Int32) then
      f190_b23 kad N Z a0 i2 i3 i4 i5 i6 i7 (0 : Int32) a0 I
    else
      f190_b23 kad N Z a0 i2 i3 i4 i5 i6 i7 (2 : Int32) a0 I
  else
    f190_b23 kad N Z a0 i2 i3 i4 i5 i6 i7 (1 : Int32) a0 I
theorem Tf190 {kad : Nat → Nat} {N : Nat} {Z : AZ} {d : Nat} {t : Option Nat × (Nat × Nat)} (hd : 1 ≤ d) : ∀ (a0 : Nat) (i1 : Int32) (i2 : Int32) (i3 : Int32) (i4 : Int32) (i5 : Int32) (i6 : Int32) (i7 : Int32) (I : AI) (r : Int32 × AI), f190 kad N Z a0 i1 i2 i3 i4 i5 i6 i7 I = some r → aGo kad d 190 (0, ([(0, .ref a0), (1, .int i1), (2, .int i2), (3, .int i3), (4, .int i4), (5, .int i5), (6, .int i6), (7, .int i7)], [])) (aMem Z I, t) (qI Z t r) := by
  intro a0 i1 i2 i3 i4 i5 i6 i7 I r h
  unfold f190 at h
  refine go_ops aMi190 2 _ (f1 := (2, ([(0, .ref a0), (1, .int i1), (2, .int i2), (3, .int i3), (4, .int i4), (5, .int i5), (6, .int i6), (7, .int i7)], [.int i1, .ref a0]))) rfl ?_
  refine gg_br (b := decide (¬ i1 = 0)) (tg := 9) (off := 7) aMi190 rfl rfl rfl rfl (fun hb => ?_) (fun hb => ?_)
  · rw [if_pos (of_decide_eq_true hb)] at h
    refine go_ops aMi190 1 _ (f1 := (10, ([(0, .ref a0), (1, .int i1), (2, .int i2), (3, .int i3), (4, .int i4), (5, .int i5), (6, .int i6), (7, .int i7)], [.ref a0, .ref a0]))) rfl ?_
    obtain ⟨x10_1, hxx10_1, h⟩ := Option.bind_eq_some_iff.mp h
    refine gg_gI aMi190 rfl rfl rfl hxx10_1 ?_
    refine go_ops aMi190 1 _ (f1 := (15, ([(0, .ref a0), (1, .int i1), (2, .int i2), (3, .int i3), (4, .int i4), (5, .int i5), (6, .int i6), (7, .int i7)], [.int (100 : Int32), .int x10_1, .ref a0]))) rfl ?_
    refine gg_br (b := decide (¬ x10_1 = (100 : Int32))) (tg := 22) (off := 7) aMi190 rfl rfl rfl rfl (fun hb => ?_) (fun hb => ?_)
    · rw [if_pos (of_decide_eq_true hb)] at h
      refine go_ops aMi190 1 _ (f1 := (23, ([(0, .ref a0), (1, .int i1), (2, .int i2), (3, .int i3), (4, .int i4), (5, .int i5), (6, .int i6), (7, .int i7)], [.int (0 : Int32), .ref a0]))) rfl ?_
      refine go_le (lv1 := [(0, .ref a0), (2, .int i2), (3, .int i3), (4, .int i4), (5, .int i5), (6, .int i6), (7, .int i7)]) (aLe_of (show (List.map (fun q => q.1) ([(0, .ref a0), (2, .int i2), (3, .int i3), (4, .int i4), (5, .int i5), (6, .int i6), (7, .int i7)] : ALv)).Nodup from (by show ([0, 2, 3, 4, 5, 6, 7] : List Nat).Nodup; decide)) (aSubL_cons rfl (aSubL_cons rfl (aSubL_cons rfl (aSubL_cons rfl (aSubL_cons rfl (aSubL_cons rfl (aSubL_cons rfl aSubL_nil)))))))) ?_
      exact Tf190_b23 hd a0 i2 i3 i4 i5 i6 i7 (0 : Int32) a0 I _ h
    · rw [if_neg (of_decide_eq_false hb)] at h
      refine go_ops aMi190 2 _ (f1 := (23, ([(0, .ref a0), (1, .int i1), (2, .int i2), (3, .int i3), (4, .int i4), (5, .int i5), (6, .int i6), (7, .int i7)], [.int (2 : Int32), .ref a0]))) rfl ?_
      refine go_le (lv1 := [(0, .ref a0), (2, .int i2), (3, .int i3), (4, .int i4), (5, .int i5), (6, .int i6), (7, .int i7)]) (aLe_of (show (List.map (fun q => q.1) ([(0, .ref a0), (2, .int i2), (3, .int i3), (4, .int i4), (5, .int i5), (6, .int i6), (7, .int i7)] : ALv)).Nodup from (by show ([0, 2, 3, 4, 5, 6, 7] : List Nat).Nodup; decide)) (aSubL_cons rfl (aSubL_cons rfl (aSubL_cons rfl (aSubL_cons rfl (aSubL_cons rfl (aSubL_cons rfl (aSubL_cons rfl aSubL_nil)))))))) ?_
      exact Tf190_b23 hd a0 i2 i3 i4 i5 i6 i7 (2 : Int32) a0 I _ h
  · rw [if_neg (of_decide_eq_false hb)] at h
    refine go_ops aMi190 2 _ (f1 := (23, ([(0, .ref a0), (1, .int i1), (2, .int i2), (3, .int i3), (4, .int i4), (5, .int i5), (6, .int i6), (7, .int i7)], [.int (1 : Int32), .ref a0]))) rfl ?_
    refine go_le (lv1 := [(0, .ref a0), (2, .int i2), (3, .int i3), (4, .int i4), (5, .int i5), (6, .int i6), (7, .int i7)]) (aLe_of (show (List.map (fun q => q.1) ([(0, .ref a0), (2, .int i2), (3, .int i3), (4, .int i4), (5, .int i5), (6, .int i6), (7, .int i7)] : ALv)).Nodup from (by show ([0, 2, 3, 4, 5, 6, 7] : List Nat).Nodup; decide)) (aSubL_cons rfl (aSubL_cons rfl (aSubL_cons rfl (aSubL_cons rfl (aSubL_cons rfl (aSubL_cons rfl (aSubL_cons rfl aSubL_nil)))))))) ?_
    exact Tf190_b23 hd a0 i2 i3 i4 i5 i6 i7 (1 : Int32) a0 I _ h
-- KernelGymModel.section (I)I
def f191 (kad : Nat → Nat) (N : Nat) (Z : AZ) (a0 : Nat) (i1 : Int32) (I : AI) : Option (Int32 × AI) :=
  (f186 kad N Z i1 (0 : Int32) (1 : Int32) I).bind fun r4_1 =>
  (isK Z a0 11).bind fun u13_2 =>
  (f190 kad N Z a0 r4_1.1 (0 : Int32) i1 (0 : Int32) (0 : Int32) (0 : Int32) (0 : Int32) r4_1.2).bind fun r13_3 =>
  some (r13_3.1, r13_3.2)
theorem Tf191 {kad : Nat → Nat} {N : Nat} {Z : AZ} {d : Nat} {t : Option Nat × (Nat × Nat)} (hd : 2 ≤ d) : ∀ (a0 : Nat) (i1 : Int32) (I : AI) (r : Int32 × AI), f191 kad N Z a0 i1 I = some r → aGo kad d 191 (0, ([(0, .ref a0), (1, .int i1)], [])) (aMem Z I, t) (qI Z t r) := by
  intro a0 i1 I r h
  unfold f191 at h
  refine go_ops aMi191 4 _ (f1 := (4, ([(0, .ref a0), (1, .int i1)], [.int (1 : Int32), .int (0 : Int32), .int i1, .ref a0]))) rfl ?_
  obtain ⟨r4_1, hxr4_1, h⟩ := Option.bind_eq_some_iff.mp h
  refine gg_cs (as := [.int i1, .int (0 : Int32), .int (1 : Int32)]) (r := [.ref a0]) aMi191 rfl rfl rfl aMi186 rfl (Nat.le_of_ble_eq_true rfl) (Nat.le_of_ble_eq_true rfl) (by omega) (Tf186 (by omega) i1 (0 : Int32) (1 : Int32) I _ hxr4_1) ?_
  show aGo kad d 191 (7, ([(0, .ref a0), (1, .int i1)], [.int r4_1.1, .ref a0])) (aMem Z r4_1.2, t) _
  refine go_ops aMi191 6 _ (f1 := (13, ([(0, .ref a0), (1, .int i1)], [.int (0 : Int32), .int (0 : Int32), .int (0 : Int32), .int (0 : Int32), .int i1, .int (0 : Int32), .int r4_1.1, .ref a0]))) rfl ?_
  obtain ⟨u13_2, hxu13_2, h⟩ := Option.bind_eq_some_iff.mp h
  obtain ⟨r13_3, hxr13_3, h⟩ := Option.bind_eq_some_iff.mp h
  refine gg_cv (as := [.int r4_1.1, .int (0 : Int32), .int i1, .int (0 : Int32), .int (0 : Int32), .int (0 : Int32), .int (0 : Int32)]) (r := []) aMi191 rfl rfl rfl aMi190 (Nat.le_of_ble_eq_true rfl) rfl (Nat.le_of_ble_eq_true rfl) (Nat.le_of_ble_eq_true rfl) (by omega) hxu13_2 (Tf190 (by omega) a0 r4_1.1 (0 : Int32) i1 (0 : Int32) (0 : Int32) (0 : Int32) (0 : Int32) r4_1.2 _ hxr13_3) ?_
  show aGo kad d 191 (16, ([(0, .ref a0), (1, .int i1)], [.int r13_3.1])) (aMem Z r13_3.2, t) _
  cases h
  exact go_ret aMi191 rfl aRetI ⟨rfl, rfl⟩
-- KernelGymModel.label (I)I
def f192 (kad : Nat → Nat) (N : Nat) (Z : AZ) (a0 : Nat) (i1 : Int32) (I : AI) : Option (Int32 × AI) :=
  (f186 kad N Z i1 (0 : Int32) (19 : Int32) I).bind fun r5_1 =>
  (isK Z a0 11).bind fun u14_2 =>
  (f190 kad N Z a0 r5_1.1 (1 : Int32) i1 (0 : Int32) (0 : Int32) (0 : Int32) (0 : Int32) r5_1.2).bind fun r14_3 =>
  some (r14_3.1, r14_3.2)
theorem Tf192 {kad : Nat → Nat} {N : Nat} {Z : AZ} {d : Nat} {t : Option Nat × (Nat × Nat)} (hd : 2 ≤ d) : ∀ (a0 : Nat) (i1 : Int32) (I : AI) (r : Int32 × AI), f192 kad N Z a0 i1 I = some r → aGo kad d 192 (0, ([(0, .ref a0), (1, .int i1)], [])) (aMem Z I, t) (qI Z t r) := by
  intro a0 i1 I r h
  unfold f192 at h
  refine go_ops aMi192 4 _ (f1 := (5, ([(0, .ref a0), (1, .int i1)], [.int (19 : Int32), .int (0 : Int32), .int i1, .ref a0]))) rfl ?_
  obtain ⟨r5_1, hxr5_1, h⟩ := Option.bind_eq_some_iff.mp h
  refine gg_cs (as := [.int i1, .int (0 : Int32), .int (19 : Int32)]) (r := [.ref a0]) aMi192 rfl rfl rfl aMi186 rfl (Nat.le_of_ble_eq_true rfl) (Nat.le_of_ble_eq_true rfl) (by omega) (Tf186 (by omega) i1 (0 : Int32) (19 : Int32) I _ hxr5_1) ?_
  show aGo kad d 192 (8, ([(0, .ref a0), (1, .int i1)], [.int r5_1.1, .ref a0])) (aMem Z r5_1.2, t) _
  refine go_ops aMi192 6 _ (f1 := (14, ([(0, .ref a0), (1, .int i1)], [.int (0 : Int32), .int (0 : Int32), .int (0 : Int32), .int (0 : Int32), .int i1, .int (1 : Int32), .int r5_1.1, .ref a0]))) rfl ?_
  obtain ⟨u14_2, hxu14_2, h⟩ := Option.bind_eq_some_iff.mp h
  obtain ⟨r14_3, hxr14_3, h⟩ := Option.bind_eq_some_iff.mp h
  refine gg_cv (as := [.int r5_1.1, .int (1 : Int32), .int i1, .int (0 : Int32), .int (0 : Int32), .int (0 : Int32), .int (0 : Int32)]) (r := []) aMi192 rfl rfl rfl aMi190 (Nat.le_of_ble_eq_true rfl) rfl (Nat.le_of_ble_eq_true rfl) (Nat.le_of_ble_eq_true rfl) (by omega) hxu14_2 (Tf190 (by omega) a0 r5_1.1 (1 : Int32) i1 (0 : Int32) (0 : Int32) (0 : Int32) (0 : Int32) r5_1.2 _ hxr14_3) ?_
  show aGo kad d 192 (17, ([(0, .ref a0), (1, .int i1)], [.int r14_3.1])) (aMem Z r14_3.2, t) _
  cases h
  exact go_ret aMi192 rfl aRetI ⟨rfl, rfl⟩
-- KernelGymModel.code (IIIII)I
def f193_b43 (kad : Nat → Nat) (N : Nat) (Z : AZ) (a0 : Nat) (i1 : Int32) (i2 : Int32) (i3 : Int32) (i4 : Int32) (i5 : Int32) (s0 : Int32) (I : AI) : Option (Int32 × AI) :=
  (isK Z a0 11).bind fun u65_1 =>
  (f190 kad N Z a0 s0 (2 : Int32) i4 i5 ((((16 : Int32) * i1) + ((4 : Int32) * i2)) + i3) (0 : Int32) (0 : Int32) I).bind fun r65_2 =>
  some (r65_2.1, r65_2.2)
theorem Tf193_b43 {kad : Nat → Nat} {N : Nat} {Z : AZ} {d : Nat} {t : Option Nat × (Nat × Nat)} (hd : 2 ≤ d) : ∀ (a0 : Nat) (i1 : Int32) (i2 : Int32) (i3 : Int32) (i4 : Int32) (i5 : Int32) (s0 : Int32) (I : AI) (r : Int32 × AI), f193_b43 kad N Z a0 i1 i2 i3 i4 i5 s0 I = some r → aGo kad d 193 (43, ([(0, .ref a0), (1, .int i1), (2, .int i2), (3, .int i3), (4, .int i4), (5, .int i5)], [.int s0])) (aMem Z I, t) (qI Z t r) := by
  intro a0 i1 i2 i3 i4 i5 s0 I r h
  unfold f193_b43 at h
  refine go_ops aMi193 17 _ (f1 := (65, ([(6, .int s0), (0, .ref a0), (1, .int i1), (2, .int i2), (3, .int i3), (4, .int i4), (5, .int i5)], [.int (0 : Int32), .int (0 : Int32), .int ((((16 : Int32) * i1) + ((4 : Int32) * i2)) + i3), .int i5, .int i4, .int (2 : Int32), .int s0, .ref a0]))) rfl ?_
  obtain ⟨u65_1, hxu65_1, h⟩ := Option.bind_eq_some_iff.mp h
  obtain ⟨r65_2, hxr65_2, h⟩ := Option.bind_eq_some_iff.mp h
  refine gg_cv (as := [.int s0, .int (2 : Int32), .int i4, .int i5, .int ((((16 : Int32) * i1) + ((4 : Int32) * i2)) + i3), .int (0 : Int32), .int (0 : Int32)]) (r := []) aMi193 rfl rfl rfl aMi190 (Nat.le_of_ble_eq_true rfl) rfl (Nat.le_of_ble_eq_true rfl) (Nat.le_of_ble_eq_true rfl) (by omega) hxu65_1 (Tf190 (by omega) a0 s0 (2 : Int32) i4 i5 ((((16 : Int32) * i1) + ((4 : Int32) * i2)) + i3) (0 : Int32) (0 : Int32) I _ hxr65_2) ?_
  show aGo kad d 193 (68, ([(6, .int s0), (0, .ref a0), (1, .int i1), (2, .int i2), (3, .int i3), (4, .int i4), (5, .int i5)], [.int r65_2.1])) (aMem Z r65_2.2, t) _
  cases h
  exact go_ret aMi193 rfl aRetI ⟨rfl, rfl⟩
def f193_b42 (kad : Nat → Nat) (N : Nat) (Z : AZ) (a0 : Nat) (i1 : Int32) (i2 : Int32) (i3 : Int32) (i4 : Int32) (i5 : Int32) (I : AI) : Option (Int32 × AI) :=
  f193_b43 kad N Z a0 i1 i2 i3 i4 i5 (0 : Int32) I
theorem Tf193_b42 {kad : Nat → Nat} {N : Nat} {Z : AZ} {d : Nat} {t : Option Nat × (Nat × Nat)} (hd : 2 ≤ d) : ∀ (a0 : Nat) (i1 : Int32) (i2 : Int32) (i3 : Int32) (i4 : Int32) (i5 : Int32) (I : AI) (r : Int32 × AI), f193_b42 kad N Z a0 i1 i2 i3 i4 i5 I = some r → aGo kad d 193 (42, ([(0, .ref a0), (1, .int i1), (2, .int i2), (3, .int i3), (4, .int i4), (5, .int i5)], [])) (aMem Z I, t) (qI Z t r) := by
  intro a0 i1 i2 i3 i4 i5 I r h
  unfold f193_b42 at h
  refine go_ops aMi193 1 _ (f1 := (43, ([(0, .ref a0), (1, .int i1), (2, .int i2), (3, .int i3), (4, .int i4), (5, .int i5)], [.int (0 : Int32)]))) rfl ?_
  exact Tf193_b43 hd a0 i1 i2 i3 i4 i5 (0 : Int32) I _ h
def f193 (kad : Nat → Nat) (N : Nat) (Z : AZ) (a0 : Nat) (i1 : Int32) (i2 : Int32) (i3 : Int32) (i4 : Int32) (i5 : Int32) (I : AI) : Option (Int32 × AI) :=
  (f186 kad N Z i1 (0 : Int32) (26 : Int32) I).bind fun r4_1 =>
  if r4_1.1 = 0 then
    f193_b42 kad N Z a0 i1 i2 i3 i4 i5 r4_1.2
  else
    (f186 kad N Z i2 (0 : Int32) (3 : Int32) r4_1.2).bind fun r13_2 =>
    if r13_2.1 = 0 then
      f193_b42 kad N Z a0 i1 i2 i3 i4 i5 r13_2.2
    else
      (f186 kad N Z i3 (0 : Int32) (3 : Int32) r13_2.2).bind fun r22_3 =>
      if r22_3.1 = 0 then
        f193_b42 kad N Z a0 i1 i2 i3 i4 i5 r22_3.2
      else
        (f189 kad N Z i4 i5 r22_3.2).bind fun r32_4 =>
        if r32_4.1 = 0 then
          f193_b42 kad N Z a0 i1 i2 i3 i4 i5 r32_4.2
        else
          f193_b43 kad N Z a0 i1 i2 i3 i4 i5 (1 : Int32) r32_4.2
theorem Tf193 {kad : Nat → Nat} {N : Nat} {Z : AZ} {d : Nat} {t : Option Nat × (Nat × Nat)} (hd : 2 ≤ d) : ∀ (a0 : Nat) (i1 : Int32) (i2 : Int32) (i3 : Int32) (i4 : Int32) (i5 : Int32) (I : AI) (r : Int32 × AI), f193 kad N Z a0 i1 i2 i3 i4 i5 I = some r → aGo kad d 193 (0, ([(0, .ref a0), (1, .int i1), (2, .int i2), (3, .int i3), (4, .int i4), (5, .int i5)], [])) (aMem Z I, t) (qI Z t r) := by
  intro a0 i1 i2 i3 i4 i5 I r h
  unfold f193 at h
  refine go_ops aMi193 3 _ (f1 := (4, ([(0, .ref a0), (1, .int i1), (2, .int i2), (3, .int i3), (4, .int i4), (5, .int i5)], [.int (26 : Int32), .int (0 : Int32), .int i1]))) rfl ?_
  obtain ⟨r4_1, hxr4_1, h⟩ := Option.bind_eq_some_iff.mp h
  refine gg_cs (as := [.int i1, .int (0 : Int32), .int (26 : Int32)]) (r := []) aMi193 rfl rfl rfl aMi186 rfl (Nat.le_of_ble_eq_true rfl) (Nat.le_of_ble_eq_true rfl) (by omega) (Tf186 (by omega) i1 (0 : Int32) (26 : Int32) I _ hxr4_1) ?_
  show aGo kad d 193 (7, ([(0, .ref a0), (1, .int i1), (2, .int i2), (3, .int i3), (4, .int i4), (5, .int i5)], [.int r4_1.1])) (aMem Z r4_1.2, t) _
  refine gg_br (b := decide (r4_1.1 = 0)) (tg := 42) (off := 35) aMi193 rfl rfl rfl rfl (fun hb => ?_) (fun hb => ?_)
  · rw [if_pos (of_decide_eq_true hb)] at h
    exact Tf193_b42 hd a0 i1 i2 i3 i4 i5 r4_1.2 _ h
  · rw [if_neg (of_decide_eq_false hb)] at h
    refine go_ops aMi193 3 _ (f1 := (13, ([(0, .ref a0), (1, .int i1), (2, .int i2), (3, .int i3), (4, .int i4), (5, .int i5)], [.int (3 : Int32), .int (0 : Int32), .int i2]))) rfl ?_
    obtain ⟨r13_2, hxr13_2, h⟩ := Option.bind_eq_some_iff.mp h
    refine gg_cs (as := [.int i2, .int (0 : Int32), .int (3 : Int32)]) (r := []) aMi193 rfl rfl rfl aMi186 rfl (Nat.le_of_ble_eq_true rfl) (Nat.le_of_ble_eq_true rfl) (by omega) (Tf186 (by omega) i2 (0 : Int32) (3 : Int32) r4_1.2 _ hxr13_2) ?_
    show aGo kad d 193 (16, ([(0, .ref a0), (1, .int i1), (2, .int i2), (3, .int i3), (4, .int i4), (5, .int i5)], [.int r13_2.1])) (aMem Z r13_2.2, t) _
    refine gg_br (b := decide (r13_2.1 = 0)) (tg := 42) (off := 26) aMi193 rfl rfl rfl rfl (fun hb => ?_) (fun hb => ?_)
    · rw [if_pos (of_decide_eq_true hb)] at h
      exact Tf193_b42 hd a0 i1 i2 i3 i4 i5 r13_2.2 _ h
    · rw [if_neg (of_decide_eq_false hb)] at h
      refine go_ops aMi193 3 _ (f1 := (22, ([(0, .ref a0), (1, .int i1), (2, .int i2), (3, .int i3), (4, .int i4), (5, .int i5)], [.int (3 : Int32), .int (0 : Int32), .int i3]))) rfl ?_
      obtain ⟨r22_3, hxr22_3, h⟩ := Option.bind_eq_some_iff.mp h
      refine gg_cs (as := [.int i3, .int (0 : Int32), .int (3 : Int32)]) (r := []) aMi193 rfl rfl rfl aMi186 rfl (Nat.le_of_ble_eq_true rfl) (Nat.le_of_ble_eq_true rfl) (by omega) (Tf186 (by omega) i3 (0 : Int32) (3 : Int32) r13_2.2 _ hxr22_3) ?_
      show aGo kad d 193 (25, ([(0, .ref a0), (1, .int i1), (2, .int i2), (3, .int i3), (4, .int i4), (5, .int i5)], [.int r22_3.1])) (aMem Z r22_3.2, t) _
      refine gg_br (b := decide (r22_3.1 = 0)) (tg := 42) (off := 17) aMi193 rfl rfl rfl rfl (fun hb => ?_) (fun hb => ?_)
      · rw [if_pos (of_decide_eq_true hb)] at h
        exact Tf193_b42 hd a0 i1 i2 i3 i4 i5 r22_3.2 _ h
      · rw [if_neg (of_decide_eq_false hb)] at h
        refine go_ops aMi193 2 _ (f1 := (32, ([(0, .ref a0), (1, .int i1), (2, .int i2), (3, .int i3), (4, .int i4), (5, .int i5)], [.int i5, .int i4]))) rfl ?_
        obtain ⟨r32_4, hxr32_4, h⟩ := Option.bind_eq_some_iff.mp h
        refine gg_cs (as := [.int i4, .int i5]) (r := []) aMi193 rfl rfl rfl aMi189 rfl (Nat.le_of_ble_eq_true rfl) (Nat.le_of_ble_eq_true rfl) (by omega) (Tf189 (by omega) i4 i5 r22_3.2 _ hxr32_4) ?_
        show aGo kad d 193 (35, ([(0, .ref a0), (1, .int i1), (2, .int i2), (3, .int i3), (4, .int i4), (5, .int i5)], [.int r32_4.1])) (aMem Z r32_4.2, t) _
        refine gg_br (b := decide (r32_4.1 = 0)) (tg := 42) (off := 7) aMi193 rfl rfl rfl rfl (fun hb => ?_) (fun hb => ?_)
        · rw [if_pos (of_decide_eq_true hb)] at h
          exact Tf193_b42 hd a0 i1 i2 i3 i4 i5 r32_4.2 _ h
        · rw [if_neg (of_decide_eq_false hb)] at h
          refine go_ops aMi193 2 _ (f1 := (43, ([(0, .ref a0), (1, .int i1), (2, .int i2), (3, .int i3), (4, .int i4), (5, .int i5)], [.int (1 : Int32)]))) rfl ?_
          exact Tf193_b43 hd a0 i1 i2 i3 i4 i5 (1 : Int32) r32_4.2 _ h
-- KernelGymModel.word (II)I
def f194 (kad : Nat → Nat) (N : Nat) (Z : AZ) (a0 : Nat) (i1 : Int32) (i2 : Int32) (I : AI) : Option (Int32 × AI) :=
  (f189 kad N Z i1 i2 I).bind fun r3_1 =>
  (isK Z a0 11).bind fun u12_2 =>
  (f190 kad N Z a0 r3_1.1 (3 : Int32) i1 i2 (0 : Int32) (0 : Int32) (0 : Int32) r3_1.2).bind fun r12_3 =>
  some (r12_3.1, r12_3.2)
theorem Tf194 {kad : Nat → Nat} {N : Nat} {Z : AZ} {d : Nat} {t : Option Nat × (Nat × Nat)} (hd : 2 ≤ d) : ∀ (a0 : Nat) (i1 : Int32) (i2 : Int32) (I : AI) (r : Int32 × AI), f194 kad N Z a0 i1 i2 I = some r → aGo kad d 194 (0, ([(0, .ref a0), (1, .int i1), (2, .int i2)], [])) (aMem Z I, t) (qI Z t r) := by
  intro a0 i1 i2 I r h
  unfold f194 at h
  refine go_ops aMi194 3 _ (f1 := (3, ([(0, .ref a0), (1, .int i1), (2, .int i2)], [.int i2, .int i1, .ref a0]))) rfl ?_
  obtain ⟨r3_1, hxr3_1, h⟩ := Option.bind_eq_some_iff.mp h
  refine gg_cs (as := [.int i1, .int i2]) (r := [.ref a0]) aMi194 rfl rfl rfl aMi189 rfl (Nat.le_of_ble_eq_true rfl) (Nat.le_of_ble_eq_true rfl) (by omega) (Tf189 (by omega) i1 i2 I _ hxr3_1) ?_
  show aGo kad d 194 (6, ([(0, .ref a0), (1, .int i1), (2, .int i2)], [.int r3_1.1, .ref a0])) (aMem Z r3_1.2, t) _
  refine go_ops aMi194 6 _ (f1 := (12, ([(0, .ref a0), (1, .int i1), (2, .int i2)], [.int (0 : Int32), .int (0 : Int32), .int (0 : Int32), .int i2, .int i1, .int (3 : Int32), .int r3_1.1, .ref a0]))) rfl ?_
  obtain ⟨u12_2, hxu12_2, h⟩ := Option.bind_eq_some_iff.mp h
  obtain ⟨r12_3, hxr12_3, h⟩ := Option.bind_eq_some_iff.mp h
  refine gg_cv (as := [.int r3_1.1, .int (3 : Int32), .int i1, .int i2, .int (0 : Int32), .int (0 : Int32), .int (0 : Int32)]) (r := []) aMi194 rfl rfl rfl aMi190 (Nat.le_of_ble_eq_true rfl) rfl (Nat.le_of_ble_eq_true rfl) (Nat.le_of_ble_eq_true rfl) (by omega) hxu12_2 (Tf190 (by omega) a0 r3_1.1 (3 : Int32) i1 i2 (0 : Int32) (0 : Int32) (0 : Int32) r3_1.2 _ hxr12_3) ?_
  show aGo kad d 194 (15, ([(0, .ref a0), (1, .int i1), (2, .int i2)], [.int r12_3.1])) (aMem Z r12_3.2, t) _
  cases h
  exact go_ret aMi194 rfl aRetI ⟨rfl, rfl⟩
-- KernelGymModel.space (I)I
def f195 (kad : Nat → Nat) (N : Nat) (Z : AZ) (a0 : Nat) (i1 : Int32) (I : AI) : Option (Int32 × AI) :=
  (f186 kad N Z i1 (1 : Int32) (32 : Int32) I).bind fun r5_1 =>
  (isK Z a0 11).bind fun u14_2 =>
  (f190 kad N Z a0 r5_1.1 (4 : Int32) i1 (0 : Int32) (0 : Int32) (0 : Int32) (0 : Int32) r5_1.2).bind fun r14_3 =>
  some (r14_3.1, r14_3.2)
theorem Tf195 {kad : Nat → Nat} {N : Nat} {Z : AZ} {d : Nat} {t : Option Nat × (Nat × Nat)} (hd : 2 ≤ d) : ∀ (a0 : Nat) (i1 : Int32) (I : AI) (r : Int32 × AI), f195 kad N Z a0 i1 I = some r → aGo kad d 195 (0, ([(0, .ref a0), (1, .int i1)], [])) (aMem Z I, t) (qI Z t r) := by
  intro a0 i1 I r h
  unfold f195 at h
  refine go_ops aMi195 4 _ (f1 := (5, ([(0, .ref a0), (1, .int i1)], [.int (32 : Int32), .int (1 : Int32), .int i1, .ref a0]))) rfl ?_
  obtain ⟨r5_1, hxr5_1, h⟩ := Option.bind_eq_some_iff.mp h
  refine gg_cs (as := [.int i1, .int (1 : Int32), .int (32 : Int32)]) (r := [.ref a0]) aMi195 rfl rfl rfl aMi186 rfl (Nat.le_of_ble_eq_true rfl) (Nat.le_of_ble_eq_true rfl) (by omega) (Tf186 (by omega) i1 (1 : Int32) (32 : Int32) I _ hxr5_1) ?_
  show aGo kad d 195 (8, ([(0, .ref a0), (1, .int i1)], [.int r5_1.1, .ref a0])) (aMem Z r5_1.2, t) _
  refine go_ops aMi195 6 _ (f1 := (14, ([(0, .ref a0), (1, .int i1)], [.int (0 : Int32), .int (0 : Int32), .int (0 : Int32), .int (0 : Int32), .int i1, .int (4 : Int32), .int r5_1.1, .ref a0]))) rfl ?_
  obtain ⟨u14_2, hxu14_2, h⟩ := Option.bind_eq_some_iff.mp h
  obtain ⟨r14_3, hxr14_3, h⟩ := Option.bind_eq_some_iff.mp h
  refine gg_cv (as := [.int r5_1.1, .int (4 : Int32), .int i1, .int (0 : Int32), .int (0 : Int32), .int (0 : Int32), .int (0 : Int32)]) (r := []) aMi195 rfl rfl rfl aMi190 (Nat.le_of_ble_eq_true rfl) rfl (Nat.le_of_ble_eq_true rfl) (Nat.le_of_ble_eq_true rfl) (by omega) hxu14_2 (Tf190 (by omega) a0 r5_1.1 (4 : Int32) i1 (0 : Int32) (0 : Int32) (0 : Int32) (0 : Int32) r5_1.2 _ hxr14_3) ?_
  show aGo kad d 195 (17, ([(0, .ref a0), (1, .int i1)], [.int r14_3.1])) (aMem Z r14_3.2, t) _
  cases h
  exact go_ret aMi195 rfl aRetI ⟨rfl, rfl⟩
-- KernelGymModel.vector (III)I
def f196_b23 (kad : Nat → Nat) (N : Nat) (Z : AZ) (i1 : Int32) (i2 : Int32) (i3 : Int32) (s0 : Int32) (s1 : Nat) (I : AI) : Option (Int32 × AI) :=
  (isK Z s1 11).bind fun u29_1 =>
  (f190 kad N Z s1 s0 (5 : Int32) i2 i3 i1 (0 : Int32) (0 : Int32) I).bind fun r29_2 =>
  some (r29_2.1, r29_2.2)
theorem Tf196_b23 {kad : Nat → Nat} {N : Nat} {Z : AZ} {d : Nat} {t : Option Nat × (Nat × Nat)} (hd : 2 ≤ d) : ∀ (i1 : Int32) (i2 : Int32) (i3 : Int32) (s0 : Int32) (s1 : Nat) (I : AI) (r : Int32 × AI), f196_b23 kad N Z i1 i2 i3 s0 s1 I = some r → aGo kad d 196 (23, ([(1, .int i1), (2, .int i2), (3, .int i3)], [.int s0, .ref s1])) (aMem Z I, t) (qI Z t r) := by
  intro i1 i2 i3 s0 s1 I r h
  unfold f196_b23 at h
  refine go_ops aMi196 6 _ (f1 := (29, ([(1, .int i1), (2, .int i2), (3, .int i3)], [.int (0 : Int32), .int (0 : Int32), .int i1, .int i3, .int i2, .int (5 : Int32), .int s0, .ref s1]))) rfl ?_
  obtain ⟨u29_1, hxu29_1, h⟩ := Option.bind_eq_some_iff.mp h
  obtain ⟨r29_2, hxr29_2, h⟩ := Option.bind_eq_some_iff.mp h
  refine gg_cv (as := [.int s0, .int (5 : Int32), .int i2, .int i3, .int i1, .int (0 : Int32), .int (0 : Int32)]) (r := []) aMi196 rfl rfl rfl aMi190 (Nat.le_of_ble_eq_true rfl) rfl (Nat.le_of_ble_eq_true rfl) (Nat.le_of_ble_eq_true rfl) (by omega) hxu29_1 (Tf190 (by omega) s1 s0 (5 : Int32) i2 i3 i1 (0 : Int32) (0 : Int32) I _ hxr29_2) ?_
  show aGo kad d 196 (32, ([(1, .int i1), (2, .int i2), (3, .int i3)], [.int r29_2.1])) (aMem Z r29_2.2, t) _
  cases h
  exact go_ret aMi196 rfl aRetI ⟨rfl, rfl⟩
def f196_b22 (kad : Nat → Nat) (N : Nat) (Z : AZ) (i1 : Int32) (i2 : Int32) (i3 : Int32) (s0 : Nat) (I : AI) : Option (Int32 × AI) :=
  f196_b23 kad N Z i1 i2 i3 (0 : Int32) s0 I
theorem Tf196_b22 {kad : Nat → Nat} {N : Nat} {Z : AZ} {d : Nat} {t : Option Nat × (Nat × Nat)} (hd : 2 ≤ d) : ∀ (i1 : Int32) (i2 : Int32) (i3 : Int32) (s0 : Nat) (I : AI) (r : Int32 × AI), f196_b22 kad N Z i1 i2 i3 s0 I = some r → aGo kad d 196 (22, ([(1, .int i1), (2, .int i2), (3, .int i3)], [.ref s0])) (aMem Z I, t) (qI Z t r) := by
  intro i1 i2 i3 s0 I r h
  unfold f196_b22 at h
  refine go_ops aMi196 1 _ (f1 := (23, ([(1, .int i1), (2, .int i2), (3, .int i3)], [.int (0 : Int32), .ref s0]))) rfl ?_
  exact Tf196_b23 hd i1 i2 i3 (0 : Int32) s0 I _ h
def f196 (kad : Nat → Nat) (N : Nat) (Z : AZ) (a0 : Nat) (i1 : Int32) (i2 : Int32) (i3 : Int32) (I : AI) : Option (Int32 × AI) :=
  (f186 kad N Z i1 (0 : Int32) (1 : Int32) I).bind fun r4_1 =>
  if r4_1.1 = 0 then
    f196_b22 kad N Z i1 i2 i3 a0 r4_1.2
  else
    (f189 kad N Z i2 i3 r4_1.2).bind fun r12_2 =>
    if r12_2.1 = 0 then
      f196_b22 kad N Z i1 i2 i3 a0 r12_2.2
    else
      f196_b23 kad N Z i1 i2 i3 (1 : Int32) a0 r12_2.2
theorem Tf196 {kad : Nat → Nat} {N : Nat} {Z : AZ} {d : Nat} {t : Option Nat × (Nat × Nat)} (hd : 2 ≤ d) : ∀ (a0 : Nat) (i1 : Int32) (i2 : Int32) (i3 : Int32) (I : AI) (r : Int32 × AI), f196 kad N Z a0 i1 i2 i3 I = some r → aGo kad d 196 (0, ([(0, .ref a0), (1, .int i1), (2, .int i2), (3, .int i3)], [])) (aMem Z I, t) (qI Z t r) := by
  intro a0 i1 i2 i3 I r h
  unfold f196 at h
  refine go_ops aMi196 4 _ (f1 := (4, ([(0, .ref a0), (1, .int i1), (2, .int i2), (3, .int i3)], [.int (1 : Int32), .int (0 : Int32), .int i1, .ref a0]))) rfl ?_
  obtain ⟨r4_1, hxr4_1, h⟩ := Option.bind_eq_some_iff.mp h
  refine gg_cs (as := [.int i1, .int (0 : Int32), .int (1 : Int32)]) (r := [.ref a0]) aMi196 rfl rfl rfl aMi186 rfl (Nat.le_of_ble_eq_true rfl) (Nat.le_of_ble_eq_true rfl) (by omega) (Tf186 (by omega) i1 (0 : Int32) (1 : Int32) I _ hxr4_1) ?_
  show aGo kad d 196 (7, ([(0, .ref a0), (1, .int i1), (2, .int i2), (3, .int i3)], [.int r4_1.1, .ref a0])) (aMem Z r4_1.2, t) _
  refine gg_br (b := decide (r4_1.1 = 0)) (tg := 22) (off := 15) aMi196 rfl rfl rfl rfl (fun hb => ?_) (fun hb => ?_)
  · rw [if_pos (of_decide_eq_true hb)] at h
    refine go_le (lv1 := [(1, .int i1), (2, .int i2), (3, .int i3)]) (aLe_of (show (List.map (fun q => q.1) ([(1, .int i1), (2, .int i2), (3, .int i3)] : ALv)).Nodup from (by show ([1, 2, 3] : List Nat).Nodup; decide)) (aSubL_cons rfl (aSubL_cons rfl (aSubL_cons rfl aSubL_nil)))) ?_
    exact Tf196_b22 hd i1 i2 i3 a0 r4_1.2 _ h
  · rw [if_neg (of_decide_eq_false hb)] at h
    refine go_ops aMi196 2 _ (f1 := (12, ([(0, .ref a0), (1, .int i1), (2, .int i2), (3, .int i3)], [.int i3, .int i2, .ref a0]))) rfl ?_
    obtain ⟨r12_2, hxr12_2, h⟩ := Option.bind_eq_some_iff.mp h
    refine gg_cs (as := [.int i2, .int i3]) (r := [.ref a0]) aMi196 rfl rfl rfl aMi189 rfl (Nat.le_of_ble_eq_true rfl) (Nat.le_of_ble_eq_true rfl) (by omega) (Tf189 (by omega) i2 i3 r4_1.2 _ hxr12_2) ?_
    show aGo kad d 196 (15, ([(0, .ref a0), (1, .int i1), (2, .int i2), (3, .int i3)], [.int r12_2.1, .ref a0])) (aMem Z r12_2.2, t) _
    refine gg_br (b := decide (r12_2.1 = 0)) (tg := 22) (off := 7) aMi196 rfl rfl rfl rfl (fun hb => ?_) (fun hb => ?_)
    · rw [if_pos (of_decide_eq_true hb)] at h
      refine go_le (lv1 := [(1, .int i1), (2, .int i2), (3, .int i3)]) (aLe_of (show (List.map (fun q => q.1) ([(1, .int i1), (2, .int i2), (3, .int i3)] : ALv)).Nodup from (by show ([1, 2, 3] : List Nat).Nodup; decide)) (aSubL_cons rfl (aSubL_cons rfl (aSubL_cons rfl aSubL_nil)))) ?_
      exact Tf196_b22 hd i1 i2 i3 a0 r12_2.2 _ h
    · rw [if_neg (of_decide_eq_false hb)] at h
      refine go_ops aMi196 2 _ (f1 := (23, ([(0, .ref a0), (1, .int i1), (2, .int i2), (3, .int i3)], [.int (1 : Int32), .ref a0]))) rfl ?_
      refine go_le (lv1 := [(1, .int i1), (2, .int i2), (3, .int i3)]) (aLe_of (show (List.map (fun q => q.1) ([(1, .int i1), (2, .int i2), (3, .int i3)] : ALv)).Nodup from (by show ([1, 2, 3] : List Nat).Nodup; decide)) (aSubL_cons rfl (aSubL_cons rfl (aSubL_cons rfl aSubL_nil)))) ?_
      exact Tf196_b23 hd i1 i2 i3 (1 : Int32) a0 r12_2.2 _ h
-- KernelGymModel.macro (I)I
def f197 (kad : Nat → Nat) (N : Nat) (Z : AZ) (a0 : Nat) (i1 : Int32) (I : AI) : Option (Int32 × AI) :=
  (f186 kad N Z i1 (0 : Int32) (4 : Int32) I).bind fun r4_1 =>
  (isK Z a0 11).bind fun u14_2 =>
  (f190 kad N Z a0 r4_1.1 (6 : Int32) i1 (0 : Int32) (0 : Int32) (0 : Int32) (0 : Int32) r4_1.2).bind fun r14_3 =>
  some (r14_3.1, r14_3.2)
theorem Tf197 {kad : Nat → Nat} {N : Nat} {Z : AZ} {d : Nat} {t : Option Nat × (Nat × Nat)} (hd : 2 ≤ d) : ∀ (a0 : Nat) (i1 : Int32) (I : AI) (r : Int32 × AI), f197 kad N Z a0 i1 I = some r → aGo kad d 197 (0, ([(0, .ref a0), (1, .int i1)], [])) (aMem Z I, t) (qI Z t r) := by
  intro a0 i1 I r h
  unfold f197 at h
  refine go_ops aMi197 4 _ (f1 := (4, ([(0, .ref a0), (1, .int i1)], [.int (4 : Int32), .int (0 : Int32), .int i1, .ref a0]))) rfl ?_
  obtain ⟨r4_1, hxr4_1, h⟩ := Option.bind_eq_some_iff.mp h
  refine gg_cs (as := [.int i1, .int (0 : Int32), .int (4 : Int32)]) (r := [.ref a0]) aMi197 rfl rfl rfl aMi186 rfl (Nat.le_of_ble_eq_true rfl) (Nat.le_of_ble_eq_true rfl) (by omega) (Tf186 (by omega) i1 (0 : Int32) (4 : Int32) I _ hxr4_1) ?_
  show aGo kad d 197 (7, ([(0, .ref a0), (1, .int i1)], [.int r4_1.1, .ref a0])) (aMem Z r4_1.2, t) _
  refine go_ops aMi197 6 _ (f1 := (14, ([(0, .ref a0), (1, .int i1)], [.int (0 : Int32), .int (0 : Int32), .int (0 : Int32), .int (0 : Int32), .int i1, .int (6 : Int32), .int r4_1.1, .ref a0]))) rfl ?_
  obtain ⟨u14_2, hxu14_2, h⟩ := Option.bind_eq_some_iff.mp h
  obtain ⟨r14_3, hxr14_3, h⟩ := Option.bind_eq_some_iff.mp h
  refine gg_cv (as := [.int r4_1.1, .int (6 : Int32), .int i1, .int (0 : Int32), .int (0 : Int32), .int (0 : Int32), .int (0 : Int32)]) (r := []) aMi197 rfl rfl rfl aMi190 (Nat.le_of_ble_eq_true rfl) rfl (Nat.le_of_ble_eq_true rfl) (Nat.le_of_ble_eq_true rfl) (by omega) hxu14_2 (Tf190 (by omega) a0 r4_1.1 (6 : Int32) i1 (0 : Int32) (0 : Int32) (0 : Int32) (0 : Int32) r4_1.2 _ hxr14_3) ?_
  show aGo kad d 197 (17, ([(0, .ref a0), (1, .int i1)], [.int r14_3.1])) (aMem Z r14_3.2, t) _
  cases h
  exact go_ret aMi197 rfl aRetI ⟨rfl, rfl⟩
-- KernelGymModel.endMacro ()I
def f198_b15 (kad : Nat → Nat) (N : Nat) (Z : AZ) (a0 : Nat) (s0 : Int32) (s1 : Nat) (I : AI) : Option (Int32 × AI) :=
  (isK Z s1 11).bind fun u15_1 =>
  (f185 kad N Z s1 s0 I).bind fun r15_2 =>
  if ¬ r15_2.1 = 0 then
    (isK Z a0 11).bind fun u32_3 =>
    (f190 kad N Z a0 (1 : Int32) (7 : Int32) (0 : Int32) (0 : Int32) (0 : Int32) (0 : Int32) (0 : Int32) r15_2.2).bind fun r32_4 =>
    some (r32_4.1, r32_4.2)
  else
    some ((0 : Int32), r15_2.2)
theorem Tf198_b15 {kad : Nat → Nat} {N : Nat} {Z : AZ} {d : Nat} {t : Option Nat × (Nat × Nat)} (hd : 2 ≤ d) : ∀ (a0 : Nat) (s0 : Int32) (s1 : Nat) (I : AI) (r : Int32 × AI), f198_b15 kad N Z a0 s0 s1 I = some r → aGo kad d 198 (15, ([(0, .ref a0)], [.int s0, .ref s1])) (aMem Z I, t) (qI Z t r) := by
  intro a0 s0 s1 I r h
  unfold f198_b15 at h
  obtain ⟨u15_1, hxu15_1, h⟩ := Option.bind_eq_some_iff.mp h
  obtain ⟨r15_2, hxr15_2, h⟩ := Option.bind_eq_some_iff.mp h
  refine gg_cv (as := [.int s0]) (r := []) aMi198 rfl rfl rfl aMi185 (Nat.le_of_ble_eq_true rfl) rfl (Nat.le_of_ble_eq_true rfl) (Nat.le_of_ble_eq_true rfl) (by omega) hxu15_1 (Tf185 (by omega) s1 s0 I _ hxr15_2) ?_
  show aGo kad d 198 (18, ([(0, .ref a0)], [.int r15_2.1])) (aMem Z r15_2.2, t) _
  refine gg_br (b := decide (¬ r15_2.1 = 0)) (tg := 23) (off := 5) aMi198 rfl rfl rfl rfl (fun hb => ?_) (fun hb => ?_)
  · rw [if_pos (of_decide_eq_true hb)] at h
    refine go_ops aMi198 8 _ (f1 := (32, ([(0, .ref a0)], [.int (0 : Int32), .int (0 : Int32), .int (0 : Int32), .int (0 : Int32), .int (0 : Int32), .int (7 : Int32), .int (1 : Int32), .ref a0]))) rfl ?_
    obtain ⟨u32_3, hxu32_3, h⟩ := Option.bind_eq_some_iff.mp h
    obtain ⟨r32_4, hxr32_4, h⟩ := Option.bind_eq_some_iff.mp h
    refine gg_cv (as := [.int (1 : Int32), .int (7 : Int32), .int (0 : Int32), .int (0 : Int32), .int (0 : Int32), .int (0 : Int32), .int (0 : Int32)]) (r := []) aMi198 rfl rfl rfl aMi190 (Nat.le_of_ble_eq_true rfl) rfl (Nat.le_of_ble_eq_true rfl) (Nat.le_of_ble_eq_true rfl) (by omega) hxu32_3 (Tf190 (by omega) a0 (1 : Int32) (7 : Int32) (0 : Int32) (0 : Int32) (0 : Int32) (0 : Int32) (0 : Int32) r15_2.2 _ hxr32_4) ?_
    show aGo kad d 198 (35, ([(0, .ref a0)], [.int r32_4.1])) (aMem Z r32_4.2, t) _
    cases h
    exact go_ret aMi198 rfl aRetI ⟨rfl, rfl⟩
  · rw [if_neg (of_decide_eq_false hb)] at h
    refine go_ops aMi198 1 _ (f1 := (22, ([(0, .ref a0)], [.int (0 : Int32)]))) rfl ?_
    cases h
    exact go_ret aMi198 rfl aRetI ⟨rfl, rfl⟩
def f198 (kad : Nat → Nat) (N : Nat) (Z : AZ) (a0 : Nat) (I : AI) : Option (Int32 × AI) :=
  (gI Z I 11 1 a0).bind fun x2_1 =>
  if ¬ x2_1 = (100 : Int32) then
    f198_b15 kad N Z a0 (0 : Int32) a0 I
  else
    f198_b15 kad N Z a0 (1 : Int32) a0 I
theorem Tf198 {kad : Nat → Nat} {N : Nat} {Z : AZ} {d : Nat} {t : Option Nat × (Nat × Nat)} (hd : 2 ≤ d) : ∀ (a0 : Nat) (I : AI) (r : Int32 × AI), f198 kad N Z a0 I = some r → aGo kad d 198 (0, ([(0, .ref a0)], [])) (aMem Z I, t) (qI Z t r) := by
  intro a0 I r h
  unfold f198 at h
  refine go_ops aMi198 2 _ (f1 := (2, ([(0, .ref a0)], [.ref a0, .ref a0]))) rfl ?_
  obtain ⟨x2_1, hxx2_1, h⟩ := Option.bind_eq_some_iff.mp h
  refine gg_gI aMi198 rfl rfl rfl hxx2_1 ?_
  refine go_ops aMi198 1 _ (f1 := (7, ([(0, .ref a0)], [.int (100 : Int32), .int x2_1, .ref a0]))) rfl ?_
  refine gg_br (b := decide (¬ x2_1 = (100 : Int32))) (tg := 14) (off := 7) aMi198 rfl rfl rfl rfl (fun hb => ?_) (fun hb => ?_)
  · rw [if_pos (of_decide_eq_true hb)] at h
    refine go_ops aMi198 1 _ (f1 := (15, ([(0, .ref a0)], [.int (0 : Int32), .ref a0]))) rfl ?_
    exact Tf198_b15 hd a0 (0 : Int32) a0 I _ h
  · rw [if_neg (of_decide_eq_false hb)] at h
    refine go_ops aMi198 2 _ (f1 := (15, ([(0, .ref a0)], [.int (1 : Int32), .ref a0]))) rfl ?_
    exact Tf198_b15 hd a0 (1 : Int32) a0 I _ h
-- KernelGymModel.use (IIIII)I
def f199_b32 (kad : Nat → Nat) (N : Nat) (Z : AZ) (a0 : Nat) (i1 : Int32) (i2 : Int32) (i3 : Int32) (i4 : Int32) (i5 : Int32) (s0 : Int32) (I : AI) : Option (Int32 × AI) :=
  (isK Z a0 11).bind fun u46_1 =>
  (f190 kad N Z a0 s0 (8 : Int32) i2 i3 i4 i5 i1 I).bind fun r46_2 =>
  some (r46_2.1, r46_2.2)
theorem Tf199_b32 {kad : Nat → Nat} {N : Nat} {Z : AZ} {d : Nat} {t : Option Nat × (Nat × Nat)} (hd : 2 ≤ d) : ∀ (a0 : Nat) (i1 : Int32) (i2 : Int32) (i3 : Int32) (i4 : Int32) (i5 : Int32) (s0 : Int32) (I : AI) (r : Int32 × AI), f199_b32 kad N Z a0 i1 i2 i3 i4 i5 s0 I = some r → aGo kad d 199 (32, ([(0, .ref a0), (1, .int i1), (2, .int i2), (3, .int i3), (4, .int i4), (5, .int i5)], [.int s0])) (aMem Z I, t) (qI Z t r) := by
  intro a0 i1 i2 i3 i4 i5 s0 I r h
  unfold f199_b32 at h
  refine go_ops aMi199 9 _ (f1 := (46, ([(6, .int s0), (0, .ref a0), (1, .int i1), (2, .int i2), (3, .int i3), (4, .int i4), (5, .int i5)], [.int i1, .int i5, .int i4, .int i3, .int i2, .int (8 : Int32), .int s0, .ref a0]))) rfl ?_
  obtain ⟨u46_1, hxu46_1, h⟩ := Option.bind_eq_some_iff.mp h
  obtain ⟨r46_2, hxr46_2, h⟩ := Option.bind_eq_some_iff.mp h
  refine gg_cv (as := [.int s0, .int (8 : Int32), .int i2, .int i3, .int i4, .int i5, .int i1]) (r := []) aMi199 rfl rfl rfl aMi190 (Nat.le_of_ble_eq_true rfl) rfl (Nat.le_of_ble_eq_true rfl) (Nat.le_of_ble_eq_true rfl) (by omega) hxu46_1 (Tf190 (by omega) a0 s0 (8 : Int32) i2 i3 i4 i5 i1 I _ hxr46_2) ?_
  show aGo kad d 199 (49, ([(6, .int s0), (0, .ref a0), (1, .int i1), (2, .int i2), (3, .int i3), (4, .int i4), (5, .int i5)], [.int r46_2.1])) (aMem Z r46_2.2, t) _
  cases h
  exact go_ret aMi199 rfl aRetI ⟨rfl, rfl⟩
def f199_b31 (kad : Nat → Nat) (N : Nat) (Z : AZ) (a0 : Nat) (i1 : Int32) (i2 : Int32) (i3 : Int32) (i4 : Int32) (i5 : Int32) (I : AI) : Option (Int32 × AI) :=
  f199_b32 kad N Z a0 i1 i2 i3 i4 i5 (0 : Int32) I
theorem Tf199_b31 {kad : Nat → Nat} {N : Nat} {Z : AZ} {d : Nat} {t : Option Nat × (Nat × Nat)} (hd : 2 ≤ d) : ∀ (a0 : Nat) (i1 : Int32) (i2 : Int32) (i3 : Int32) (i4 : Int32) (i5 : Int32) (I : AI) (r : Int32 × AI), f199_b31 kad N Z a0 i1 i2 i3 i4 i5 I = some r → aGo kad d 199 (31, ([(0, .ref a0), (1, .int i1), (2, .int i2), (3, .int i3), (4, .int i4), (5, .int i5)], [])) (aMem Z I, t) (qI Z t r) := by
  intro a0 i1 i2 i3 i4 i5 I r h
  unfold f199_b31 at h
  refine go_ops aMi199 1 _ (f1 := (32, ([(0, .ref a0), (1, .int i1), (2, .int i2), (3, .int i3), (4, .int i4), (5, .int i5)], [.int (0 : Int32)]))) rfl ?_
  exact Tf199_b32 hd a0 i1 i2 i3 i4 i5 (0 : Int32) I _ h
def f199 (kad : Nat → Nat) (N : Nat) (Z : AZ) (a0 : Nat) (i1 : Int32) (i2 : Int32) (i3 : Int32) (i4 : Int32) (i5 : Int32) (I : AI) : Option (Int32 × AI) :=
  (f186 kad N Z i1 (0 : Int32) (4 : Int32) I).bind fun r3_1 =>
  if r3_1.1 = 0 then
    f199_b31 kad N Z a0 i1 i2 i3 i4 i5 r3_1.2
  else
    (f189 kad N Z i2 i3 r3_1.2).bind fun r11_2 =>
    if r11_2.1 = 0 then
      f199_b31 kad N Z a0 i1 i2 i3 i4 i5 r11_2.2
    else
      (f189 kad N Z i4 i5 r11_2.2).bind fun r21_3 =>
      if r21_3.1 = 0 then
        f199_b31 kad N Z a0 i1 i2 i3 i4 i5 r21_3.2
      else
        f199_b32 kad N Z a0 i1 i2 i3 i4 i5 (1 : Int32) r21_3.2
theorem Tf199 {kad : Nat → Nat} {N : Nat} {Z : AZ} {d : Nat} {t : Option Nat × (Nat × Nat)} (hd : 2 ≤ d) : ∀ (a0 : Nat) (i1 : Int32) (i2 : Int32) (i3 : Int32) (i4 : Int32) (i5 : Int32) (I : AI) (r : Int32 × AI), f199 kad N Z a0 i1 i2 i3 i4 i5 I = some r → aGo kad d 199 (0, ([(0, .ref a0), (1, .int i1), (2, .int i2), (3, .int i3), (4, .int i4), (5, .int i5)], [])) (aMem Z I, t) (qI Z t r) := by
  intro a0 i1 i2 i3 i4 i5 I r h
  unfold f199 at h
  refine go_ops aMi199 3 _ (f1 := (3, ([(0, .ref a0), (1, .int i1), (2, .int i2), (3, .int i3), (4, .int i4), (5, .int i5)], [.int (4 : Int32), .int (0 : Int32), .int i1]))) rfl ?_
  obtain ⟨r3_1, hxr3_1, h⟩ := Option.bind_eq_some_iff.mp h
  refine gg_cs (as := [.int i1, .int (0 : Int32), .int (4 : Int32)]) (r := []) aMi199 rfl rfl rfl aMi186 rfl (Nat.le_of_ble_eq_true rfl) (Nat.le_of_ble_eq_true rfl) (by omega) (Tf186 (by omega) i1 (0 : Int32) (4 : Int32) I _ hxr3_1) ?_
  show aGo kad d 199 (6, ([(0, .ref a0), (1, .int i1), (2, .int i2), (3, .int i3), (4, .int i4), (5, .int i5)], [.int r3_1.1])) (aMem Z r3_1.2, t) _
  refine gg_br (b := decide (r3_1.1 = 0)) (tg := 31) (off := 25) aMi199 rfl rfl rfl rfl (fun hb => ?_) (fun hb => ?_)
  · rw [if_pos (of_decide_eq_true hb)] at h
    exact Tf199_b31 hd a0 i1 i2 i3 i4 i5 r3_1.2 _ h
  · rw [if_neg (of_decide_eq_false hb)] at h
    refine go_ops aMi199 2 _ (f1 := (11, ([(0, .ref a0), (1, .int i1), (2, .int i2), (3, .int i3), (4, .int i4), (5, .int i5)], [.int i3, .int i2]))) rfl ?_
    obtain ⟨r11_2, hxr11_2, h⟩ := Option.bind_eq_some_iff.mp h
    refine gg_cs (as := [.int i2, .int i3]) (r := []) aMi199 rfl rfl rfl aMi189 rfl (Nat.le_of_ble_eq_true rfl) (Nat.le_of_ble_eq_true rfl) (by omega) (Tf189 (by omega) i2 i3 r3_1.2 _ hxr11_2) ?_
    show aGo kad d 199 (14, ([(0, .ref a0), (1, .int i1), (2, .int i2), (3, .int i3), (4, .int i4), (5, .int i5)], [.int r11_2.1])) (aMem Z r11_2.2, t) _
    refine gg_br (b := decide (r11_2.1 = 0)) (tg := 31) (off := 17) aMi199 rfl rfl rfl rfl (fun hb => ?_) (fun hb => ?_)
    · rw [if_pos (of_decide_eq_true hb)] at h
      exact Tf199_b31 hd a0 i1 i2 i3 i4 i5 r11_2.2 _ h
    · rw [if_neg (of_decide_eq_false hb)] at h
      refine go_ops aMi199 2 _ (f1 := (21, ([(0, .ref a0), (1, .int i1), (2, .int i2), (3, .int i3), (4, .int i4), (5, .int i5)], [.int i5, .int i4]))) rfl ?_
      obtain ⟨r21_3, hxr21_3, h⟩ := Option.bind_eq_some_iff.mp h
      refine gg_cs (as := [.int i4, .int i5]) (r := []) aMi199 rfl rfl rfl aMi189 rfl (Nat.le_of_ble_eq_true rfl) (Nat.le_of_ble_eq_true rfl) (by omega) (Tf189 (by omega) i4 i5 r11_2.2 _ hxr21_3) ?_
      show aGo kad d 199 (24, ([(0, .ref a0), (1, .int i1), (2, .int i2), (3, .int i3), (4, .int i4), (5, .int i5)], [.int r21_3.1])) (aMem Z r21_3.2, t) _
      refine gg_br (b := decide (r21_3.1 = 0)) (tg := 31) (off := 7) aMi199 rfl rfl rfl rfl (fun hb => ?_) (fun hb => ?_)
      · rw [if_pos (of_decide_eq_true hb)] at h
        exact Tf199_b31 hd a0 i1 i2 i3 i4 i5 r21_3.2 _ h
      · rw [if_neg (of_decide_eq_false hb)] at h
        refine go_ops aMi199 2 _ (f1 := (32, ([(0, .ref a0), (1, .int i1), (2, .int i2), (3, .int i3), (4, .int i4), (5, .int i5)], [.int (1 : Int32)]))) rfl ?_
        exact Tf199_b32 hd a0 i1 i2 i3 i4 i5 (1 : Int32) r21_3.2 _ h
-- KernelGymModel.placeOf (I)I
def f200_b36 (kad : Nat → Nat) (N : Nat) (Z : AZ) (s0 : Int32) (I : AI) : Option (Int32 × AI) :=
  some (s0, I)
theorem Tf200_b36 {kad : Nat → Nat} {N : Nat} {Z : AZ} {d : Nat} {t : Option Nat × (Nat × Nat)} (hd : 0 ≤ d) : ∀ (s0 : Int32) (I : AI) (r : Int32 × AI), f200_b36 kad N Z s0 I = some r → aGo kad d 200 (36, ([], [.int s0])) (aMem Z I, t) (qI Z t r) := by
  intro s0 I r h
  unfold f200_b36 at h
  cases h
  exact go_ret aMi200 rfl aRetI ⟨rfl, rfl⟩
def f200_b13 (kad : Nat → Nat) (N : Nat) (Z : AZ) (i1 : Int32) (I : AI) : Option (Int32 × AI) :=
  f200_b36 kad N Z i1 I
theorem Tf200_b13 {kad : Nat → Nat} {N : Nat} {Z : AZ} {d : Nat} {t : Option Nat × (Nat × Nat)} (hd : 0 ≤ d) : ∀ (i1 : Int32) (I : AI) (r : Int32 × AI), f200_b13 kad N Z i1 I = some r → aGo kad d 200 (13, ([(1, .int i1)], [])) (aMem Z I, t) (qI Z t r) := by
  intro i1 I r h
  unfold f200_b13 at h
  refine go_ops aMi200 2 _ (f1 := (36, ([(1, .int i1)], [.int i1]))) rfl ?_
  refine go_le (lv1 := []) (aLe_of (show (List.map (fun q => q.1) ([] : ALv)).Nodup from (by show ([] : List Nat).Nodup; decide)) aSubL_nil) ?_
  exact Tf200_b36 hd i1 I _ h
def f200 (kad : Nat → Nat) (N : Nat) (Z : AZ) (a0 : Nat) (i1 : Int32) (I : AI) : Option (Int32 × AI) :=
  if i1 < (16 : Int32) then
    f200_b13 kad N Z i1 I
  else
    (gI Z I 11 14 a0).bind fun x7_1 =>
    if ¬ x7_1 = 0 then
      (gR Z I 11 10 a0).bind fun b21_2 =>
      (gI Z I 11 14 a0).bind fun x25_3 =>
      (lI Z I 100 b21_2 x25_3).bind fun x28_4 =>
      f200_b36 kad N Z ((((20 : Int32) + ((4 : Int32) * x28_4)) + i1) - (16 : Int32)) I
    else
      f200_b13 kad N Z i1 I
theorem Tf200 {kad : Nat → Nat} {N : Nat} {Z : AZ} {d : Nat} {t : Option Nat × (Nat × Nat)} (hd : 0 ≤ d) : ∀ (a0 : Nat) (i1 : Int32) (I : AI) (r : Int32 × AI), f200 kad N Z a0 i1 I = some r → aGo kad d 200 (0, ([(0, .ref a0), (1, .int i1)], [])) (aMem Z I, t) (qI Z t r) := by
  intro a0 i1 I r h
  unfold f200 at h
  refine go_ops aMi200 2 _ (f1 := (3, ([(0, .ref a0), (1, .int i1)], [.int (16 : Int32), .int i1]))) rfl ?_
  refine gg_br (b := decide (i1 < (16 : Int32))) (tg := 13) (off := 10) aMi200 rfl rfl rfl rfl (fun hb => ?_) (fun hb => ?_)
  · rw [if_pos (of_decide_eq_true hb)] at h
    refine go_le (lv1 := [(1, .int i1)]) (aLe_of (show (List.map (fun q => q.1) ([(1, .int i1)] : ALv)).Nodup from (by show ([1] : List Nat).Nodup; decide)) (aSubL_cons rfl aSubL_nil)) ?_
    exact Tf200_b13 hd i1 I _ h
  · rw [if_neg (of_decide_eq_false hb)] at h
    refine go_ops aMi200 1 _ (f1 := (7, ([(0, .ref a0), (1, .int i1)], [.ref a0]))) rfl ?_
    obtain ⟨x7_1, hxx7_1, h⟩ := Option.bind_eq_some_iff.mp h
    refine gg_gI aMi200 rfl rfl rfl hxx7_1 ?_
    refine gg_br (b := decide (¬ x7_1 = 0)) (tg := 17) (off := 7) aMi200 rfl rfl rfl rfl (fun hb => ?_) (fun hb => ?_)
    · rw [if_pos (of_decide_eq_true hb)] at h
      refine go_ops aMi200 3 _ (f1 := (21, ([(0, .ref a0), (1, .int i1)], [.ref a0, .int (4 : Int32), .int (20 : Int32)]))) rfl ?_
      obtain ⟨b21_2, hxb21_2, h⟩ := Option.bind_eq_some_iff.mp h
      refine gg_gR aMi200 rfl rfl rfl hxb21_2 ?_
      refine go_ops aMi200 1 _ (f1 := (25, ([(0, .ref a0), (1, .int i1)], [.ref a0, .ref b21_2, .int (4 : Int32), .int (20 : Int32)]))) rfl ?_
      obtain ⟨x25_3, hxx25_3, h⟩ := Option.bind_eq_some_iff.mp h
      refine gg_gI aMi200 rfl rfl rfl hxx25_3 ?_
      obtain ⟨x28_4, hxx28_4, h⟩ := Option.bind_eq_some_iff.mp h
      refine gg_lI (Or.inl ⟨rfl, rfl⟩) aMi200 rfl hxx28_4 ?_
      refine go_ops aMi200 6 _ (f1 := (36, ([(0, .ref a0), (1, .int i1)], [.int ((((20 : Int32) + ((4 : Int32) * x28_4)) + i1) - (16 : Int32))]))) rfl ?_
      refine go_le (lv1 := []) (aLe_of (show (List.map (fun q => q.1) ([] : ALv)).Nodup from (by show ([] : List Nat).Nodup; decide)) aSubL_nil) ?_
      exact Tf200_b36 hd ((((20 : Int32) + ((4 : Int32) * x28_4)) + i1) - (16 : Int32)) I _ h
    · rw [if_neg (of_decide_eq_false hb)] at h
      refine go_le (lv1 := [(1, .int i1)]) (aLe_of (show (List.map (fun q => q.1) ([(1, .int i1)] : ALv)).Nodup from (by show ([1] : List Nat).Nodup; decide)) (aSubL_cons rfl aSubL_nil)) ?_
      exact Tf200_b13 hd i1 I _ h
-- KernelGymModel.wordsOf (I)I
def f201_b42 (kad : Nat → Nat) (N : Nat) (Z : AZ) (s0 : Int32) (I : AI) : Option (Int32 × AI) :=
  some (s0, I)
theorem Tf201_b42 {kad : Nat → Nat} {N : Nat} {Z : AZ} {d : Nat} {t : Option Nat × (Nat × Nat)} (hd : 0 ≤ d) : ∀ (s0 : Int32) (I : AI) (r : Int32 × AI), f201_b42 kad N Z s0 I = some r → aGo kad d 201 (42, ([], [.int s0])) (aMem Z I, t) (qI Z t r) := by
  intro s0 I r h
  unfold f201_b42 at h
  cases h
  exact go_ret aMi201 rfl aRetI ⟨rfl, rfl⟩
def f201 (kad : Nat → Nat) (N : Nat) (Z : AZ) (a0 : Nat) (i1 : Int32) (I : AI) : Option (Int32 × AI) :=
  (gR Z I 11 2 a0).bind fun b1_1 =>
  (lI Z I 100 b1_1 i1).bind fun x5_2 =>
  if ¬ x5_2 = (2 : Int32) then
    if ¬ x5_2 = (3 : Int32) then
      if ¬ x5_2 = (4 : Int32) then
        f201_b42 kad N Z (0 : Int32) I
      else
        (gR Z I 11 3 a0).bind fun b31_3 =>
        (lI Z I 100 b31_3 ((5 : Int32) * i1)).bind fun x37_4 =>
        f201_b42 kad N Z x37_4 I
    else
      f201_b42 kad N Z (1 : Int32) I
  else
    f201_b42 kad N Z (2 : Int32) I
theorem Tf201 {kad : Nat → Nat} {N : Nat} {Z : AZ} {d : Nat} {t : Option Nat × (Nat × Nat)} (hd : 0 ≤ d) : ∀ (a0 : Nat) (i1 : Int32) (I : AI) (r : Int32 × AI), f201 kad N Z a0 i1 I = some r → aGo kad d 201 (0, ([(0, .ref a0), (1, .int i1)], [])) (aMem Z I, t) (qI Z t r) := by
  intro a0 i1 I r h
  unfold f201 at h
  refine go_ops aMi201 1 _ (f1 := (1, ([(0, .ref a0), (1, .int i1)], [.ref a0]))) rfl ?_
  obtain ⟨b1_1, hxb1_1, h⟩ := Option.bind_eq_some_iff.mp h
  refine gg_gR aMi201 rfl rfl rfl hxb1_1 ?_
  refine go_ops aMi201 1 _ (f1 := (5, ([(0, .ref a0), (1, .int i1)], [.int i1, .ref b1_1]))) rfl ?_
  obtain ⟨x5_2, hxx5_2, h⟩ := Option.bind_eq_some_iff.mp h
  refine gg_lI (Or.inl ⟨rfl, rfl⟩) aMi201 rfl hxx5_2 ?_
  refine go_ops aMi201 3 _ (f1 := (9, ([(2, .int x5_2), (0, .ref a0), (1, .int i1)], [.int (2 : Int32), .int x5_2]))) rfl ?_
  refine gg_br (b := decide (¬ x5_2 = (2 : Int32))) (tg := 16) (off := 7) aMi201 rfl rfl rfl rfl (fun hb => ?_) (fun hb => ?_)
  · rw [if_pos (of_decide_eq_true hb)] at h
    refine go_ops aMi201 2 _ (f1 := (18, ([(2, .int x5_2), (0, .ref a0), (1, .int i1)], [.int (3 : Int32), .int x5_2]))) rfl ?_
    refine gg_br (b := decide (¬ x5_2 = (3 : Int32))) (tg := 25) (off := 7) aMi201 rfl rfl rfl rfl (fun hb => ?_) (fun hb => ?_)
    · rw [if_pos (of_decide_eq_true hb)] at h
      refine go_ops aMi201 2 _ (f1 := (27, ([(2, .int x5_2), (0, .ref a0), (1, .int i1)], [.int (4 : Int32), .int x5_2]))) rfl ?_
      refine gg_br (b := decide (¬ x5_2 = (4 : Int32))) (tg := 41) (off := 14) aMi201 rfl rfl rfl rfl (fun hb => ?_) (fun hb => ?_)
      · rw [if_pos (of_decide_eq_true hb)] at h
        refine go_ops aMi201 1 _ (f1 := (42, ([(2, .int x5_2), (0, .ref a0), (1, .int i1)], [.int (0 : Int32)]))) rfl ?_
        refine go_le (lv1 := []) (aLe_of (show (List.map (fun q => q.1) ([] : ALv)).Nodup from (by show ([] : List Nat).Nodup; decide)) aSubL_nil) ?_
        exact Tf201_b42 hd (0 : Int32) I _ h
      · rw [if_neg (of_decide_eq_false hb)] at h
        refine go_ops aMi201 1 _ (f1 := (31, ([(2, .int x5_2), (0, .ref a0), (1, .int i1)], [.ref a0]))) rfl ?_
        obtain ⟨b31_3, hxb31_3, h⟩ := Option.bind_eq_some_iff.mp h
        refine gg_gR aMi201 rfl rfl rfl hxb31_3 ?_
        refine go_ops aMi201 3 _ (f1 := (37, ([(2, .int x5_2), (0, .ref a0), (1, .int i1)], [.int ((5 : Int32) * i1), .ref b31_3]))) rfl ?_
        obtain ⟨x37_4, hxx37_4, h⟩ := Option.bind_eq_some_iff.mp h
        refine gg_lI (Or.inl ⟨rfl, rfl⟩) aMi201 rfl hxx37_4 ?_
        refine go_ops aMi201 1 _ (f1 := (42, ([(2, .int x5_2), (0, .ref a0), (1, .int i1)], [.int x37_4]))) rfl ?_
        refine go_le (lv1 := []) (aLe_of (show (List.map (fun q => q.1) ([] : ALv)).Nodup from (by show ([] : List Nat).Nodup; decide)) aSubL_nil) ?_
        exact Tf201_b42 hd x37_4 I _ h
    · rw [if_neg (of_decide_eq_false hb)] at h
      refine go_ops aMi201 2 _ (f1 := (42, ([(2, .int x5_2), (0, .ref a0), (1, .int i1)], [.int (1 : Int32)]))) rfl ?_
      refine go_le (lv1 := []) (aLe_of (show (List.map (fun q => q.1) ([] : ALv)).Nodup from (by show ([] : List Nat).Nodup; decide)) aSubL_nil) ?_
      exact Tf201_b42 hd (1 : Int32) I _ h
  · rw [if_neg (of_decide_eq_false hb)] at h
    refine go_ops aMi201 2 _ (f1 := (42, ([(2, .int x5_2), (0, .ref a0), (1, .int i1)], [.int (2 : Int32)]))) rfl ?_
    refine go_le (lv1 := []) (aLe_of (show (List.map (fun q => q.1) ([] : ALv)).Nodup from (by show ([] : List Nat).Nodup; decide)) aSubL_nil) ?_
    exact Tf201_b42 hd (2 : Int32) I _ h
-- KernelGymModel.nextOf (I)I
def f202_b34 (kad : Nat → Nat) (N : Nat) (Z : AZ) (i2 : Int32) (I : AI) : Option (Int32 × AI) :=
  some (i2, I)
theorem Tf202_b34 {kad : Nat → Nat} {N : Nat} {Z : AZ} {d : Nat} {t : Option Nat × (Nat × Nat)} (hd : 0 ≤ d) : ∀ (i2 : Int32) (I : AI) (r : Int32 × AI), f202_b34 kad N Z i2 I = some r → aGo kad d 202 (34, ([(2, .int i2)], [])) (aMem Z I, t) (qI Z t r) := by
  intro i2 I r h
  unfold f202_b34 at h
  refine go_ops aMi202 1 _ (f1 := (35, ([(2, .int i2)], [.int i2]))) rfl ?_
  cases h
  exact go_ret aMi202 rfl aRetI ⟨rfl, rfl⟩
def f202_b4 (kad : Nat → Nat) (N : Nat) (Z : AZ) : Nat → Nat → Int32 → AI → Option (Int32 × AI)
  | 0, _, _, _ => none
  | F + 1, a0, i2, I =>
    (gI Z I 11 1 a0).bind fun x6_1 =>
    if x6_1 ≤ i2 then
      some ((Int32.ofInt (-1)), I)
    else
      (gR Z I 11 2 a0).bind fun b13_2 =>
      (lI Z I 100 b13_2 i2).bind fun x17_3 =>
      if x17_3 = (7 : Int32) then
        f202_b34 kad N Z i2 I
      else
        (gR Z I 11 2 a0).bind fun b24_4 =>
        (lI Z I 100 b24_4 i2).bind fun x28_5 =>
        if ¬ x28_5 = (6 : Int32) then
          f202_b4 kad N Z F a0 (i2 + (1 : Int32)) I
        else
          f202_b34 kad N Z i2 I
theorem Tf202_b4 {kad : Nat → Nat} {N : Nat} {Z : AZ} {d : Nat} {t : Option Nat × (Nat × Nat)} (hd : 0 ≤ d) : ∀ (F : Nat) (a0 : Nat) (i2 : Int32) (I : AI) (r : Int32 × AI), f202_b4 kad N Z F a0 i2 I = some r → aGo kad d 202 (4, ([(0, .ref a0), (2, .int i2)], [])) (aMem Z I, t) (qI Z t r) := by
  intro F
  induction F with
  | zero => intro a0 i2 I r h; cases h
  | succ F ih =>
    intro a0 i2 I r h
    unfold f202_b4 at h
    refine go_ops aMi202 2 _ (f1 := (6, ([(0, .ref a0), (2, .int i2)], [.ref a0, .int i2]))) rfl ?_
    obtain ⟨x6_1, hxx6_1, h⟩ := Option.bind_eq_some_iff.mp h
    refine gg_gI aMi202 rfl rfl rfl hxx6_1 ?_
    refine gg_br (b := decide (x6_1 ≤ i2)) (tg := 42) (off := 33) aMi202 rfl rfl rfl rfl (fun hb => ?_) (fun hb => ?_)
    · rw [if_pos (of_decide_eq_true hb)] at h
      refine go_ops aMi202 1 _ (f1 := (43, ([(0, .ref a0), (2, .int i2)], [.int (Int32.ofInt (-1))]))) rfl ?_
      cases h
      exact go_ret aMi202 rfl aRetI ⟨rfl, rfl⟩
    · rw [if_neg (of_decide_eq_false hb)] at h
      refine go_ops aMi202 1 _ (f1 := (13, ([(0, .ref a0), (2, .int i2)], [.ref a0]))) rfl ?_
      obtain ⟨b13_2, hxb13_2, h⟩ := Option.bind_eq_some_iff.mp h
      refine gg_gR aMi202 rfl rfl rfl hxb13_2 ?_
      refine go_ops aMi202 1 _ (f1 := (17, ([(0, .ref a0), (2, .int i2)], [.int i2, .ref b13_2]))) rfl ?_
      obtain ⟨x17_3, hxx17_3, h⟩ := Option.bind_eq_some_iff.mp h
      refine gg_lI (Or.inl ⟨rfl, rfl⟩) aMi202 rfl hxx17_3 ?_
      refine go_ops aMi202 1 _ (f1 := (20, ([(0, .ref a0), (2, .int i2)], [.int (7 : Int32), .int x17_3]))) rfl ?_
      refine gg_br (b := decide (x17_3 = (7 : Int32))) (tg := 34) (off := 14) aMi202 rfl rfl rfl rfl (fun hb => ?_) (fun hb => ?_)
      · rw [if_pos (of_decide_eq_true hb)] at h
        refine go_le (lv1 := [(2, .int i2)]) (aLe_of (show (List.map (fun q => q.1) ([(2, .int i2)] : ALv)).Nodup from (by show ([2] : List Nat).Nodup; decide)) (aSubL_cons rfl aSubL_nil)) ?_
        exact Tf202_b34 hd i2 I _ h
      · rw [if_neg (of_decide_eq_false hb)] at h
        refine go_ops aMi202 1 _ (f1 := (24, ([(0, .ref a0), (2, .int i2)], [.ref a0]))) rfl ?_
        obtain ⟨b24_4, hxb24_4, h⟩ := Option.bind_eq_some_iff.mp h
        refine gg_gR aMi202 rfl rfl rfl hxb24_4 ?_
        refine go_ops aMi202 1 _ (f1 := (28, ([(0, .ref a0), (2, .int i2)], [.int i2, .ref b24_4]))) rfl ?_
        obtain ⟨x28_5, hxx28_5, h⟩ := Option.bind_eq_some_iff.mp h
        refine gg_lI (Or.inl ⟨rfl, rfl⟩) aMi202 rfl hxx28_5 ?_
        refine go_ops aMi202 1 _ (f1 := (31, ([(0, .ref a0), (2, .int i2)], [.int (6 : Int32), .int x28_5]))) rfl ?_
        refine gg_br (b := decide (¬ x28_5 = (6 : Int32))) (tg := 36) (off := 5) aMi202 rfl rfl rfl rfl (fun hb => ?_) (fun hb => ?_)
        · rw [if_pos (of_decide_eq_true hb)] at h
          refine go_ops aMi202 2 _ (f1 := (4, ([(2, .int (i2 + (1 : Int32))), (0, .ref a0)], []))) rfl ?_
          refine go_le (lv1 := [(0, .ref a0), (2, .int (i2 + (1 : Int32)))]) (aLe_of (show (List.map (fun q => q.1) ([(0, .ref a0), (2, .int (i2 + (1 : Int32)))] : ALv)).Nodup from (by show ([0, 2] : List Nat).Nodup; decide)) (aSubL_cons rfl (aSubL_cons rfl aSubL_nil))) ?_
          exact ih a0 (i2 + (1 : Int32)) I _ h
        · rw [if_neg (of_decide_eq_false hb)] at h
          refine go_le (lv1 := [(2, .int i2)]) (aLe_of (show (List.map (fun q => q.1) ([(2, .int i2)] : ALv)).Nodup from (by show ([2] : List Nat).Nodup; decide)) (aSubL_cons rfl aSubL_nil)) ?_
          exact Tf202_b34 hd i2 I _ h
def f202 (kad : Nat → Nat) (N : Nat) (Z : AZ) (a0 : Nat) (i1 : Int32) (I : AI) : Option (Int32 × AI) :=
  f202_b4 kad N Z N a0 (i1 + (1 : Int32)) I
theorem Tf202 {kad : Nat → Nat} {N : Nat} {Z : AZ} {d : Nat} {t : Option Nat × (Nat × Nat)} (hd : 0 ≤ d) : ∀ (a0 : Nat) (i1 : Int32) (I : AI) (r : Int32 × AI), f202 kad N Z a0 i1 I = some r → aGo kad d 202 (0, ([(0, .ref a0), (1, .int i1)], [])) (aMem Z I, t) (qI Z t r) := by
  intro a0 i1 I r h
  unfold f202 at h
  refine go_ops aMi202 4 _ (f1 := (4, ([(2, .int (i1 + (1 : Int32))), (0, .ref a0), (1, .int i1)], []))) rfl ?_
  refine go_le (lv1 := [(0, .ref a0), (2, .int (i1 + (1 : Int32)))]) (aLe_of (show (List.map (fun q => q.1) ([(0, .ref a0), (2, .int (i1 + (1 : Int32)))] : ALv)).Nodup from (by show ([0, 2] : List Nat).Nodup; decide)) (aSubL_cons rfl (aSubL_cons rfl aSubL_nil))) ?_
  exact Tf202_b4 hd N a0 (i1 + (1 : Int32)) I _ h
-- KernelGymModel.begins (I)I
def f203_b60 (kad : Nat → Nat) (N : Nat) (Z : AZ) (s0 : Int32) (s1 : Int32) (I : AI) : Option (Int32 × AI) :=
  some ((s1 + s0), I)
theorem Tf203_b60 {kad : Nat → Nat} {N : Nat} {Z : AZ} {d : Nat} {t : Option Nat × (Nat × Nat)} (hd : 1 ≤ d) : ∀ (s0 : Int32) (s1 : Int32) (I : AI) (r : Int32 × AI), f203_b60 kad N Z s0 s1 I = some r → aGo kad d 203 (60, ([], [.int s0, .int s1])) (aMem Z I, t) (qI Z t r) := by
  intro s0 s1 I r h
  unfold f203_b60 at h
  refine go_ops aMi203 1 _ (f1 := (61, ([], [.int (s1 + s0)]))) rfl ?_
  cases h
  exact go_ret aMi203 rfl aRetI ⟨rfl, rfl⟩
def f203_b47 (kad : Nat → Nat) (N : Nat) (Z : AZ) (i1 : Int32) (i3 : Int32) (I : AI) : Option (Int32 × AI) :=
  if ¬ i3 = (Int32.ofInt (-1)) then
    f203_b60 kad N Z i3 (400 : Int32) I
  else
    f203_b60 kad N Z i1 (400 : Int32) I
theorem Tf203_b47 {kad : Nat → Nat} {N : Nat} {Z : AZ} {d : Nat} {t : Option Nat × (Nat × Nat)} (hd : 1 ≤ d) : ∀ (i1 : Int32) (i3 : Int32) (I : AI) (r : Int32 × AI), f203_b47 kad N Z i1 i3 I = some r → aGo kad d 203 (47, ([(1, .int i1), (3, .int i3)], [])) (aMem Z I, t) (qI Z t r) := by
  intro i1 i3 I r h
  unfold f203_b47 at h
  refine go_ops aMi203 3 _ (f1 := (52, ([(1, .int i1), (3, .int i3)], [.int (Int32.ofInt (-1)), .int i3, .int (400 : Int32)]))) rfl ?_
  refine gg_br (b := decide (¬ i3 = (Int32.ofInt (-1)))) (tg := 59) (off := 7) aMi203 rfl rfl rfl rfl (fun hb => ?_) (fun hb => ?_)
  · rw [if_pos (of_decide_eq_true hb)] at h
    refine go_ops aMi203 1 _ (f1 := (60, ([(1, .int i1), (3, .int i3)], [.int i3, .int (400 : Int32)]))) rfl ?_
    refine go_le (lv1 := []) (aLe_of (show (List.map (fun q => q.1) ([] : ALv)).Nodup from (by show ([] : List Nat).Nodup; decide)) aSubL_nil) ?_
    exact Tf203_b60 hd i3 (400 : Int32) I _ h
  · rw [if_neg (of_decide_eq_false hb)] at h
    refine go_ops aMi203 2 _ (f1 := (60, ([(1, .int i1), (3, .int i3)], [.int i1, .int (400 : Int32)]))) rfl ?_
    refine go_le (lv1 := []) (aLe_of (show (List.map (fun q => q.1) ([] : ALv)).Nodup from (by show ([] : List Nat).Nodup; decide)) aSubL_nil) ?_
    exact Tf203_b60 hd i1 (400 : Int32) I _ h
def f203 (kad : Nat → Nat) (N : Nat) (Z : AZ) (a0 : Nat) (i1 : Int32) (I : AI) : Option (Int32 × AI) :=
  (gR Z I 11 3 a0).bind fun b1_1 =>
  (lI Z I 100 b1_1 ((5 : Int32) * i1)).bind fun x7_2 =>
  (gR Z I 11 6 a0).bind fun b10_3 =>
  (lI Z I 100 b10_3 x7_2).bind fun x14_4 =>
  if x14_4 = (Int32.ofInt (-1)) then
    (isK Z a0 11).bind fun u27_5 =>
    (f202 kad N Z a0 i1 I).bind fun r27_6 =>
    if r27_6.1 = (Int32.ofInt (-1)) then
      f203_b47 kad N Z i1 r27_6.1 r27_6.2
    else
      (gR Z r27_6.2 11 2 a0).bind fun b37_7 =>
      (lI Z r27_6.2 100 b37_7 r27_6.1).bind fun x41_8 =>
      if ¬ x41_8 = (6 : Int32) then
        (gR Z r27_6.2 11 6 a0).bind fun b63_9 =>
        (sI Z r27_6.2 100 b63_9 x7_2 (i1 + (1 : Int32))).bind fun I70_10 =>
        (gR Z I70_10 11 7 a0).bind fun b72_11 =>
        (sI Z I70_10 100 b72_11 x7_2 r27_6.1).bind fun I77_12 =>
        (gR Z I77_12 11 8 a0).bind fun b79_13 =>
        (gI Z I77_12 11 14 a0).bind fun x83_14 =>
        (sI Z I77_12 100 b79_13 x83_14 (r27_6.1 + (1 : Int32))).bind fun I89_15 =>
        some ((0 : Int32), I89_15)
      else
        f203_b47 kad N Z i1 r27_6.1 r27_6.2
  else
    some (((300 : Int32) + i1), I)
theorem Tf203 {kad : Nat → Nat} {N : Nat} {Z : AZ} {d : Nat} {t : Option Nat × (Nat × Nat)} (hd : 1 ≤ d) : ∀ (a0 : Nat) (i1 : Int32) (I : AI) (r : Int32 × AI), f203 kad N Z a0 i1 I = some r → aGo kad d 203 (0, ([(0, .ref a0), (1, .int i1)], [])) (aMem Z I, t) (qI Z t r) := by
  intro a0 i1 I r h
  unfold f203 at h
  refine go_ops aMi203 1 _ (f1 := (1, ([(0, .ref a0), (1, .int i1)], [.ref a0]))) rfl ?_
  obtain ⟨b1_1, hxb1_1, h⟩ := Option.bind_eq_some_iff.mp h
  refine gg_gR aMi203 rfl rfl rfl hxb1_1 ?_
  refine go_ops aMi203 3 _ (f1 := (7, ([(0, .ref a0), (1, .int i1)], [.int ((5 : Int32) * i1), .ref b1_1]))) rfl ?_
  obtain ⟨x7_2, hxx7_2, h⟩ := Option.bind_eq_some_iff.mp h
  refine gg_lI (Or.inl ⟨rfl, rfl⟩) aMi203 rfl hxx7_2 ?_
  refine go_ops aMi203 2 _ (f1 := (10, ([(2, .int x7_2), (0, .ref a0), (1, .int i1)], [.ref a0]))) rfl ?_
  obtain ⟨b10_3, hxb10_3, h⟩ := Option.bind_eq_some_iff.mp h
  refine gg_gR aMi203 rfl rfl rfl hxb10_3 ?_
  refine go_ops aMi203 1 _ (f1 := (14, ([(2, .int x7_2), (0, .ref a0), (1, .int i1)], [.int x7_2, .ref b10_3]))) rfl ?_
  obtain ⟨x14_4, hxx14_4, h⟩ := Option.bind_eq_some_iff.mp h
  refine gg_lI (Or.inl ⟨rfl, rfl⟩) aMi203 rfl hxx14_4 ?_
  refine go_ops aMi203 1 _ (f1 := (16, ([(2, .int x7_2), (0, .ref a0), (1, .int i1)], [.int (Int32.ofInt (-1)), .int x14_4]))) rfl ?_
  refine gg_br (b := decide (x14_4 = (Int32.ofInt (-1)))) (tg := 25) (off := 9) aMi203 rfl rfl rfl rfl (fun hb => ?_) (fun hb => ?_)
  · rw [if_pos (of_decide_eq_true hb)] at h
    refine go_ops aMi203 2 _ (f1 := (27, ([(2, .int x7_2), (0, .ref a0), (1, .int i1)], [.int i1, .ref a0]))) rfl ?_
    obtain ⟨u27_5, hxu27_5, h⟩ := Option.bind_eq_some_iff.mp h
    obtain ⟨r27_6, hxr27_6, h⟩ := Option.bind_eq_some_iff.mp h
    refine gg_cv (as := [.int i1]) (r := []) aMi203 rfl rfl rfl aMi202 (Nat.le_of_ble_eq_true rfl) rfl (Nat.le_of_ble_eq_true rfl) (Nat.le_of_ble_eq_true rfl) (by omega) hxu27_5 (Tf202 (by omega) a0 i1 I _ hxr27_6) ?_
    show aGo kad d 203 (30, ([(2, .int x7_2), (0, .ref a0), (1, .int i1)], [.int r27_6.1])) (aMem Z r27_6.2, t) _
    refine go_ops aMi203 3 _ (f1 := (33, ([(3, .int r27_6.1), (2, .int x7_2), (0, .ref a0), (1, .int i1)], [.int (Int32.ofInt (-1)), .int r27_6.1]))) rfl ?_
    refine gg_br (b := decide (r27_6.1 = (Int32.ofInt (-1)))) (tg := 47) (off := 14) aMi203 rfl rfl rfl rfl (fun hb => ?_) (fun hb => ?_)
    · rw [if_pos (of_decide_eq_true hb)] at h
      refine go_le (lv1 := [(1, .int i1), (3, .int r27_6.1)]) (aLe_of (show (List.map (fun q => q.1) ([(1, .int i1), (3, .int r27_6.1)] : ALv)).Nodup from (by show ([1, 3] : List Nat).Nodup; decide)) (aSubL_cons rfl (aSubL_cons rfl aSubL_nil))) ?_
      exact Tf203_b47 hd i1 r27_6.1 r27_6.2 _ h
    · rw [if_neg (of_decide_eq_false hb)] at h
      refine go_ops aMi203 1 _ (f1 := (37, ([(3, .int r27_6.1), (2, .int x7_2), (0, .ref a0), (1, .int i1)], [.ref a0]))) rfl ?_
      obtain ⟨b37_7, hxb37_7, h⟩ := Option.bind_eq_some_iff.mp h
      refine gg_gR aMi203 rfl rfl rfl hxb37_7 ?_
      refine go_ops aMi203 1 _ (f1 := (41, ([(3, .int r27_6.1), (2, .int x7_2), (0, .ref a0), (1, .int i1)], [.int r27_6.1, .ref b37_7]))) rfl ?_
      obtain ⟨x41_8, hxx41_8, h⟩ := Option.bind_eq_some_iff.mp h
      refine gg_lI (Or.inl ⟨rfl, rfl⟩) aMi203 rfl hxx41_8 ?_
      refine go_ops aMi203 1 _ (f1 := (44, ([(3, .int r27_6.1), (2, .int x7_2), (0, .ref a0), (1, .int i1)], [.int (6 : Int32), .int x41_8]))) rfl ?_
      refine gg_br (b := decide (¬ x41_8 = (6 : Int32))) (tg := 62) (off := 18) aMi203 rfl rfl rfl rfl (fun hb => ?_) (fun hb => ?_)
      · rw [if_pos (of_decide_eq_true hb)] at h
        refine go_ops aMi203 1 _ (f1 := (63, ([(3, .int r27_6.1), (2, .int x7_2), (0, .ref a0), (1, .int i1)], [.ref a0]))) rfl ?_
        obtain ⟨b63_9, hxb63_9, h⟩ := Option.bind_eq_some_iff.mp h
        refine gg_gR aMi203 rfl rfl rfl hxb63_9 ?_
        refine go_ops aMi203 4 _ (f1 := (70, ([(3, .int r27_6.1), (2, .int x7_2), (0, .ref a0), (1, .int i1)], [.int (i1 + (1 : Int32)), .int x7_2, .ref b63_9]))) rfl ?_
        obtain ⟨I70_10, hxI70_10, h⟩ := Option.bind_eq_some_iff.mp h
        refine gg_sI (Or.inl ⟨rfl, rfl⟩) aMi203 rfl hxI70_10 ?_
        refine go_ops aMi203 1 _ (f1 := (72, ([(3, .int r27_6.1), (2, .int x7_2), (0, .ref a0), (1, .int i1)], [.ref a0]))) rfl ?_
        obtain ⟨b72_11, hxb72_11, h⟩ := Option.bind_eq_some_iff.mp h
        refine gg_gR aMi203 rfl rfl rfl hxb72_11 ?_
        refine go_ops aMi203 2 _ (f1 := (77, ([(3, .int r27_6.1), (2, .int x7_2), (0, .ref a0), (1, .int i1)], [.int r27_6.1, .int x7_2, .ref b72_11]))) rfl ?_
        obtain ⟨I77_12, hxI77_12, h⟩ := Option.bind_eq_some_iff.mp h
        refine gg_sI (Or.inl ⟨rfl, rfl⟩) aMi203 rfl hxI77_12 ?_
        refine go_ops aMi203 1 _ (f1 := (79, ([(3, .int r27_6.1), (2, .int x7_2), (0, .ref a0), (1, .int i1)], [.ref a0]))) rfl ?_
        obtain ⟨b79_13, hxb79_13, h⟩ := Option.bind_eq_some_iff.mp h
        refine gg_gR aMi203 rfl rfl rfl hxb79_13 ?_
        refine go_ops aMi203 1 _ (f1 := (83, ([(3, .int r27_6.1), (2, .int x7_2), (0, .ref a0), (1, .int i1)], [.ref a0, .ref b79_13]))) rfl ?_
        obtain ⟨x83_14, hxx83_14, h⟩ := Option.bind_eq_some_iff.mp h
        refine gg_gI aMi203 rfl rfl rfl hxx83_14 ?_
        refine go_ops aMi203 3 _ (f1 := (89, ([(3, .int r27_6.1), (2, .int x7_2), (0, .ref a0), (1, .int i1)], [.int (r27_6.1 + (1 : Int32)), .int x83_14, .ref b79_13]))) rfl ?_
        obtain ⟨I89_15, hxI89_15, h⟩ := Option.bind_eq_some_iff.mp h
        refine gg_sI (Or.inl ⟨rfl, rfl⟩) aMi203 rfl hxI89_15 ?_
        refine go_ops aMi203 1 _ (f1 := (91, ([(3, .int r27_6.1), (2, .int x7_2), (0, .ref a0), (1, .int i1)], [.int (0 : Int32)]))) rfl ?_
        cases h
        exact go_ret aMi203 rfl aRetI ⟨rfl, rfl⟩
      · rw [if_neg (of_decide_eq_false hb)] at h
        refine go_le (lv1 := [(1, .int i1), (3, .int r27_6.1)]) (aLe_of (show (List.map (fun q => q.1) ([(1, .int i1), (3, .int r27_6.1)] : ALv)).Nodup from (by show ([1, 3] : List Nat).Nodup; decide)) (aSubL_cons rfl (aSubL_cons rfl aSubL_nil))) ?_
        exact Tf203_b47 hd i1 r27_6.1 r27_6.2 _ h
  · rw [if_neg (of_decide_eq_false hb)] at h
    refine go_ops aMi203 3 _ (f1 := (24, ([(2, .int x7_2), (0, .ref a0), (1, .int i1)], [.int ((300 : Int32) + i1)]))) rfl ?_
    cases h
    exact go_ret aMi203 rfl aRetI ⟨rfl, rfl⟩
-- KernelGymModel.isGoneThrough (I)Z
def f204_b2 (kad : Nat → Nat) (N : Nat) (Z : AZ) : Nat → Nat → Int32 → Int32 → AI → Option (Int32 × AI)
  | 0, _, _, _, _ => none
  | F + 1, a0, i1, i2, I =>
    (gI Z I 11 14 a0).bind fun x4_1 =>
    if x4_1 < i2 then
      if (0 : Int32) = 0 ∨ (0 : Int32) = 1 then some ((0 : Int32), I) else none
    else
      (gR Z I 11 11 a0).bind fun b11_2 =>
      (lI Z I 100 b11_2 i2).bind fun x15_3 =>
      if ¬ x15_3 = i1 then
        f204_b2 kad N Z F a0 i1 (i2 + (1 : Int32)) I
      else
        if (1 : Int32) = 0 ∨ (1 : Int32) = 1 then some ((1 : Int32), I) else none
theorem Tf204_b2 {kad : Nat → Nat} {N : Nat} {Z : AZ} {d : Nat} {t : Option Nat × (Nat × Nat)} (hd : 0 ≤ d) : ∀ (F : Nat) (a0 : Nat) (i1 : Int32) (i2 : Int32) (I : AI) (r : Int32 × AI), f204_b2 kad N Z F a0 i1 i2 I = some r → aGo kad d 204 (2, ([(0, .ref a0), (1, .int i1), (2, .int i2)], [])) (aMem Z I, t) (qI Z t r) := by
  intro F
  induction F with
  | zero => intro a0 i1 i2 I r h; cases h
  | succ F ih =>
    intro a0 i1 i2 I r h
    unfold f204_b2 at h
    refine go_ops aMi204 2 _ (f1 := (4, ([(0, .ref a0), (1, .int i1), (2, .int i2)], [.ref a0, .int i2]))) rfl ?_
    obtain ⟨x4_1, hxx4_1, h⟩ := Option.bind_eq_some_iff.mp h
    refine gg_gI aMi204 rfl rfl rfl hxx4_1 ?_
    refine gg_br (b := decide (x4_1 < i2)) (tg := 28) (off := 21) aMi204 rfl rfl rfl rfl (fun hb => ?_) (fun hb => ?_)
    · rw [if_pos (of_decide_eq_true hb)] at h
      refine go_ops aMi204 1 _ (f1 := (29, ([(0, .ref a0), (1, .int i1), (2, .int i2)], [.int (0 : Int32)]))) rfl ?_
      split at h
      · rename_i hz
        cases h
        exact go_ret aMi204 rfl (aRetZ hz) ⟨rfl, rfl⟩
      · cases h
    · rw [if_neg (of_decide_eq_false hb)] at h
      refine go_ops aMi204 1 _ (f1 := (11, ([(0, .ref a0), (1, .int i1), (2, .int i2)], [.ref a0]))) rfl ?_
      obtain ⟨b11_2, hxb11_2, h⟩ := Option.bind_eq_some_iff.mp h
      refine gg_gR aMi204 rfl rfl rfl hxb11_2 ?_
      refine go_ops aMi204 1 _ (f1 := (15, ([(0, .ref a0), (1, .int i1), (2, .int i2)], [.int i2, .ref b11_2]))) rfl ?_
      obtain ⟨x15_3, hxx15_3, h⟩ := Option.bind_eq_some_iff.mp h
      refine gg_lI (Or.inl ⟨rfl, rfl⟩) aMi204 rfl hxx15_3 ?_
      refine go_ops aMi204 1 _ (f1 := (17, ([(0, .ref a0), (1, .int i1), (2, .int i2)], [.int i1, .int x15_3]))) rfl ?_
      refine gg_br (b := decide (¬ x15_3 = i1)) (tg := 22) (off := 5) aMi204 rfl rfl rfl rfl (fun hb => ?_) (fun hb => ?_)
      · rw [if_pos (of_decide_eq_true hb)] at h
        refine go_ops aMi204 2 _ (f1 := (2, ([(2, .int (i2 + (1 : Int32))), (0, .ref a0), (1, .int i1)], []))) rfl ?_
        refine go_le (lv1 := [(0, .ref a0), (1, .int i1), (2, .int (i2 + (1 : Int32)))]) (aLe_of (show (List.map (fun q => q.1) ([(0, .ref a0), (1, .int i1), (2, .int (i2 + (1 : Int32)))] : ALv)).Nodup from (by show ([0, 1, 2] : List Nat).Nodup; decide)) (aSubL_cons rfl (aSubL_cons rfl (aSubL_cons rfl aSubL_nil)))) ?_
        exact ih a0 i1 (i2 + (1 : Int32)) I _ h
      · rw [if_neg (of_decide_eq_false hb)] at h
        refine go_ops aMi204 1 _ (f1 := (21, ([(0, .ref a0), (1, .int i1), (2, .int i2)], [.int (1 : Int32)]))) rfl ?_
        split at h
        · rename_i hz
          cases h
          exact go_ret aMi204 rfl (aRetZ hz) ⟨rfl, rfl⟩
        · cases h
def f204 (kad : Nat → Nat) (N : Nat) (Z : AZ) (a0 : Nat) (i1 : Int32) (I : AI) : Option (Int32 × AI) :=
  f204_b2 kad N Z N a0 i1 (1 : Int32) I
theorem Tf204 {kad : Nat → Nat} {N : Nat} {Z : AZ} {d : Nat} {t : Option Nat × (Nat × Nat)} (hd : 0 ≤ d) : ∀ (a0 : Nat) (i1 : Int32) (I : AI) (r : Int32 × AI), f204 kad N Z a0 i1 I = some r → aGo kad d 204 (0, ([(0, .ref a0), (1, .int i1)], [])) (aMem Z I, t) (qI Z t r) := by
  intro a0 i1 I r h
  unfold f204 at h
  refine go_ops aMi204 2 _ (f1 := (2, ([(2, .int (1 : Int32)), (0, .ref a0), (1, .int i1)], []))) rfl ?_
  refine go_le (lv1 := [(0, .ref a0), (1, .int i1), (2, .int (1 : Int32))]) (aLe_of (show (List.map (fun q => q.1) ([(0, .ref a0), (1, .int i1), (2, .int (1 : Int32))] : ALv)).Nodup from (by show ([0, 1, 2] : List Nat).Nodup; decide)) (aSubL_cons rfl (aSubL_cons rfl (aSubL_cons rfl aSubL_nil)))) ?_
  exact Tf204_b2 hd N a0 i1 (1 : Int32) I _ h
-- KernelGymModel.value (II)I
def f205_b67 (kad : Nat → Nat) (N : Nat) (Z : AZ) (s0 : Int32) (I : AI) : Option (Int32 × AI) :=
  some (s0, I)
theorem Tf205_b67 {kad : Nat → Nat} {N : Nat} {Z : AZ} {d : Nat} {t : Option Nat × (Nat × Nat)} (hd : 1 ≤ d) : ∀ (s0 : Int32) (I : AI) (r : Int32 × AI), f205_b67 kad N Z s0 I = some r → aGo kad d 205 (67, ([], [.int s0])) (aMem Z I, t) (qI Z t r) := by
  intro s0 I r h
  unfold f205_b67 at h
  cases h
  exact go_ret aMi205 rfl aRetI ⟨rfl, rfl⟩
def f205_b66 (kad : Nat → Nat) (N : Nat) (Z : AZ) (s0 : Int32) (s1 : Int32) (I : AI) : Option (Int32 × AI) :=
  f205_b67 kad N Z (s1 + s0) I
theorem Tf205_b66 {kad : Nat → Nat} {N : Nat} {Z : AZ} {d : Nat} {t : Option Nat × (Nat × Nat)} (hd : 1 ≤ d) : ∀ (s0 : Int32) (s1 : Int32) (I : AI) (r : Int32 × AI), f205_b66 kad N Z s0 s1 I = some r → aGo kad d 205 (66, ([], [.int s0, .int s1])) (aMem Z I, t) (qI Z t r) := by
  intro s0 s1 I r h
  unfold f205_b66 at h
  refine go_ops aMi205 1 _ (f1 := (67, ([], [.int (s1 + s0)]))) rfl ?_
  exact Tf205_b67 hd (s1 + s0) I _ h
def f205_b33 (kad : Nat → Nat) (N : Nat) (Z : AZ) (a0 : Nat) (i3 : Int32) (s0 : Int32) (s1 : Nat) (I : AI) : Option (Int32 × AI) :=
  (pI Z I 11 19 s1 s0).bind fun I33_1 =>
  if ¬ i3 = (Int32.ofInt (-1)) then
    if (1000 : Int32) ≤ i3 then
      (gI Z I33_1 11 18 a0).bind fun x63_2 =>
      f205_b66 kad N Z x63_2 (i3 - i3 / (1000 : Int32) * (1000 : Int32)) I33_1
    else
      f205_b66 kad N Z (8 : Int32) (i3 - i3 / (1000 : Int32) * (1000 : Int32)) I33_1
  else
    f205_b67 kad N Z (0 : Int32) I33_1
theorem Tf205_b33 {kad : Nat → Nat} {N : Nat} {Z : AZ} {d : Nat} {t : Option Nat × (Nat × Nat)} (hd : 1 ≤ d) : ∀ (a0 : Nat) (i3 : Int32) (s0 : Int32) (s1 : Nat) (I : AI) (r : Int32 × AI), f205_b33 kad N Z a0 i3 s0 s1 I = some r → aGo kad d 205 (33, ([(0, .ref a0), (3, .int i3)], [.int s0, .ref s1])) (aMem Z I, t) (qI Z t r) := by
  intro a0 i3 s0 s1 I r h
  unfold f205_b33 at h
  obtain ⟨I33_1, hxI33_1, h⟩ := Option.bind_eq_some_iff.mp h
  refine gg_pI aMi205 rfl rfl rfl rfl (by decide) hxI33_1 ?_
  refine go_ops aMi205 2 _ (f1 := (38, ([(0, .ref a0), (3, .int i3)], [.int (Int32.ofInt (-1)), .int i3]))) rfl ?_
  refine gg_br (b := decide (¬ i3 = (Int32.ofInt (-1)))) (tg := 45) (off := 7) aMi205 rfl rfl rfl rfl (fun hb => ?_) (fun hb => ?_)
  · rw [if_pos (of_decide_eq_true hb)] at h
    refine go_ops aMi205 5 _ (f1 := (54, ([(0, .ref a0), (3, .int i3)], [.int (1000 : Int32), .int i3, .int (i3 - i3 / (1000 : Int32) * (1000 : Int32))]))) rfl ?_
    refine gg_br (b := decide ((1000 : Int32) ≤ i3)) (tg := 62) (off := 8) aMi205 rfl rfl rfl rfl (fun hb => ?_) (fun hb => ?_)
    · rw [if_pos (of_decide_eq_true hb)] at h
      refine go_ops aMi205 1 _ (f1 := (63, ([(0, .ref a0), (3, .int i3)], [.ref a0, .int (i3 - i3 / (1000 : Int32) * (1000 : Int32))]))) rfl ?_
      obtain ⟨x63_2, hxx63_2, h⟩ := Option.bind_eq_some_iff.mp h
      refine gg_gI aMi205 rfl rfl rfl hxx63_2 ?_
      refine go_le (lv1 := []) (aLe_of (show (List.map (fun q => q.1) ([] : ALv)).Nodup from (by show ([] : List Nat).Nodup; decide)) aSubL_nil) ?_
      exact Tf205_b66 hd x63_2 (i3 - i3 / (1000 : Int32) * (1000 : Int32)) I33_1 _ h
    · rw [if_neg (of_decide_eq_false hb)] at h
      refine go_ops aMi205 2 _ (f1 := (66, ([(0, .ref a0), (3, .int i3)], [.int (8 : Int32), .int (i3 - i3 / (1000 : Int32) * (1000 : Int32))]))) rfl ?_
      refine go_le (lv1 := []) (aLe_of (show (List.map (fun q => q.1) ([] : ALv)).Nodup from (by show ([] : List Nat).Nodup; decide)) aSubL_nil) ?_
      exact Tf205_b66 hd (8 : Int32) (i3 - i3 / (1000 : Int32) * (1000 : Int32)) I33_1 _ h
  · rw [if_neg (of_decide_eq_false hb)] at h
    refine go_ops aMi205 2 _ (f1 := (67, ([(0, .ref a0), (3, .int i3)], [.int (0 : Int32)]))) rfl ?_
    refine go_le (lv1 := []) (aLe_of (show (List.map (fun q => q.1) ([] : ALv)).Nodup from (by show ([] : List Nat).Nodup; decide)) aSubL_nil) ?_
    exact Tf205_b67 hd (0 : Int32) I33_1 _ h
def f205_b134 (kad : Nat → Nat) (N : Nat) (Z : AZ) (s0 : Int32) (I : AI) : Option (Int32 × AI) :=
  some (s0, I)
theorem Tf205_b134 {kad : Nat → Nat} {N : Nat} {Z : AZ} {d : Nat} {t : Option Nat × (Nat × Nat)} (hd : 1 ≤ d) : ∀ (s0 : Int32) (I : AI) (r : Int32 × AI), f205_b134 kad N Z s0 I = some r → aGo kad d 205 (134, ([], [.int s0])) (aMem Z I, t) (qI Z t r) := by
  intro s0 I r h
  unfold f205_b134 at h
  cases h
  exact go_ret aMi205 rfl aRetI ⟨rfl, rfl⟩
def f205_b129 (kad : Nat → Nat) (N : Nat) (Z : AZ) (i2 : Int32) (s0 : Int32) (I : AI) : Option (Int32 × AI) :=
  f205_b134 kad N Z ((s0 + i2) - (s0 + i2) / (65536 : Int32) * (65536 : Int32)) I
theorem Tf205_b129 {kad : Nat → Nat} {N : Nat} {Z : AZ} {d : Nat} {t : Option Nat × (Nat × Nat)} (hd : 1 ≤ d) : ∀ (i2 : Int32) (s0 : Int32) (I : AI) (r : Int32 × AI), f205_b129 kad N Z i2 s0 I = some r → aGo kad d 205 (129, ([(2, .int i2)], [.int s0])) (aMem Z I, t) (qI Z t r) := by
  intro i2 s0 I r h
  unfold f205_b129 at h
  refine go_ops aMi205 2 _ (f1 := (131, ([(2, .int i2)], [.int (s0 + i2)]))) rfl ?_
  refine gg_kI (Or.inl ⟨rfl, rfl⟩) aMi205 rfl rfl ?_
  refine go_ops aMi205 1 _ (f1 := (134, ([(2, .int i2)], [.int ((s0 + i2) - (s0 + i2) / (65536 : Int32) * (65536 : Int32))]))) rfl ?_
  refine go_le (lv1 := []) (aLe_of (show (List.map (fun q => q.1) ([] : ALv)).Nodup from (by show ([] : List Nat).Nodup; decide)) aSubL_nil) ?_
  exact Tf205_b134 hd ((s0 + i2) - (s0 + i2) / (65536 : Int32) * (65536 : Int32)) I _ h
def f205_b89 (kad : Nat → Nat) (N : Nat) (Z : AZ) (a0 : Nat) (i1 : Int32) (i2 : Int32) (s0 : Int32) (s1 : Nat) (I : AI) : Option (Int32 × AI) :=
  (pI Z I 11 19 s1 s0).bind fun I89_1 =>
  (gI Z I89_1 11 14 a0).bind fun x93_2 =>
  if ¬ x93_2 = 0 then
    if ¬ i1 = (2 : Int32) then
      (gR Z I89_1 11 13 a0).bind fun b121_3 =>
      (gI Z I89_1 11 14 a0).bind fun x125_4 =>
      (lI Z I89_1 100 b121_3 x125_4).bind fun x128_5 =>
      f205_b129 kad N Z i2 x128_5 I89_1
    else
      (gR Z I89_1 11 12 a0).bind fun b109_6 =>
      (gI Z I89_1 11 14 a0).bind fun x113_7 =>
      (lI Z I89_1 100 b109_6 x113_7).bind fun x116_8 =>
      f205_b129 kad N Z i2 x116_8 I89_1
  else
    f205_b134 kad N Z (0 : Int32) I89_1
theorem Tf205_b89 {kad : Nat → Nat} {N : Nat} {Z : AZ} {d : Nat} {t : Option Nat × (Nat × Nat)} (hd : 1 ≤ d) : ∀ (a0 : Nat) (i1 : Int32) (i2 : Int32) (s0 : Int32) (s1 : Nat) (I : AI) (r : Int32 × AI), f205_b89 kad N Z a0 i1 i2 s0 s1 I = some r → aGo kad d 205 (89, ([(0, .ref a0), (1, .int i1), (2, .int i2)], [.int s0, .ref s1])) (aMem Z I, t) (qI Z t r) := by
  intro a0 i1 i2 s0 s1 I r h
  unfold f205_b89 at h
  obtain ⟨I89_1, hxI89_1, h⟩ := Option.bind_eq_some_iff.mp h
  refine gg_pI aMi205 rfl rfl rfl rfl (by decide) hxI89_1 ?_
  refine go_ops aMi205 1 _ (f1 := (93, ([(0, .ref a0), (1, .int i1), (2, .int i2)], [.ref a0]))) rfl ?_
  obtain ⟨x93_2, hxx93_2, h⟩ := Option.bind_eq_some_iff.mp h
  refine gg_gI aMi205 rfl rfl rfl hxx93_2 ?_
  refine gg_br (b := decide (¬ x93_2 = 0)) (tg := 103) (off := 7) aMi205 rfl rfl rfl rfl (fun hb => ?_) (fun hb => ?_)
  · rw [if_pos (of_decide_eq_true hb)] at h
    refine go_ops aMi205 2 _ (f1 := (105, ([(0, .ref a0), (1, .int i1), (2, .int i2)], [.int (2 : Int32), .int i1]))) rfl ?_
    refine gg_br (b := decide (¬ i1 = (2 : Int32))) (tg := 120) (off := 15) aMi205 rfl rfl rfl rfl (fun hb => ?_) (fun hb => ?_)
    · rw [if_pos (of_decide_eq_true hb)] at h
      refine go_ops aMi205 1 _ (f1 := (121, ([(0, .ref a0), (1, .int i1), (2, .int i2)], [.ref a0]))) rfl ?_
      obtain ⟨b121_3, hxb121_3, h⟩ := Option.bind_eq_some_iff.mp h
      refine gg_gR aMi205 rfl rfl rfl hxb121_3 ?_
      refine go_ops aMi205 1 _ (f1 := (125, ([(0, .ref a0), (1, .int i1), (2, .int i2)], [.ref a0, .ref b121_3]))) rfl ?_
      obtain ⟨x125_4, hxx125_4, h⟩ := Option.bind_eq_some_iff.mp h
      refine gg_gI aMi205 rfl rfl rfl hxx125_4 ?_
      obtain ⟨x128_5, hxx128_5, h⟩ := Option.bind_eq_some_iff.mp h
      refine gg_lI (Or.inl ⟨rfl, rfl⟩) aMi205 rfl hxx128_5 ?_
      refine go_le (lv1 := [(2, .int i2)]) (aLe_of (show (List.map (fun q => q.1) ([(2, .int i2)] : ALv)).Nodup from (by show ([2] : List Nat).Nodup; decide)) (aSubL_cons rfl aSubL_nil)) ?_
      exact Tf205_b129 hd i2 x128_5 I89_1 _ h
    · rw [if_neg (of_decide_eq_false hb)] at h
      refine go_ops aMi205 1 _ (f1 := (109, ([(0, .ref a0), (1, .int i1), (2, .int i2)], [.ref a0]))) rfl ?_
      obtain ⟨b109_6, hxb109_6, h⟩ := Option.bind_eq_some_iff.mp h
      refine gg_gR aMi205 rfl rfl rfl hxb109_6 ?_
      refine go_ops aMi205 1 _ (f1 := (113, ([(0, .ref a0), (1, .int i1), (2, .int i2)], [.ref a0, .ref b109_6]))) rfl ?_
      obtain ⟨x113_7, hxx113_7, h⟩ := Option.bind_eq_some_iff.mp h
      refine gg_gI aMi205 rfl rfl rfl hxx113_7 ?_
      obtain ⟨x116_8, hxx116_8, h⟩ := Option.bind_eq_some_iff.mp h
      refine gg_lI (Or.inl ⟨rfl, rfl⟩) aMi205 rfl hxx116_8 ?_
      refine go_ops aMi205 1 _ (f1 := (129, ([(0, .ref a0), (1, .int i1), (2, .int i2)], [.int x116_8]))) rfl ?_
      refine go_le (lv1 := [(2, .int i2)]) (aLe_of (show (List.map (fun q => q.1) ([(2, .int i2)] : ALv)).Nodup from (by show ([2] : List Nat).Nodup; decide)) (aSubL_cons rfl aSubL_nil)) ?_
      exact Tf205_b129 hd i2 x116_8 I89_1 _ h
  · rw [if_neg (of_decide_eq_false hb)] at h
    refine go_ops aMi205 2 _ (f1 := (134, ([(0, .ref a0), (1, .int i1), (2, .int i2)], [.int (0 : Int32)]))) rfl ?_
    refine go_le (lv1 := []) (aLe_of (show (List.map (fun q => q.1) ([] : ALv)).Nodup from (by show ([] : List Nat).Nodup; decide)) aSubL_nil) ?_
    exact Tf205_b134 hd (0 : Int32) I89_1 _ h
def f205 (kad : Nat → Nat) (N : Nat) (Z : AZ) (a0 : Nat) (i1 : Int32) (i2 : Int32) (I : AI) : Option (Int32 × AI) :=
  (pI Z I 11 19 a0 (0 : Int32)).bind fun I2_1 =>
  if ¬ i1 = (1 : Int32) then
    if (2 : Int32) ≤ i1 then
      (gI Z I2_1 11 14 a0).bind fun x77_2 =>
      if ¬ x77_2 = 0 then
        f205_b89 kad N Z a0 i1 i2 (0 : Int32) a0 I2_1
      else
        f205_b89 kad N Z a0 i1 i2 (7 : Int32) a0 I2_1
    else
      some (i2, I2_1)
  else
    (gR Z I2_1 11 4 a0).bind fun b11_3 =>
    (isK Z a0 11).bind fun u16_4 =>
    (f200 kad N Z a0 i2 I2_1).bind fun r16_5 =>
    (lI Z r16_5.2 100 b11_3 r16_5.1).bind fun x19_6 =>
    if ¬ x19_6 = (Int32.ofInt (-1)) then
      f205_b33 kad N Z a0 x19_6 (0 : Int32) a0 r16_5.2
    else
      f205_b33 kad N Z a0 x19_6 (6 : Int32) a0 r16_5.2
theorem Tf205 {kad : Nat → Nat} {N : Nat} {Z : AZ} {d : Nat} {t : Option Nat × (Nat × Nat)} (hd : 1 ≤ d) : ∀ (a0 : Nat) (i1 : Int32) (i2 : Int32) (I : AI) (r : Int32 × AI), f205 kad N Z a0 i1 i2 I = some r → aGo kad d 205 (0, ([(0, .ref a0), (1, .int i1), (2, .int i2)], [])) (aMem Z I, t) (qI Z t r) := by
  intro a0 i1 i2 I r h
  unfold f205 at h
  refine go_ops aMi205 2 _ (f1 := (2, ([(0, .ref a0), (1, .int i1), (2, .int i2)], [.int (0 : Int32), .ref a0]))) rfl ?_
  obtain ⟨I2_1, hxI2_1, h⟩ := Option.bind_eq_some_iff.mp h
  refine gg_pI aMi205 rfl rfl rfl rfl (by decide) hxI2_1 ?_
  refine go_ops aMi205 2 _ (f1 := (7, ([(0, .ref a0), (1, .int i1), (2, .int i2)], [.int (1 : Int32), .int i1]))) rfl ?_
  refine gg_br (b := decide (¬ i1 = (1 : Int32))) (tg := 68) (off := 61) aMi205 rfl rfl rfl rfl (fun hb => ?_) (fun hb => ?_)
  · rw [if_pos (of_decide_eq_true hb)] at h
    refine go_ops aMi205 2 _ (f1 := (70, ([(0, .ref a0), (1, .int i1), (2, .int i2)], [.int (2 : Int32), .int i1]))) rfl ?_
    refine gg_br (b := decide ((2 : Int32) ≤ i1)) (tg := 75) (off := 5) aMi205 rfl rfl rfl rfl (fun hb => ?_) (fun hb => ?_)
    · rw [if_pos (of_decide_eq_true hb)] at h
      refine go_ops aMi205 2 _ (f1 := (77, ([(0, .ref a0), (1, .int i1), (2, .int i2)], [.ref a0, .ref a0]))) rfl ?_
      obtain ⟨x77_2, hxx77_2, h⟩ := Option.bind_eq_some_iff.mp h
      refine gg_gI aMi205 rfl rfl rfl hxx77_2 ?_
      refine gg_br (b := decide (¬ x77_2 = 0)) (tg := 88) (off := 8) aMi205 rfl rfl rfl rfl (fun hb => ?_) (fun hb => ?_)
      · rw [if_pos (of_decide_eq_true hb)] at h
        refine go_ops aMi205 1 _ (f1 := (89, ([(0, .ref a0), (1, .int i1), (2, .int i2)], [.int (0 : Int32), .ref a0]))) rfl ?_
        exact Tf205_b89 hd a0 i1 i2 (0 : Int32) a0 I2_1 _ h
      · rw [if_neg (of_decide_eq_false hb)] at h
        refine go_ops aMi205 2 _ (f1 := (89, ([(0, .ref a0), (1, .int i1), (2, .int i2)], [.int (7 : Int32), .ref a0]))) rfl ?_
        exact Tf205_b89 hd a0 i1 i2 (7 : Int32) a0 I2_1 _ h
    · rw [if_neg (of_decide_eq_false hb)] at h
      refine go_ops aMi205 1 _ (f1 := (74, ([(0, .ref a0), (1, .int i1), (2, .int i2)], [.int i2]))) rfl ?_
      cases h
      exact go_ret aMi205 rfl aRetI ⟨rfl, rfl⟩
  · rw [if_neg (of_decide_eq_false hb)] at h
    refine go_ops aMi205 1 _ (f1 := (11, ([(0, .ref a0), (1, .int i1), (2, .int i2)], [.ref a0]))) rfl ?_
    obtain ⟨b11_3, hxb11_3, h⟩ := Option.bind_eq_some_iff.mp h
    refine gg_gR aMi205 rfl rfl rfl hxb11_3 ?_
    refine go_ops aMi205 2 _ (f1 := (16, ([(0, .ref a0), (1, .int i1), (2, .int i2)], [.int i2, .ref a0, .ref b11_3]))) rfl ?_
    obtain ⟨u16_4, hxu16_4, h⟩ := Option.bind_eq_some_iff.mp h
    obtain ⟨r16_5, hxr16_5, h⟩ := Option.bind_eq_some_iff.mp h
    refine gg_cv (as := [.int i2]) (r := [.ref b11_3]) aMi205 rfl rfl rfl aMi200 (Nat.le_of_ble_eq_true rfl) rfl (Nat.le_of_ble_eq_true rfl) (Nat.le_of_ble_eq_true rfl) (by omega) hxu16_4 (Tf200 (by omega) a0 i2 I2_1 _ hxr16_5) ?_
    show aGo kad d 205 (19, ([(0, .ref a0), (1, .int i1), (2, .int i2)], [.int r16_5.1, .ref b11_3])) (aMem Z r16_5.2, t) _
    obtain ⟨x19_6, hxx19_6, h⟩ := Option.bind_eq_some_iff.mp h
    refine gg_lI (Or.inl ⟨rfl, rfl⟩) aMi205 rfl hxx19_6 ?_
    refine go_ops aMi205 4 _ (f1 := (24, ([(3, .int x19_6), (0, .ref a0), (1, .int i1), (2, .int i2)], [.int (Int32.ofInt (-1)), .int x19_6, .ref a0]))) rfl ?_
    refine gg_br (b := decide (¬ x19_6 = (Int32.ofInt (-1)))) (tg := 32) (off := 8) aMi205 rfl rfl rfl rfl (fun hb => ?_) (fun hb => ?_)
    · rw [if_pos (of_decide_eq_true hb)] at h
      refine go_ops aMi205 1 _ (f1 := (33, ([(3, .int x19_6), (0, .ref a0), (1, .int i1), (2, .int i2)], [.int (0 : Int32), .ref a0]))) rfl ?_
      refine go_le (lv1 := [(0, .ref a0), (3, .int x19_6)]) (aLe_of (show (List.map (fun q => q.1) ([(0, .ref a0), (3, .int x19_6)] : ALv)).Nodup from (by show ([0, 3] : List Nat).Nodup; decide)) (aSubL_cons rfl (aSubL_cons rfl aSubL_nil))) ?_
      exact Tf205_b33 hd a0 x19_6 (0 : Int32) a0 r16_5.2 _ h
    · rw [if_neg (of_decide_eq_false hb)] at h
      refine go_ops aMi205 2 _ (f1 := (33, ([(3, .int x19_6), (0, .ref a0), (1, .int i1), (2, .int i2)], [.int (6 : Int32), .ref a0]))) rfl ?_
      refine go_le (lv1 := [(0, .ref a0), (3, .int x19_6)]) (aLe_of (show (List.map (fun q => q.1) ([(0, .ref a0), (3, .int x19_6)] : ALv)).Nodup from (by show ([0, 3] : List Nat).Nodup; decide)) (aSubL_cons rfl (aSubL_cons rfl aSubL_nil))) ?_
      exact Tf205_b33 hd a0 x19_6 (6 : Int32) a0 r16_5.2 _ h
-- KernelGymModel.usesMacro (IZ)I
def f206_b38 (kad : Nat → Nat) (N : Nat) (Z : AZ) (i1 : Int32) (I : AI) : Option (Int32 × AI) :=
  some (((500 : Int32) + i1), I)
theorem Tf206_b38 {kad : Nat → Nat} {N : Nat} {Z : AZ} {d : Nat} {t : Option Nat × (Nat × Nat)} (hd : 2 ≤ d) : ∀ (i1 : Int32) (I : AI) (r : Int32 × AI), f206_b38 kad N Z i1 I = some r → aGo kad d 206 (38, ([(1, .int i1)], [])) (aMem Z I, t) (qI Z t r) := by
  intro i1 I r h
  unfold f206_b38 at h
  refine go_ops aMi206 3 _ (f1 := (43, ([(1, .int i1)], [.int ((500 : Int32) + i1)]))) rfl ?_
  cases h
  exact go_ret aMi206 rfl aRetI ⟨rfl, rfl⟩
def f206_b250 (kad : Nat → Nat) (N : Nat) (Z : AZ) (s0 : Int32) (I : AI) : Option (Int32 × AI) :=
  some (s0, I)
theorem Tf206_b250 {kad : Nat → Nat} {N : Nat} {Z : AZ} {d : Nat} {t : Option Nat × (Nat × Nat)} (hd : 2 ≤ d) : ∀ (s0 : Int32) (I : AI) (r : Int32 × AI), f206_b250 kad N Z s0 I = some r → aGo kad d 206 (250, ([], [.int s0])) (aMem Z I, t) (qI Z t r) := by
  intro s0 I r h
  unfold f206_b250 at h
  cases h
  exact go_ret aMi206 rfl aRetI ⟨rfl, rfl⟩
def f206_b134 (kad : Nat → Nat) (N : Nat) (Z : AZ) (a0 : Nat) (i1 : Int32) (i4 : Int32) (i5 : Int32) (i7 : Int32) (s0 : Int32) (I : AI) : Option (Int32 × AI) :=
  (gI Z I 11 14 a0).bind fun x138_1 =>
  (pI Z I 11 14 a0 (x138_1 + (1 : Int32))).bind fun I143_2 =>
  (gR Z I143_2 11 8 a0).bind fun b147_3 =>
  (gI Z I143_2 11 14 a0).bind fun x151_4 =>
  (gR Z I143_2 11 6 a0).bind fun b155_5 =>
  (lI Z I143_2 100 b155_5 i4).bind fun x160_6 =>
  (sI Z I143_2 100 b147_3 x151_4 x160_6).bind fun I161_7 =>
  (gR Z I161_7 11 9 a0).bind fun b163_8 =>
  (gI Z I161_7 11 14 a0).bind fun x167_9 =>
  (gR Z I161_7 11 7 a0).bind fun b171_10 =>
  (lI Z I161_7 100 b171_10 i4).bind fun x176_11 =>
  (sI Z I161_7 100 b163_8 x167_9 x176_11).bind fun I177_12 =>
  (gR Z I177_12 11 10 a0).bind fun b179_13 =>
  (gI Z I177_12 11 14 a0).bind fun x183_14 =>
  (gI Z I177_12 11 17 a0).bind fun x187_15 =>
  (sI Z I177_12 100 b179_13 x183_14 x187_15).bind fun I190_16 =>
  (gR Z I190_16 11 11 a0).bind fun b192_17 =>
  (gI Z I190_16 11 14 a0).bind fun x196_18 =>
  (sI Z I190_16 100 b192_17 x196_18 i4).bind fun I201_19 =>
  (gR Z I201_19 11 12 a0).bind fun b203_20 =>
  (gI Z I201_19 11 14 a0).bind fun x207_21 =>
  (sI Z I201_19 100 b203_20 x207_21 i5).bind fun I212_22 =>
  (gR Z I212_22 11 13 a0).bind fun b214_23 =>
  (gI Z I212_22 11 14 a0).bind fun x218_24 =>
  (sI Z I212_22 100 b214_23 x218_24 i7).bind fun I223_25 =>
  (gI Z I223_25 11 17 a0).bind fun x226_26 =>
  (pI Z I223_25 11 17 a0 (x226_26 + (1 : Int32))).bind fun I231_27 =>
  if ¬ s0 = 0 then
    f206_b250 kad N Z (((100 : Int32) * s0) + i1) I231_27
  else
    f206_b250 kad N Z (0 : Int32) I231_27
theorem Tf206_b134 {kad : Nat → Nat} {N : Nat} {Z : AZ} {d : Nat} {t : Option Nat × (Nat × Nat)} (hd : 2 ≤ d) : ∀ (a0 : Nat) (i1 : Int32) (i4 : Int32) (i5 : Int32) (i7 : Int32) (s0 : Int32) (I : AI) (r : Int32 × AI), f206_b134 kad N Z a0 i1 i4 i5 i7 s0 I = some r → aGo kad d 206 (134, ([(0, .ref a0), (1, .int i1), (4, .int i4), (5, .int i5), (7, .int i7)], [.int s0])) (aMem Z I, t) (qI Z t r) := by
  intro a0 i1 i4 i5 i7 s0 I r h
  unfold f206_b134 at h
  refine go_ops aMi206 3 _ (f1 := (138, ([(6, .int s0), (0, .ref a0), (1, .int i1), (4, .int i4), (5, .int i5), (7, .int i7)], [.ref a0, .ref a0]))) rfl ?_
  obtain ⟨x138_1, hxx138_1, h⟩ := Option.bind_eq_some_iff.mp h
  refine gg_gI aMi206 rfl rfl rfl hxx138_1 ?_
  refine go_ops aMi206 2 _ (f1 := (143, ([(6, .int s0), (0, .ref a0), (1, .int i1), (4, .int i4), (5, .int i5), (7, .int i7)], [.int (x138_1 + (1 : Int32)), .ref a0]))) rfl ?_
  obtain ⟨I143_2, hxI143_2, h⟩ := Option.bind_eq_some_iff.mp h
  refine gg_pI aMi206 rfl rfl rfl rfl (by decide) hxI143_2 ?_
  refine go_ops aMi206 1 _ (f1 := (147, ([(6, .int s0), (0, .ref a0), (1, .int i1), (4, .int i4), (5, .int i5), (7, .int i7)], [.ref a0]))) rfl ?_
  obtain ⟨b147_3, hxb147_3, h⟩ := Option.bind_eq_some_iff.mp h
  refine gg_gR aMi206 rfl rfl rfl hxb147_3 ?_
  refine go_ops aMi206 1 _ (f1 := (151, ([(6, .int s0), (0, .ref a0), (1, .int i1), (4, .int i4), (5, .int i5), (7, .int i7)], [.ref a0, .ref b147_3]))) rfl ?_
  obtain ⟨x151_4, hxx151_4, h⟩ := Option.bind_eq_some_iff.mp h
  refine gg_gI aMi206 rfl rfl rfl hxx151_4 ?_
  refine go_ops aMi206 1 _ (f1 := (155, ([(6, .int s0), (0, .ref a0), (1, .int i1), (4, .int i4), (5, .int i5), (7, .int i7)], [.ref a0, .int x151_4, .ref b147_3]))) rfl ?_
  obtain ⟨b155_5, hxb155_5, h⟩ := Option.bind_eq_some_iff.mp h
  refine gg_gR aMi206 rfl rfl rfl hxb155_5 ?_
  refine go_ops aMi206 1 _ (f1 := (160, ([(6, .int s0), (0, .ref a0), (1, .int i1), (4, .int i4), (5, .int i5), (7, .int i7)], [.int i4, .ref b155_5, .int x151_4, .ref b147_3]))) rfl ?_
  obtain ⟨x160_6, hxx160_6, h⟩ := Option.bind_eq_some_iff.mp h
  refine gg_lI (Or.inl ⟨rfl, rfl⟩) aMi206 rfl hxx160_6 ?_
  obtain ⟨I161_7, hxI161_7, h⟩ := Option.bind_eq_some_iff.mp h
  refine gg_sI (Or.inl ⟨rfl, rfl⟩) aMi206 rfl hxI161_7 ?_
  refine go_ops aMi206 1 _ (f1 := (163, ([(6, .int s0), (0, .ref a0), (1, .int i1), (4, .int i4), (5, .int i5), (7, .int i7)], [.ref a0]))) rfl ?_
  obtain ⟨b163_8, hxb163_8, h⟩ := Option.bind_eq_some_iff.mp h
  refine gg_gR aMi206 rfl rfl rfl hxb163_8 ?_
  refine go_ops aMi206 1 _ (f1 := (167, ([(6, .int s0), (0, .ref a0), (1, .int i1), (4, .int i4), (5, .int i5), (7, .int i7)], [.ref a0, .ref b163_8]))) rfl ?_
  obtain ⟨x167_9, hxx167_9, h⟩ := Option.bind_eq_some_iff.mp h
  refine gg_gI aMi206 rfl rfl rfl hxx167_9 ?_
  refine go_ops aMi206 1 _ (f1 := (171, ([(6, .int s0), (0, .ref a0), (1, .int i1), (4, .int i4), (5, .int i5), (7, .int i7)], [.ref a0, .int x167_9, .ref b163_8]))) rfl ?_
  obtain ⟨b171_10, hxb171_10, h⟩ := Option.bind_eq_some_iff.mp h
  refine gg_gR aMi206 rfl rfl rfl hxb171_10 ?_
  refine go_ops aMi206 1 _ (f1 := (176, ([(6, .int s0), (0, .ref a0), (1, .int i1), (4, .int i4), (5, .int i5), (7, .int i7)], [.int i4, .ref b171_10, .int x167_9, .ref b163_8]))) rfl ?_
  obtain ⟨x176_11, hxx176_11, h⟩ := Option.bind_eq_some_iff.mp h
  refine gg_lI (Or.inl ⟨rfl, rfl⟩) aMi206 rfl hxx176_11 ?_
  obtain ⟨I177_12, hxI177_12, h⟩ := Option.bind_eq_some_iff.mp h
  refine gg_sI (Or.inl ⟨rfl, rfl⟩) aMi206 rfl hxI177_12 ?_
  refine go_ops aMi206 1 _ (f1 := (179, ([(6, .int s0), (0, .ref a0), (1, .int i1), (4, .int i4), (5, .int i5), (7, .int i7)], [.ref a0]))) rfl ?_
  obtain ⟨b179_13, hxb179_13, h⟩ := Option.bind_eq_some_iff.mp h
  refine gg_gR aMi206 rfl rfl rfl hxb179_13 ?_
  refine go_ops aMi206 1 _ (f1 := (183, ([(6, .int s0), (0, .ref a0), (1, .int i1), (4, .int i4), (5, .int i5), (7, .int i7)], [.ref a0, .ref b179_13]))) rfl ?_
  obtain ⟨x183_14, hxx183_14, h⟩ := Option.bind_eq_some_iff.mp h
  refine gg_gI aMi206 rfl rfl rfl hxx183_14 ?_
  refine go_ops aMi206 1 _ (f1 := (187, ([(6, .int s0), (0, .ref a0), (1, .int i1), (4, .int i4), (5, .int i5), (7, .int i7)], [.ref a0, .int x183_14, .ref b179_13]))) rfl ?_
  obtain ⟨x187_15, hxx187_15, h⟩ := Option.bind_eq_some_iff.mp h
  refine gg_gI aMi206 rfl rfl rfl hxx187_15 ?_
  obtain ⟨I190_16, hxI190_16, h⟩ := Option.bind_eq_some_iff.mp h
  refine gg_sI (Or.inl ⟨rfl, rfl⟩) aMi206 rfl hxI190_16 ?_
  refine go_ops aMi206 1 _ (f1 := (192, ([(6, .int s0), (0, .ref a0), (1, .int i1), (4, .int i4), (5, .int i5), (7, .int i7)], [.ref a0]))) rfl ?_
  obtain ⟨b192_17, hxb192_17, h⟩ := Option.bind_eq_some_iff.mp h
  refine gg_gR aMi206 rfl rfl rfl hxb192_17 ?_
  refine go_ops aMi206 1 _ (f1 := (196, ([(6, .int s0), (0, .ref a0), (1, .int i1), (4, .int i4), (5, .int i5), (7, .int i7)], [.ref a0, .ref b192_17]))) rfl ?_
  obtain ⟨x196_18, hxx196_18, h⟩ := Option.bind_eq_some_iff.mp h
  refine gg_gI aMi206 rfl rfl rfl hxx196_18 ?_
  refine go_ops aMi206 1 _ (f1 := (201, ([(6, .int s0), (0, .ref a0), (1, .int i1), (4, .int i4), (5, .int i5), (7, .int i7)], [.int i4, .int x196_18, .ref b192_17]))) rfl ?_
  obtain ⟨I201_19, hxI201_19, h⟩ := Option.bind_eq_some_iff.mp h
  refine gg_sI (Or.inl ⟨rfl, rfl⟩) aMi206 rfl hxI201_19 ?_
  refine go_ops aMi206 1 _ (f1 := (203, ([(6, .int s0), (0, .ref a0), (1, .int i1), (4, .int i4), (5, .int i5), (7, .int i7)], [.ref a0]))) rfl ?_
  obtain ⟨b203_20, hxb203_20, h⟩ := Option.bind_eq_some_iff.mp h
  refine gg_gR aMi206 rfl rfl rfl hxb203_20 ?_
  refine go_ops aMi206 1 _ (f1 := (207, ([(6, .int s0), (0, .ref a0), (1, .int i1), (4, .int i4), (5, .int i5), (7, .int i7)], [.ref a0, .ref b203_20]))) rfl ?_
  obtain ⟨x207_21, hxx207_21, h⟩ := Option.bind_eq_some_iff.mp h
  refine gg_gI aMi206 rfl rfl rfl hxx207_21 ?_
  refine go_ops aMi206 1 _ (f1 := (212, ([(6, .int s0), (0, .ref a0), (1, .int i1), (4, .int i4), (5, .int i5), (7, .int i7)], [.int i5, .int x207_21, .ref b203_20]))) rfl ?_
  obtain ⟨I212_22, hxI212_22, h⟩ := Option.bind_eq_some_iff.mp h
  refine gg_sI (Or.inl ⟨rfl, rfl⟩) aMi206 rfl hxI212_22 ?_
  refine go_ops aMi206 1 _ (f1 := (214, ([(6, .int s0), (0, .ref a0), (1, .int i1), (4, .int i4), (5, .int i5), (7, .int i7)], [.ref a0]))) rfl ?_
  obtain ⟨b214_23, hxb214_23, h⟩ := Option.bind_eq_some_iff.mp h
  refine gg_gR aMi206 rfl rfl rfl hxb214_23 ?_
  refine go_ops aMi206 1 _ (f1 := (218, ([(6, .int s0), (0, .ref a0), (1, .int i1), (4, .int i4), (5, .int i5), (7, .int i7)], [.ref a0, .ref b214_23]))) rfl ?_
  obtain ⟨x218_24, hxx218_24, h⟩ := Option.bind_eq_some_iff.mp h
  refine gg_gI aMi206 rfl rfl rfl hxx218_24 ?_
  refine go_ops aMi206 1 _ (f1 := (223, ([(6, .int s0), (0, .ref a0), (1, .int i1), (4, .int i4), (5, .int i5), (7, .int i7)], [.int i7, .int x218_24, .ref b214_23]))) rfl ?_
  obtain ⟨I223_25, hxI223_25, h⟩ := Option.bind_eq_some_iff.mp h
  refine gg_sI (Or.inl ⟨rfl, rfl⟩) aMi206 rfl hxI223_25 ?_
  refine go_ops aMi206 2 _ (f1 := (226, ([(6, .int s0), (0, .ref a0), (1, .int i1), (4, .int i4), (5, .int i5), (7, .int i7)], [.ref a0, .ref a0]))) rfl ?_
  obtain ⟨x226_26, hxx226_26, h⟩ := Option.bind_eq_some_iff.mp h
  refine gg_gI aMi206 rfl rfl rfl hxx226_26 ?_
  refine go_ops aMi206 2 _ (f1 := (231, ([(6, .int s0), (0, .ref a0), (1, .int i1), (4, .int i4), (5, .int i5), (7, .int i7)], [.int (x226_26 + (1 : Int32)), .ref a0]))) rfl ?_
  obtain ⟨I231_27, hxI231_27, h⟩ := Option.bind_eq_some_iff.mp h
  refine gg_pI aMi206 rfl rfl rfl rfl (by decide) hxI231_27 ?_
  refine go_ops aMi206 1 _ (f1 := (236, ([(6, .int s0), (0, .ref a0), (1, .int i1), (4, .int i4), (5, .int i5), (7, .int i7)], [.int s0]))) rfl ?_
  refine gg_br (b := decide (¬ s0 = 0)) (tg := 243) (off := 7) aMi206 rfl rfl rfl rfl (fun hb => ?_) (fun hb => ?_)
  · rw [if_pos (of_decide_eq_true hb)] at h
    refine go_ops aMi206 5 _ (f1 := (250, ([(6, .int s0), (0, .ref a0), (1, .int i1), (4, .int i4), (5, .int i5), (7, .int i7)], [.int (((100 : Int32) * s0) + i1)]))) rfl ?_
    refine go_le (lv1 := []) (aLe_of (show (List.map (fun q => q.1) ([] : ALv)).Nodup from (by show ([] : List Nat).Nodup; decide)) aSubL_nil) ?_
    exact Tf206_b250 hd (((100 : Int32) * s0) + i1) I231_27 _ h
  · rw [if_neg (of_decide_eq_false hb)] at h
    refine go_ops aMi206 2 _ (f1 := (250, ([(6, .int s0), (0, .ref a0), (1, .int i1), (4, .int i4), (5, .int i5), (7, .int i7)], [.int (0 : Int32)]))) rfl ?_
    refine go_le (lv1 := []) (aLe_of (show (List.map (fun q => q.1) ([] : ALv)).Nodup from (by show ([] : List Nat).Nodup; decide)) aSubL_nil) ?_
    exact Tf206_b250 hd (0 : Int32) I231_27 _ h
def f206_b132 (kad : Nat → Nat) (N : Nat) (Z : AZ) (a0 : Nat) (i1 : Int32) (i4 : Int32) (i5 : Int32) (i6 : Int32) (i7 : Int32) (I : AI) : Option (Int32 × AI) :=
  f206_b134 kad N Z a0 i1 i4 i5 i7 i6 I
theorem Tf206_b132 {kad : Nat → Nat} {N : Nat} {Z : AZ} {d : Nat} {t : Option Nat × (Nat × Nat)} (hd : 2 ≤ d) : ∀ (a0 : Nat) (i1 : Int32) (i4 : Int32) (i5 : Int32) (i6 : Int32) (i7 : Int32) (I : AI) (r : Int32 × AI), f206_b132 kad N Z a0 i1 i4 i5 i6 i7 I = some r → aGo kad d 206 (132, ([(0, .ref a0), (1, .int i1), (4, .int i4), (5, .int i5), (6, .int i6), (7, .int i7)], [])) (aMem Z I, t) (qI Z t r) := by
  intro a0 i1 i4 i5 i6 i7 I r h
  unfold f206_b132 at h
  refine go_ops aMi206 1 _ (f1 := (134, ([(0, .ref a0), (1, .int i1), (4, .int i4), (5, .int i5), (6, .int i6), (7, .int i7)], [.int i6]))) rfl ?_
  refine go_le (lv1 := [(0, .ref a0), (1, .int i1), (4, .int i4), (5, .int i5), (7, .int i7)]) (aLe_of (show (List.map (fun q => q.1) ([(0, .ref a0), (1, .int i1), (4, .int i4), (5, .int i5), (7, .int i7)] : ALv)).Nodup from (by show ([0, 1, 4, 5, 7] : List Nat).Nodup; decide)) (aSubL_cons rfl (aSubL_cons rfl (aSubL_cons rfl (aSubL_cons rfl (aSubL_cons rfl aSubL_nil)))))) ?_
  exact Tf206_b134 hd a0 i1 i4 i5 i7 i6 I _ h
def f206_b114 (kad : Nat → Nat) (N : Nat) (Z : AZ) (a0 : Nat) (i1 : Int32) (i2 : Int32) (i4 : Int32) (i5 : Int32) (i6 : Int32) (s0 : Int32) (I : AI) : Option (Int32 × AI) :=
  if i2 = 0 then
    f206_b132 kad N Z a0 i1 i4 i5 i6 s0 I
  else
    if ¬ i6 = 0 then
      f206_b132 kad N Z a0 i1 i4 i5 i6 s0 I
    else
      (gI Z I 11 19 a0).bind fun x126_1 =>
      f206_b134 kad N Z a0 i1 i4 i5 s0 x126_1 I
theorem Tf206_b114 {kad : Nat → Nat} {N : Nat} {Z : AZ} {d : Nat} {t : Option Nat × (Nat × Nat)} (hd : 2 ≤ d) : ∀ (a0 : Nat) (i1 : Int32) (i2 : Int32) (i4 : Int32) (i5 : Int32) (i6 : Int32) (s0 : Int32) (I : AI) (r : Int32 × AI), f206_b114 kad N Z a0 i1 i2 i4 i5 i6 s0 I = some r → aGo kad d 206 (114, ([(0, .ref a0), (1, .int i1), (2, .int i2), (4, .int i4), (5, .int i5), (6, .int i6)], [.int s0])) (aMem Z I, t) (qI Z t r) := by
  intro a0 i1 i2 i4 i5 i6 s0 I r h
  unfold f206_b114 at h
  refine go_ops aMi206 2 _ (f1 := (117, ([(7, .int s0), (0, .ref a0), (1, .int i1), (2, .int i2), (4, .int i4), (5, .int i5), (6, .int i6)], [.int i2]))) rfl ?_
  refine gg_br (b := decide (i2 = 0)) (tg := 132) (off := 15) aMi206 rfl rfl rfl rfl (fun hb => ?_) (fun hb => ?_)
  · rw [if_pos (of_decide_eq_true hb)] at h
    refine go_le (lv1 := [(0, .ref a0), (1, .int i1), (4, .int i4), (5, .int i5), (6, .int i6), (7, .int s0)]) (aLe_of (show (List.map (fun q => q.1) ([(0, .ref a0), (1, .int i1), (4, .int i4), (5, .int i5), (6, .int i6), (7, .int s0)] : ALv)).Nodup from (by show ([0, 1, 4, 5, 6, 7] : List Nat).Nodup; decide)) (aSubL_cons rfl (aSubL_cons rfl (aSubL_cons rfl (aSubL_cons rfl (aSubL_cons rfl (aSubL_cons rfl aSubL_nil))))))) ?_
    exact Tf206_b132 hd a0 i1 i4 i5 i6 s0 I _ h
  · rw [if_neg (of_decide_eq_false hb)] at h
    refine go_ops aMi206 1 _ (f1 := (122, ([(7, .int s0), (0, .ref a0), (1, .int i1), (2, .int i2), (4, .int i4), (5, .int i5), (6, .int i6)], [.int i6]))) rfl ?_
    refine gg_br (b := decide (¬ i6 = 0)) (tg := 132) (off := 10) aMi206 rfl rfl rfl rfl (fun hb => ?_) (fun hb => ?_)
    · rw [if_pos (of_decide_eq_true hb)] at h
      refine go_le (lv1 := [(0, .ref a0), (1, .int i1), (4, .int i4), (5, .int i5), (6, .int i6), (7, .int s0)]) (aLe_of (show (List.map (fun q => q.1) ([(0, .ref a0), (1, .int i1), (4, .int i4), (5, .int i5), (6, .int i6), (7, .int s0)] : ALv)).Nodup from (by show ([0, 1, 4, 5, 6, 7] : List Nat).Nodup; decide)) (aSubL_cons rfl (aSubL_cons rfl (aSubL_cons rfl (aSubL_cons rfl (aSubL_cons rfl (aSubL_cons rfl aSubL_nil))))))) ?_
      exact Tf206_b132 hd a0 i1 i4 i5 i6 s0 I _ h
    · rw [if_neg (of_decide_eq_false hb)] at h
      refine go_ops aMi206 1 _ (f1 := (126, ([(7, .int s0), (0, .ref a0), (1, .int i1), (2, .int i2), (4, .int i4), (5, .int i5), (6, .int i6)], [.ref a0]))) rfl ?_
      obtain ⟨x126_1, hxx126_1, h⟩ := Option.bind_eq_some_iff.mp h
      refine gg_gI aMi206 rfl rfl rfl hxx126_1 ?_
      refine go_ops aMi206 1 _ (f1 := (134, ([(7, .int s0), (0, .ref a0), (1, .int i1), (2, .int i2), (4, .int i4), (5, .int i5), (6, .int i6)], [.int x126_1]))) rfl ?_
      refine go_le (lv1 := [(0, .ref a0), (1, .int i1), (4, .int i4), (5, .int i5), (7, .int s0)]) (aLe_of (show (List.map (fun q => q.1) ([(0, .ref a0), (1, .int i1), (4, .int i4), (5, .int i5), (7, .int s0)] : ALv)).Nodup from (by show ([0, 1, 4, 5, 7] : List Nat).Nodup; decide)) (aSubL_cons rfl (aSubL_cons rfl (aSubL_cons rfl (aSubL_cons rfl (aSubL_cons rfl aSubL_nil)))))) ?_
      exact Tf206_b134 hd a0 i1 i4 i5 s0 x126_1 I _ h
def f206_b84 (kad : Nat → Nat) (N : Nat) (Z : AZ) (a0 : Nat) (i1 : Int32) (i2 : Int32) (i3 : Int32) (i4 : Int32) (i5 : Int32) (s0 : Int32) (I : AI) : Option (Int32 × AI) :=
  if i2 = 0 then
    f206_b114 kad N Z a0 i1 i2 i4 i5 s0 (0 : Int32) I
  else
    (gR Z I 11 3 a0).bind fun b92_1 =>
    (lI Z I 100 b92_1 (i3 + (2 : Int32))).bind fun x98_2 =>
    (gR Z I 11 3 a0).bind fun b100_3 =>
    (lI Z I 100 b100_3 (i3 + (3 : Int32))).bind fun x106_4 =>
    (isK Z a0 11).bind fun u107_5 =>
    (f205 kad N Z a0 x98_2 x106_4 I).bind fun r107_6 =>
    f206_b114 kad N Z a0 i1 i2 i4 i5 s0 r107_6.1 r107_6.2
theorem Tf206_b84 {kad : Nat → Nat} {N : Nat} {Z : AZ} {d : Nat} {t : Option Nat × (Nat × Nat)} (hd : 2 ≤ d) : ∀ (a0 : Nat) (i1 : Int32) (i2 : Int32) (i3 : Int32) (i4 : Int32) (i5 : Int32) (s0 : Int32) (I : AI) (r : Int32 × AI), f206_b84 kad N Z a0 i1 i2 i3 i4 i5 s0 I = some r → aGo kad d 206 (84, ([(0, .ref a0), (1, .int i1), (2, .int i2), (3, .int i3), (4, .int i4), (5, .int i5)], [.int s0])) (aMem Z I, t) (qI Z t r) := by
  intro a0 i1 i2 i3 i4 i5 s0 I r h
  unfold f206_b84 at h
  refine go_ops aMi206 2 _ (f1 := (87, ([(6, .int s0), (0, .ref a0), (1, .int i1), (2, .int i2), (3, .int i3), (4, .int i4), (5, .int i5)], [.int i2]))) rfl ?_
  refine gg_br (b := decide (i2 = 0)) (tg := 113) (off := 26) aMi206 rfl rfl rfl rfl (fun hb => ?_) (fun hb => ?_)
  · rw [if_pos (of_decide_eq_true hb)] at h
    refine go_ops aMi206 1 _ (f1 := (114, ([(6, .int s0), (0, .ref a0), (1, .int i1), (2, .int i2), (3, .int i3), (4, .int i4), (5, .int i5)], [.int (0 : Int32)]))) rfl ?_
    refine go_le (lv1 := [(0, .ref a0), (1, .int i1), (2, .int i2), (4, .int i4), (5, .int i5), (6, .int s0)]) (aLe_of (show (List.map (fun q => q.1) ([(0, .ref a0), (1, .int i1), (2, .int i2), (4, .int i4), (5, .int i5), (6, .int s0)] : ALv)).Nodup from (by show ([0, 1, 2, 4, 5, 6] : List Nat).Nodup; decide)) (aSubL_cons rfl (aSubL_cons rfl (aSubL_cons rfl (aSubL_cons rfl (aSubL_cons rfl (aSubL_cons rfl aSubL_nil))))))) ?_
    exact Tf206_b114 hd a0 i1 i2 i4 i5 s0 (0 : Int32) I _ h
  · rw [if_neg (of_decide_eq_false hb)] at h
    refine go_ops aMi206 2 _ (f1 := (92, ([(6, .int s0), (0, .ref a0), (1, .int i1), (2, .int i2), (3, .int i3), (4, .int i4), (5, .int i5)], [.ref a0, .ref a0]))) rfl ?_
    obtain ⟨b92_1, hxb92_1, h⟩ := Option.bind_eq_some_iff.mp h
    refine gg_gR aMi206 rfl rfl rfl hxb92_1 ?_
    refine go_ops aMi206 3 _ (f1 := (98, ([(6, .int s0), (0, .ref a0), (1, .int i1), (2, .int i2), (3, .int i3), (4, .int i4), (5, .int i5)], [.int (i3 + (2 : Int32)), .ref b92_1, .ref a0]))) rfl ?_
    obtain ⟨x98_2, hxx98_2, h⟩ := Option.bind_eq_some_iff.mp h
    refine gg_lI (Or.inl ⟨rfl, rfl⟩) aMi206 rfl hxx98_2 ?_
    refine go_ops aMi206 1 _ (f1 := (100, ([(6, .int s0), (0, .ref a0), (1, .int i1), (2, .int i2), (3, .int i3), (4, .int i4), (5, .int i5)], [.ref a0, .int x98_2, .ref a0]))) rfl ?_
    obtain ⟨b100_3, hxb100_3, h⟩ := Option.bind_eq_some_iff.mp h
    refine gg_gR aMi206 rfl rfl rfl hxb100_3 ?_
    refine go_ops aMi206 3 _ (f1 := (106, ([(6, .int s0), (0, .ref a0), (1, .int i1), (2, .int i2), (3, .int i3), (4, .int i4), (5, .int i5)], [.int (i3 + (3 : Int32)), .ref b100_3, .int x98_2, .ref a0]))) rfl ?_
    obtain ⟨x106_4, hxx106_4, h⟩ := Option.bind_eq_some_iff.mp h
    refine gg_lI (Or.inl ⟨rfl, rfl⟩) aMi206 rfl hxx106_4 ?_
    obtain ⟨u107_5, hxu107_5, h⟩ := Option.bind_eq_some_iff.mp h
    obtain ⟨r107_6, hxr107_6, h⟩ := Option.bind_eq_some_iff.mp h
    refine gg_cv (as := [.int x98_2, .int x106_4]) (r := []) aMi206 rfl rfl rfl aMi205 (Nat.le_of_ble_eq_true rfl) rfl (Nat.le_of_ble_eq_true rfl) (Nat.le_of_ble_eq_true rfl) (by omega) hxu107_5 (Tf205 (by omega) a0 x98_2 x106_4 I _ hxr107_6) ?_
    show aGo kad d 206 (110, ([(6, .int s0), (0, .ref a0), (1, .int i1), (2, .int i2), (3, .int i3), (4, .int i4), (5, .int i5)], [.int r107_6.1])) (aMem Z r107_6.2, t) _
    refine go_ops aMi206 1 _ (f1 := (114, ([(6, .int s0), (0, .ref a0), (1, .int i1), (2, .int i2), (3, .int i3), (4, .int i4), (5, .int i5)], [.int r107_6.1]))) rfl ?_
    refine go_le (lv1 := [(0, .ref a0), (1, .int i1), (2, .int i2), (4, .int i4), (5, .int i5), (6, .int s0)]) (aLe_of (show (List.map (fun q => q.1) ([(0, .ref a0), (1, .int i1), (2, .int i2), (4, .int i4), (5, .int i5), (6, .int s0)] : ALv)).Nodup from (by show ([0, 1, 2, 4, 5, 6] : List Nat).Nodup; decide)) (aSubL_cons rfl (aSubL_cons rfl (aSubL_cons rfl (aSubL_cons rfl (aSubL_cons rfl (aSubL_cons rfl aSubL_nil))))))) ?_
    exact Tf206_b114 hd a0 i1 i2 i4 i5 s0 r107_6.1 r107_6.2 _ h
def f206_b70 (kad : Nat → Nat) (N : Nat) (Z : AZ) (a0 : Nat) (i1 : Int32) (i2 : Int32) (i3 : Int32) (i4 : Int32) (s0 : Int32) (I : AI) : Option (Int32 × AI) :=
  if i2 = 0 then
    f206_b84 kad N Z a0 i1 i2 i3 i4 s0 (0 : Int32) I
  else
    (gI Z I 11 19 a0).bind fun x77_1 =>
    f206_b84 kad N Z a0 i1 i2 i3 i4 s0 x77_1 I
theorem Tf206_b70 {kad : Nat → Nat} {N : Nat} {Z : AZ} {d : Nat} {t : Option Nat × (Nat × Nat)} (hd : 2 ≤ d) : ∀ (a0 : Nat) (i1 : Int32) (i2 : Int32) (i3 : Int32) (i4 : Int32) (s0 : Int32) (I : AI) (r : Int32 × AI), f206_b70 kad N Z a0 i1 i2 i3 i4 s0 I = some r → aGo kad d 206 (70, ([(0, .ref a0), (1, .int i1), (2, .int i2), (3, .int i3), (4, .int i4)], [.int s0])) (aMem Z I, t) (qI Z t r) := by
  intro a0 i1 i2 i3 i4 s0 I r h
  unfold f206_b70 at h
  refine go_ops aMi206 2 _ (f1 := (73, ([(5, .int s0), (0, .ref a0), (1, .int i1), (2, .int i2), (3, .int i3), (4, .int i4)], [.int i2]))) rfl ?_
  refine gg_br (b := decide (i2 = 0)) (tg := 83) (off := 10) aMi206 rfl rfl rfl rfl (fun hb => ?_) (fun hb => ?_)
  · rw [if_pos (of_decide_eq_true hb)] at h
    refine go_ops aMi206 1 _ (f1 := (84, ([(5, .int s0), (0, .ref a0), (1, .int i1), (2, .int i2), (3, .int i3), (4, .int i4)], [.int (0 : Int32)]))) rfl ?_
    refine go_le (lv1 := [(0, .ref a0), (1, .int i1), (2, .int i2), (3, .int i3), (4, .int i4), (5, .int s0)]) (aLe_of (show (List.map (fun q => q.1) ([(0, .ref a0), (1, .int i1), (2, .int i2), (3, .int i3), (4, .int i4), (5, .int s0)] : ALv)).Nodup from (by show ([0, 1, 2, 3, 4, 5] : List Nat).Nodup; decide)) (aSubL_cons rfl (aSubL_cons rfl (aSubL_cons rfl (aSubL_cons rfl (aSubL_cons rfl (aSubL_cons rfl aSubL_nil))))))) ?_
    exact Tf206_b84 hd a0 i1 i2 i3 i4 s0 (0 : Int32) I _ h
  · rw [if_neg (of_decide_eq_false hb)] at h
    refine go_ops aMi206 1 _ (f1 := (77, ([(5, .int s0), (0, .ref a0), (1, .int i1), (2, .int i2), (3, .int i3), (4, .int i4)], [.ref a0]))) rfl ?_
    obtain ⟨x77_1, hxx77_1, h⟩ := Option.bind_eq_some_iff.mp h
    refine gg_gI aMi206 rfl rfl rfl hxx77_1 ?_
    refine go_ops aMi206 1 _ (f1 := (84, ([(5, .int s0), (0, .ref a0), (1, .int i1), (2, .int i2), (3, .int i3), (4, .int i4)], [.int x77_1]))) rfl ?_
    refine go_le (lv1 := [(0, .ref a0), (1, .int i1), (2, .int i2), (3, .int i3), (4, .int i4), (5, .int s0)]) (aLe_of (show (List.map (fun q => q.1) ([(0, .ref a0), (1, .int i1), (2, .int i2), (3, .int i3), (4, .int i4), (5, .int s0)] : ALv)).Nodup from (by show ([0, 1, 2, 3, 4, 5] : List Nat).Nodup; decide)) (aSubL_cons rfl (aSubL_cons rfl (aSubL_cons rfl (aSubL_cons rfl (aSubL_cons rfl (aSubL_cons rfl aSubL_nil))))))) ?_
    exact Tf206_b84 hd a0 i1 i2 i3 i4 s0 x77_1 I _ h
def f206_b44 (kad : Nat → Nat) (N : Nat) (Z : AZ) (a0 : Nat) (i1 : Int32) (i2 : Int32) (i3 : Int32) (i4 : Int32) (I : AI) : Option (Int32 × AI) :=
  if i2 = 0 then
    f206_b70 kad N Z a0 i1 i2 i3 i4 (0 : Int32) I
  else
    (gR Z I 11 3 a0).bind fun b50_1 =>
    (lI Z I 100 b50_1 i3).bind fun x54_2 =>
    (gR Z I 11 3 a0).bind fun b56_3 =>
    (lI Z I 100 b56_3 (i3 + (1 : Int32))).bind fun x62_4 =>
    (isK Z a0 11).bind fun u63_5 =>
    (f205 kad N Z a0 x54_2 x62_4 I).bind fun r63_6 =>
    f206_b70 kad N Z a0 i1 i2 i3 i4 r63_6.1 r63_6.2
theorem Tf206_b44 {kad : Nat → Nat} {N : Nat} {Z : AZ} {d : Nat} {t : Option Nat × (Nat × Nat)} (hd : 2 ≤ d) : ∀ (a0 : Nat) (i1 : Int32) (i2 : Int32) (i3 : Int32) (i4 : Int32) (I : AI) (r : Int32 × AI), f206_b44 kad N Z a0 i1 i2 i3 i4 I = some r → aGo kad d 206 (44, ([(0, .ref a0), (1, .int i1), (2, .int i2), (3, .int i3), (4, .int i4)], [])) (aMem Z I, t) (qI Z t r) := by
  intro a0 i1 i2 i3 i4 I r h
  unfold f206_b44 at h
  refine go_ops aMi206 1 _ (f1 := (45, ([(0, .ref a0), (1, .int i1), (2, .int i2), (3, .int i3), (4, .int i4)], [.int i2]))) rfl ?_
  refine gg_br (b := decide (i2 = 0)) (tg := 69) (off := 24) aMi206 rfl rfl rfl rfl (fun hb => ?_) (fun hb => ?_)
  · rw [if_pos (of_decide_eq_true hb)] at h
    refine go_ops aMi206 1 _ (f1 := (70, ([(0, .ref a0), (1, .int i1), (2, .int i2), (3, .int i3), (4, .int i4)], [.int (0 : Int32)]))) rfl ?_
    exact Tf206_b70 hd a0 i1 i2 i3 i4 (0 : Int32) I _ h
  · rw [if_neg (of_decide_eq_false hb)] at h
    refine go_ops aMi206 2 _ (f1 := (50, ([(0, .ref a0), (1, .int i1), (2, .int i2), (3, .int i3), (4, .int i4)], [.ref a0, .ref a0]))) rfl ?_
    obtain ⟨b50_1, hxb50_1, h⟩ := Option.bind_eq_some_iff.mp h
    refine gg_gR aMi206 rfl rfl rfl hxb50_1 ?_
    refine go_ops aMi206 1 _ (f1 := (54, ([(0, .ref a0), (1, .int i1), (2, .int i2), (3, .int i3), (4, .int i4)], [.int i3, .ref b50_1, .ref a0]))) rfl ?_
    obtain ⟨x54_2, hxx54_2, h⟩ := Option.bind_eq_some_iff.mp h
    refine gg_lI (Or.inl ⟨rfl, rfl⟩) aMi206 rfl hxx54_2 ?_
    refine go_ops aMi206 1 _ (f1 := (56, ([(0, .ref a0), (1, .int i1), (2, .int i2), (3, .int i3), (4, .int i4)], [.ref a0, .int x54_2, .ref a0]))) rfl ?_
    obtain ⟨b56_3, hxb56_3, h⟩ := Option.bind_eq_some_iff.mp h
    refine gg_gR aMi206 rfl rfl rfl hxb56_3 ?_
    refine go_ops aMi206 3 _ (f1 := (62, ([(0, .ref a0), (1, .int i1), (2, .int i2), (3, .int i3), (4, .int i4)], [.int (i3 + (1 : Int32)), .ref b56_3, .int x54_2, .ref a0]))) rfl ?_
    obtain ⟨x62_4, hxx62_4, h⟩ := Option.bind_eq_some_iff.mp h
    refine gg_lI (Or.inl ⟨rfl, rfl⟩) aMi206 rfl hxx62_4 ?_
    obtain ⟨u63_5, hxu63_5, h⟩ := Option.bind_eq_some_iff.mp h
    obtain ⟨r63_6, hxr63_6, h⟩ := Option.bind_eq_some_iff.mp h
    refine gg_cv (as := [.int x54_2, .int x62_4]) (r := []) aMi206 rfl rfl rfl aMi205 (Nat.le_of_ble_eq_true rfl) rfl (Nat.le_of_ble_eq_true rfl) (Nat.le_of_ble_eq_true rfl) (by omega) hxu63_5 (Tf205 (by omega) a0 x54_2 x62_4 I _ hxr63_6) ?_
    show aGo kad d 206 (66, ([(0, .ref a0), (1, .int i1), (2, .int i2), (3, .int i3), (4, .int i4)], [.int r63_6.1])) (aMem Z r63_6.2, t) _
    refine go_ops aMi206 1 _ (f1 := (70, ([(0, .ref a0), (1, .int i1), (2, .int i2), (3, .int i3), (4, .int i4)], [.int r63_6.1]))) rfl ?_
    exact Tf206_b70 hd a0 i1 i2 i3 i4 r63_6.1 r63_6.2 _ h
def f206 (kad : Nat → Nat) (N : Nat) (Z : AZ) (a0 : Nat) (i1 : Int32) (i2 : Int32) (I : AI) : Option (Int32 × AI) :=
  (gR Z I 11 3 a0).bind fun b5_1 =>
  (lI Z I 100 b5_1 (((5 : Int32) * i1) + (4 : Int32))).bind fun x11_2 =>
  if ¬ i2 = 0 then
    f206_b44 kad N Z a0 i1 i2 ((5 : Int32) * i1) x11_2 I
  else
    (gR Z I 11 6 a0).bind fun b19_3 =>
    (lI Z I 100 b19_3 x11_2).bind fun x24_4 =>
    if x24_4 = (Int32.ofInt (-1)) then
      f206_b38 kad N Z i1 I
    else
      (isK Z a0 11).bind fun u32_5 =>
      (f204 kad N Z a0 x11_2 I).bind fun r32_6 =>
      if r32_6.1 = 0 then
        f206_b44 kad N Z a0 i1 i2 ((5 : Int32) * i1) x11_2 r32_6.2
      else
        f206_b38 kad N Z i1 r32_6.2
theorem Tf206 {kad : Nat → Nat} {N : Nat} {Z : AZ} {d : Nat} {t : Option Nat × (Nat × Nat)} (hd : 2 ≤ d) : ∀ (a0 : Nat) (i1 : Int32) (i2 : Int32) (I : AI) (r : Int32 × AI), f206 kad N Z a0 i1 i2 I = some r → aGo kad d 206 (0, ([(0, .ref a0), (1, .int i1), (2, .int i2)], [])) (aMem Z I, t) (qI Z t r) := by
  intro a0 i1 i2 I r h
  unfold f206 at h
  refine go_ops aMi206 5 _ (f1 := (5, ([(3, .int ((5 : Int32) * i1)), (0, .ref a0), (1, .int i1), (2, .int i2)], [.ref a0]))) rfl ?_
  obtain ⟨b5_1, hxb5_1, h⟩ := Option.bind_eq_some_iff.mp h
  refine gg_gR aMi206 rfl rfl rfl hxb5_1 ?_
  refine go_ops aMi206 3 _ (f1 := (11, ([(3, .int ((5 : Int32) * i1)), (0, .ref a0), (1, .int i1), (2, .int i2)], [.int (((5 : Int32) * i1) + (4 : Int32)), .ref b5_1]))) rfl ?_
  obtain ⟨x11_2, hxx11_2, h⟩ := Option.bind_eq_some_iff.mp h
  refine gg_lI (Or.inl ⟨rfl, rfl⟩) aMi206 rfl hxx11_2 ?_
  refine go_ops aMi206 2 _ (f1 := (15, ([(4, .int x11_2), (3, .int ((5 : Int32) * i1)), (0, .ref a0), (1, .int i1), (2, .int i2)], [.int i2]))) rfl ?_
  refine gg_br (b := decide (¬ i2 = 0)) (tg := 44) (off := 29) aMi206 rfl rfl rfl rfl (fun hb => ?_) (fun hb => ?_)
  · rw [if_pos (of_decide_eq_true hb)] at h
    refine go_le (lv1 := [(0, .ref a0), (1, .int i1), (2, .int i2), (3, .int ((5 : Int32) * i1)), (4, .int x11_2)]) (aLe_of (show (List.map (fun q => q.1) ([(0, .ref a0), (1, .int i1), (2, .int i2), (3, .int ((5 : Int32) * i1)), (4, .int x11_2)] : ALv)).Nodup from (by show ([0, 1, 2, 3, 4] : List Nat).Nodup; decide)) (aSubL_cons rfl (aSubL_cons rfl (aSubL_cons rfl (aSubL_cons rfl (aSubL_cons rfl aSubL_nil)))))) ?_
    exact Tf206_b44 hd a0 i1 i2 ((5 : Int32) * i1) x11_2 I _ h
  · rw [if_neg (of_decide_eq_false hb)] at h
    refine go_ops aMi206 1 _ (f1 := (19, ([(4, .int x11_2), (3, .int ((5 : Int32) * i1)), (0, .ref a0), (1, .int i1), (2, .int i2)], [.ref a0]))) rfl ?_
    obtain ⟨b19_3, hxb19_3, h⟩ := Option.bind_eq_some_iff.mp h
    refine gg_gR aMi206 rfl rfl rfl hxb19_3 ?_
    refine go_ops aMi206 1 _ (f1 := (24, ([(4, .int x11_2), (3, .int ((5 : Int32) * i1)), (0, .ref a0), (1, .int i1), (2, .int i2)], [.int x11_2, .ref b19_3]))) rfl ?_
    obtain ⟨x24_4, hxx24_4, h⟩ := Option.bind_eq_some_iff.mp h
    refine gg_lI (Or.inl ⟨rfl, rfl⟩) aMi206 rfl hxx24_4 ?_
    refine go_ops aMi206 1 _ (f1 := (26, ([(4, .int x11_2), (3, .int ((5 : Int32) * i1)), (0, .ref a0), (1, .int i1), (2, .int i2)], [.int (Int32.ofInt (-1)), .int x24_4]))) rfl ?_
    refine gg_br (b := decide (x24_4 = (Int32.ofInt (-1)))) (tg := 38) (off := 12) aMi206 rfl rfl rfl rfl (fun hb => ?_) (fun hb => ?_)
    · rw [if_pos (of_decide_eq_true hb)] at h
      refine go_le (lv1 := [(1, .int i1)]) (aLe_of (show (List.map (fun q => q.1) ([(1, .int i1)] : ALv)).Nodup from (by show ([1] : List Nat).Nodup; decide)) (aSubL_cons rfl aSubL_nil)) ?_
      exact Tf206_b38 hd i1 I _ h
    · rw [if_neg (of_decide_eq_false hb)] at h
      refine go_ops aMi206 2 _ (f1 := (32, ([(4, .int x11_2), (3, .int ((5 : Int32) * i1)), (0, .ref a0), (1, .int i1), (2, .int i2)], [.int x11_2, .ref a0]))) rfl ?_
      obtain ⟨u32_5, hxu32_5, h⟩ := Option.bind_eq_some_iff.mp h
      obtain ⟨r32_6, hxr32_6, h⟩ := Option.bind_eq_some_iff.mp h
      refine gg_cv (as := [.int x11_2]) (r := []) aMi206 rfl rfl rfl aMi204 (Nat.le_of_ble_eq_true rfl) rfl (Nat.le_of_ble_eq_true rfl) (Nat.le_of_ble_eq_true rfl) (by omega) hxu32_5 (Tf204 (by omega) a0 x11_2 I _ hxr32_6) ?_
      show aGo kad d 206 (35, ([(4, .int x11_2), (3, .int ((5 : Int32) * i1)), (0, .ref a0), (1, .int i1), (2, .int i2)], [.int r32_6.1])) (aMem Z r32_6.2, t) _
      refine gg_br (b := decide (r32_6.1 = 0)) (tg := 44) (off := 9) aMi206 rfl rfl rfl rfl (fun hb => ?_) (fun hb => ?_)
      · rw [if_pos (of_decide_eq_true hb)] at h
        refine go_le (lv1 := [(0, .ref a0), (1, .int i1), (2, .int i2), (3, .int ((5 : Int32) * i1)), (4, .int x11_2)]) (aLe_of (show (List.map (fun q => q.1) ([(0, .ref a0), (1, .int i1), (2, .int i2), (3, .int ((5 : Int32) * i1)), (4, .int x11_2)] : ALv)).Nodup from (by show ([0, 1, 2, 3, 4] : List Nat).Nodup; decide)) (aSubL_cons rfl (aSubL_cons rfl (aSubL_cons rfl (aSubL_cons rfl (aSubL_cons rfl aSubL_nil)))))) ?_
        exact Tf206_b44 hd a0 i1 i2 ((5 : Int32) * i1) x11_2 r32_6.2 _ h
      · rw [if_neg (of_decide_eq_false hb)] at h
        refine go_le (lv1 := [(1, .int i1)]) (aLe_of (show (List.map (fun q => q.1) ([(1, .int i1)] : ALv)).Nodup from (by show ([1] : List Nat).Nodup; decide)) (aSubL_cons rfl aSubL_nil)) ?_
        exact Tf206_b38 hd i1 r32_6.2 _ h
