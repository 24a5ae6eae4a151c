-- KernelGymModel.entry (I)I
def f235 (kad : Nat → Nat) (N : Nat) (Z : AZ) (i0 : Int32) (I : AI) : Option (Int32 × AI) :=
  some (((40 : Int32) + ((4 : Int32) * i0)), I)
set_option maxRecDepth 20000 in
theorem Tf235 {kad : Nat → Nat} {N : Nat} {Z : AZ} {d : Nat} {t : Option Nat × (Nat × Nat)} (hd : 0 ≤ d) : ∀ (i0 : Int32) (I : AI) (r : Int32 × AI), f235 kad N Z i0 I = some r → aGo kad d 235 (0, ([(0, .int i0)], [])) (aMem Z I, t) (qI Z t r) := by
  intro i0 I r h
  unfold f235 at h
  refine go_ops aMi235 5 _ (f1 := (6, ([(0, .int i0)], [.int ((40 : Int32) + ((4 : Int32) * i0))]))) rfl ?_
  cases h
  exact go_ret aMi235 rfl aRetI ⟨rfl, rfl⟩
-- KernelGymModel.find ([II)I
def f236_b2 (kad : Nat → Nat) (N : Nat) (Z : AZ) : Nat → Nat → Int32 → Int32 → AI → Option (Int32 × AI)
  | 0, _, _, _, _ => none
  | F + 1, b0, i1, i2, I =>
    if (6 : Int32) ≤ i2 then
      some ((Int32.ofInt (-1)), I)
    else
      (f235 kad N Z i2 I).bind fun r10_1 =>
      (lI Z r10_1.2 100 b0 r10_1.1).bind fun x13_2 =>
      if ¬ x13_2 = i1 then
        f236_b2 kad N Z F b0 i1 (i2 + (1 : Int32)) r10_1.2
      else
        some (i2, r10_1.2)
set_option maxRecDepth 20000 in
theorem Tf236_b2 {kad : Nat → Nat} {N : Nat} {Z : AZ} {d : Nat} {t : Option Nat × (Nat × Nat)} (hd : 1 ≤ d) : ∀ (F : Nat) (b0 : Nat) (i1 : Int32) (i2 : Int32) (I : AI) (r : Int32 × AI), f236_b2 kad N Z F b0 i1 i2 I = some r → aGo kad d 236 (2, ([(0, .ref b0), (1, .int i1), (2, .int i2)], [])) (aMem Z I, t) (qI Z t r) := by
  intro F
  induction F with
  | zero => intro b0 i1 i2 I r h; cases h
  | succ F ih =>
    intro b0 i1 i2 I r h
    unfold f236_b2 at h
    refine go_ops aMi236 2 _ (f1 := (5, ([(0, .ref b0), (1, .int i1), (2, .int i2)], [.int (6 : Int32), .int i2]))) rfl ?_
    refine gg_br (b := decide ((6 : Int32) ≤ i2)) (tg := 26) (off := 21) aMi236 rfl rfl rfl rfl (fun hb => ?_) (fun hb => ?_)
    · rw [if_pos (of_decide_eq_true hb)] at h
      refine go_ops aMi236 1 _ (f1 := (27, ([(0, .ref b0), (1, .int i1), (2, .int i2)], [.int (Int32.ofInt (-1))]))) rfl ?_
      cases h
      exact go_ret aMi236 rfl aRetI ⟨rfl, rfl⟩
    · rw [if_neg (of_decide_eq_false hb)] at h
      refine go_ops aMi236 2 _ (f1 := (10, ([(0, .ref b0), (1, .int i1), (2, .int i2)], [.int i2, .ref b0]))) rfl ?_
      obtain ⟨r10_1, hxr10_1, h⟩ := Option.bind_eq_some_iff.mp h
      refine gg_cs (as := [.int i2]) (r := [.ref b0]) aMi236 rfl rfl rfl aMi235 rfl (Nat.le_of_ble_eq_true rfl) (Nat.le_of_ble_eq_true rfl) (by omega) (Tf235 (by omega) i2 I _ hxr10_1) ?_
      show aGo kad d 236 (13, ([(0, .ref b0), (1, .int i1), (2, .int i2)], [.int r10_1.1, .ref b0])) (aMem Z r10_1.2, t) _
      obtain ⟨x13_2, hxx13_2, h⟩ := Option.bind_eq_some_iff.mp h
      refine gg_lI (Or.inl ⟨rfl, rfl⟩) aMi236 rfl hxx13_2 ?_
      refine go_ops aMi236 1 _ (f1 := (15, ([(0, .ref b0), (1, .int i1), (2, .int i2)], [.int i1, .int x13_2]))) rfl ?_
      refine gg_br (b := decide (¬ x13_2 = i1)) (tg := 20) (off := 5) aMi236 rfl rfl rfl rfl (fun hb => ?_) (fun hb => ?_)
      · rw [if_pos (of_decide_eq_true hb)] at h
        refine go_ops aMi236 2 _ (f1 := (2, ([(2, .int (i2 + (1 : Int32))), (0, .ref b0), (1, .int i1)], []))) rfl ?_
        refine go_le (lv1 := [(0, .ref b0), (1, .int i1), (2, .int (i2 + (1 : Int32)))]) (aLe_of (show (List.map (fun q => q.1) ([(0, .ref b0), (1, .int i1), (2, .int (i2 + (1 : Int32)))] : ALv)).Nodup from (by show ([0, 1, 2] : List Nat).Nodup; decide)) (aSubL_cons rfl (aSubL_cons rfl (aSubL_cons rfl aSubL_nil)))) ?_
        exact ih b0 i1 (i2 + (1 : Int32)) r10_1.2 _ h
      · rw [if_neg (of_decide_eq_false hb)] at h
        refine go_ops aMi236 1 _ (f1 := (19, ([(0, .ref b0), (1, .int i1), (2, .int i2)], [.int i2]))) rfl ?_
        cases h
        exact go_ret aMi236 rfl aRetI ⟨rfl, rfl⟩
def f236 (kad : Nat → Nat) (N : Nat) (Z : AZ) (b0 : Nat) (i1 : Int32) (I : AI) : Option (Int32 × AI) :=
  f236_b2 kad N Z N b0 i1 (0 : Int32) I
set_option maxRecDepth 20000 in
theorem Tf236 {kad : Nat → Nat} {N : Nat} {Z : AZ} {d : Nat} {t : Option Nat × (Nat × Nat)} (hd : 1 ≤ d) : ∀ (b0 : Nat) (i1 : Int32) (I : AI) (r : Int32 × AI), f236 kad N Z b0 i1 I = some r → aGo kad d 236 (0, ([(0, .ref b0), (1, .int i1)], [])) (aMem Z I, t) (qI Z t r) := by
  intro b0 i1 I r h
  unfold f236 at h
  refine go_ops aMi236 2 _ (f1 := (2, ([(2, .int (0 : Int32)), (0, .ref b0), (1, .int i1)], []))) rfl ?_
  refine go_le (lv1 := [(0, .ref b0), (1, .int i1), (2, .int (0 : Int32))]) (aLe_of (show (List.map (fun q => q.1) ([(0, .ref b0), (1, .int i1), (2, .int (0 : Int32))] : ALv)).Nodup from (by show ([0, 1, 2] : List Nat).Nodup; decide)) (aSubL_cons rfl (aSubL_cons rfl (aSubL_cons rfl aSubL_nil)))) ?_
  exact Tf236_b2 hd N b0 i1 (0 : Int32) I _ h
-- KernelGymModel.isUsed ([II)Z
def f237_b25 (kad : Nat → Nat) (N : Nat) (Z : AZ) (s0 : Int32) (I : AI) : Option (Int32 × AI) :=
  if s0 = 0 ∨ s0 = 1 then some (s0, I) else none
set_option maxRecDepth 20000 in
theorem Tf237_b25 {kad : Nat → Nat} {N : Nat} {Z : AZ} {d : Nat} {t : Option Nat × (Nat × Nat)} (hd : 0 ≤ d) : ∀ (s0 : Int32) (I : AI) (r : Int32 × AI), f237_b25 kad N Z s0 I = some r → aGo kad d 237 (25, ([], [.int s0])) (aMem Z I, t) (qI Z t r) := by
  intro s0 I r h
  unfold f237_b25 at h
  split at h
  · rename_i hz
    cases h
    exact go_ret aMi237 rfl (aRetZ hz) ⟨rfl, rfl⟩
  · cases h
def f237 (kad : Nat → Nat) (N : Nat) (Z : AZ) (b0 : Nat) (i1 : Int32) (I : AI) : Option (Int32 × AI) :=
  (lI Z I 100 b0 ((32 : Int32) + (i1 / (16 : Int32)))).bind fun x8_1 =>
  if ¬ ((x8_1 >>> ((i1 - i1 / (16 : Int32) * (16 : Int32)) &&& 31)) &&& (1 : Int32)) = (1 : Int32) then
    f237_b25 kad N Z (0 : Int32) I
  else
    f237_b25 kad N Z (1 : Int32) I
set_option maxRecDepth 20000 in
theorem Tf237 {kad : Nat → Nat} {N : Nat} {Z : AZ} {d : Nat} {t : Option Nat × (Nat × Nat)} (hd : 0 ≤ d) : ∀ (b0 : Nat) (i1 : Int32) (I : AI) (r : Int32 × AI), f237 kad N Z b0 i1 I = some r → aGo kad d 237 (0, ([(0, .ref b0), (1, .int i1)], [])) (aMem Z I, t) (qI Z t r) := by
  intro b0 i1 I r h
  unfold f237 at h
  refine go_ops aMi237 6 _ (f1 := (8, ([(0, .ref b0), (1, .int i1)], [.int ((32 : Int32) + (i1 / (16 : Int32))), .ref b0]))) rfl ?_
  obtain ⟨x8_1, hxx8_1, h⟩ := Option.bind_eq_some_iff.mp h
  refine gg_lI (Or.inl ⟨rfl, rfl⟩) aMi237 rfl hxx8_1 ?_
  refine go_ops aMi237 7 _ (f1 := (17, ([(0, .ref b0), (1, .int i1)], [.int (1 : Int32), .int ((x8_1 >>> ((i1 - i1 / (16 : Int32) * (16 : Int32)) &&& 31)) &&& (1 : Int32))]))) rfl ?_
  refine gg_br (b := decide (¬ ((x8_1 >>> ((i1 - i1 / (16 : Int32) * (16 : Int32)) &&& 31)) &&& (1 : Int32)) = (1 : Int32))) (tg := 24) (off := 7) aMi237 rfl rfl rfl rfl (fun hb => ?_) (fun hb => ?_)
  · rw [if_pos (of_decide_eq_true hb)] at h
    refine go_ops aMi237 1 _ (f1 := (25, ([(0, .ref b0), (1, .int i1)], [.int (0 : Int32)]))) rfl ?_
    refine go_le (lv1 := []) (aLe_of (show (List.map (fun q => q.1) ([] : ALv)).Nodup from (by show ([] : List Nat).Nodup; decide)) aSubL_nil) ?_
    exact Tf237_b25 hd (0 : Int32) I _ h
  · rw [if_neg (of_decide_eq_false hb)] at h
    refine go_ops aMi237 2 _ (f1 := (25, ([(0, .ref b0), (1, .int i1)], [.int (1 : Int32)]))) rfl ?_
    refine go_le (lv1 := []) (aLe_of (show (List.map (fun q => q.1) ([] : ALv)).Nodup from (by show ([] : List Nat).Nodup; decide)) aSubL_nil) ?_
    exact Tf237_b25 hd (1 : Int32) I _ h
-- KernelGymModel.freeBlock ()I
def f239_b3 (kad : Nat → Nat) (N : Nat) (Z : AZ) : Nat → Nat → Int32 → AI → Option (Int32 × AI)
  | 0, _, _, _ => none
  | F + 1, a0, i1, I =>
    if (32 : Int32) ≤ i1 then
      some ((Int32.ofInt (-1)), I)
    else
      (f237 kad N Z (a0 + 24) i1 I).bind fun r14_1 =>
      if ¬ r14_1.1 = 0 then
        f239_b3 kad N Z F a0 (i1 + (1 : Int32)) r14_1.2
      else
        some (i1, r14_1.2)
set_option maxRecDepth 20000 in
theorem Tf239_b3 {kad : Nat → Nat} {N : Nat} {Z : AZ} {d : Nat} {t : Option Nat × (Nat × Nat)} (hd : 1 ≤ d) : ∀ (F : Nat) (a0 : Nat) (ha0 : sh11 kad Z a0) (i1 : Int32) (I : AI) (r : Int32 × AI), f239_b3 kad N Z F a0 i1 I = some r → aGo kad d 239 (3, ([(0, .ref a0), (1, .int i1)], [])) (aMem Z I, t) (qI Z t r) := by
  intro F
  induction F with
  | zero => intro a0 ha0 i1 I r h; cases h
  | succ F ih =>
    intro a0 ha0 i1 I r h
    unfold f239_b3 at h
    refine go_ops aMi239 2 _ (f1 := (6, ([(0, .ref a0), (1, .int i1)], [.int (32 : Int32), .int i1]))) rfl ?_
    refine gg_br (b := decide ((32 : Int32) ≤ i1)) (tg := 28) (off := 22) aMi239 rfl rfl rfl rfl (fun hb => ?_) (fun hb => ?_)
    · rw [if_pos (of_decide_eq_true hb)] at h
      refine go_ops aMi239 1 _ (f1 := (29, ([(0, .ref a0), (1, .int i1)], [.int (Int32.ofInt (-1))]))) rfl ?_
      cases h
      exact go_ret aMi239 rfl aRetI ⟨rfl, rfl⟩
    · rw [if_neg (of_decide_eq_false hb)] at h
      refine go_ops aMi239 1 _ (f1 := (10, ([(0, .ref a0), (1, .int i1)], [.ref a0]))) rfl ?_
      refine gg_gR (b := (a0 + 24)) aMi239 rfl rfl rfl (gR_of (sh11_z ha0) (sh11_r50 ha0)) ?_
      refine go_ops aMi239 1 _ (f1 := (14, ([(0, .ref a0), (1, .int i1)], [.int i1, .ref (a0 + 24)]))) rfl ?_
      obtain ⟨r14_1, hxr14_1, h⟩ := Option.bind_eq_some_iff.mp h
      refine gg_cs (as := [.ref (a0 + 24), .int i1]) (r := []) aMi239 rfl rfl rfl aMi237 rfl (Nat.le_of_ble_eq_true rfl) (Nat.le_of_ble_eq_true rfl) (by omega) (Tf237 (by omega) (a0 + 24) i1 I _ hxr14_1) ?_
      show aGo kad d 239 (17, ([(0, .ref a0), (1, .int i1)], [.int r14_1.1])) (aMem Z r14_1.2, t) _
      refine gg_br (b := decide (¬ r14_1.1 = 0)) (tg := 22) (off := 5) aMi239 rfl rfl rfl rfl (fun hb => ?_) (fun hb => ?_)
      · rw [if_pos (of_decide_eq_true hb)] at h
        refine go_ops aMi239 2 _ (f1 := (3, ([(1, .int (i1 + (1 : Int32))), (0, .ref a0)], []))) rfl ?_
        refine go_le (lv1 := [(0, .ref a0), (1, .int (i1 + (1 : Int32)))]) (aLe_of (show (List.map (fun q => q.1) ([(0, .ref a0), (1, .int (i1 + (1 : Int32)))] : ALv)).Nodup from (by show ([0, 1] : List Nat).Nodup; decide)) (aSubL_cons rfl (aSubL_cons rfl aSubL_nil))) ?_
        exact ih a0 ha0 (i1 + (1 : Int32)) r14_1.2 _ h
      · rw [if_neg (of_decide_eq_false hb)] at h
        refine go_ops aMi239 1 _ (f1 := (21, ([(0, .ref a0), (1, .int i1)], [.int i1]))) rfl ?_
        cases h
        exact go_ret aMi239 rfl aRetI ⟨rfl, rfl⟩
def f239 (kad : Nat → Nat) (N : Nat) (Z : AZ) (a0 : Nat) (I : AI) : Option (Int32 × AI) :=
  f239_b3 kad N Z N a0 (8 : Int32) I
set_option maxRecDepth 20000 in
theorem Tf239 {kad : Nat → Nat} {N : Nat} {Z : AZ} {d : Nat} {t : Option Nat × (Nat × Nat)} (hd : 1 ≤ d) : ∀ (a0 : Nat) (ha0 : sh11 kad Z a0) (I : AI) (r : Int32 × AI), f239 kad N Z a0 I = some r → aGo kad d 239 (0, ([(0, .ref a0)], [])) (aMem Z I, t) (qI Z t r) := by
  intro a0 ha0 I r h
  unfold f239 at h
  refine go_ops aMi239 2 _ (f1 := (3, ([(1, .int (8 : Int32)), (0, .ref a0)], []))) rfl ?_
  refine go_le (lv1 := [(0, .ref a0), (1, .int (8 : Int32))]) (aLe_of (show (List.map (fun q => q.1) ([(0, .ref a0), (1, .int (8 : Int32))] : ALv)).Nodup from (by show ([0, 1] : List Nat).Nodup; decide)) (aSubL_cons rfl (aSubL_cons rfl aSubL_nil))) ?_
  exact Tf239_b3 hd N a0 ha0 (8 : Int32) I _ h
-- KernelGymModel.resultOf (II)I
def f240_b59 (kad : Nat → Nat) (N : Nat) (Z : AZ) (a0 : Nat) (s0 : Int32) (I : AI) : Option (Int32 × AI) :=
  some (s0, I)
set_option maxRecDepth 20000 in
theorem Tf240_b59 {kad : Nat → Nat} {N : Nat} {Z : AZ} {d : Nat} {t : Option Nat × (Nat × Nat)} (hd : 2 ≤ d) : ∀ (a0 : Nat) (ha0 : sh11 kad Z a0) (s0 : Int32) (I : AI) (r : Int32 × AI), f240_b59 kad N Z a0 s0 I = some r → aGo kad d 240 (59, ([], [.int s0])) (aMem Z I, t) (qI Z t r) := by
  intro a0 ha0 s0 I r h
  unfold f240_b59 at h
  cases h
  exact go_ret aMi240 rfl aRetI ⟨rfl, rfl⟩
def f240_b38 (kad : Nat → Nat) (N : Nat) (Z : AZ) (a0 : Nat) (I : AI) : Option (Int32 × AI) :=
  f240_b59 kad N Z a0 (1 : Int32) I
set_option maxRecDepth 20000 in
theorem Tf240_b38 {kad : Nat → Nat} {N : Nat} {Z : AZ} {d : Nat} {t : Option Nat × (Nat × Nat)} (hd : 2 ≤ d) : ∀ (a0 : Nat) (ha0 : sh11 kad Z a0) (I : AI) (r : Int32 × AI), f240_b38 kad N Z a0 I = some r → aGo kad d 240 (38, ([], [])) (aMem Z I, t) (qI Z t r) := by
  intro a0 ha0 I r h
  unfold f240_b38 at h
  refine go_ops aMi240 2 _ (f1 := (59, ([], [.int (1 : Int32)]))) rfl ?_
  exact Tf240_b59 hd a0 ha0 (1 : Int32) I _ h
def f240_b88 (kad : Nat → Nat) (N : Nat) (Z : AZ) (a0 : Nat) (I : AI) : Option (Int32 × AI) :=
  some ((1 : Int32), I)
set_option maxRecDepth 20000 in
theorem Tf240_b88 {kad : Nat → Nat} {N : Nat} {Z : AZ} {d : Nat} {t : Option Nat × (Nat × Nat)} (hd : 2 ≤ d) : ∀ (a0 : Nat) (ha0 : sh11 kad Z a0) (I : AI) (r : Int32 × AI), f240_b88 kad N Z a0 I = some r → aGo kad d 240 (88, ([], [])) (aMem Z I, t) (qI Z t r) := by
  intro a0 ha0 I r h
  unfold f240_b88 at h
  refine go_ops aMi240 1 _ (f1 := (89, ([], [.int (1 : Int32)]))) rfl ?_
  cases h
  exact go_ret aMi240 rfl aRetI ⟨rfl, rfl⟩
def f240_b140 (kad : Nat → Nat) (N : Nat) (Z : AZ) (a0 : Nat) (s0 : Int32) (I : AI) : Option (Int32 × AI) :=
  some (s0, I)
set_option maxRecDepth 20000 in
theorem Tf240_b140 {kad : Nat → Nat} {N : Nat} {Z : AZ} {d : Nat} {t : Option Nat × (Nat × Nat)} (hd : 2 ≤ d) : ∀ (a0 : Nat) (ha0 : sh11 kad Z a0) (s0 : Int32) (I : AI) (r : Int32 × AI), f240_b140 kad N Z a0 s0 I = some r → aGo kad d 240 (140, ([], [.int s0])) (aMem Z I, t) (qI Z t r) := by
  intro a0 ha0 s0 I r h
  unfold f240_b140 at h
  cases h
  exact go_ret aMi240 rfl aRetI ⟨rfl, rfl⟩
def f240_b139 (kad : Nat → Nat) (N : Nat) (Z : AZ) (a0 : Nat) (I : AI) : Option (Int32 × AI) :=
  f240_b140 kad N Z a0 (0 : Int32) I
set_option maxRecDepth 20000 in
theorem Tf240_b139 {kad : Nat → Nat} {N : Nat} {Z : AZ} {d : Nat} {t : Option Nat × (Nat × Nat)} (hd : 2 ≤ d) : ∀ (a0 : Nat) (ha0 : sh11 kad Z a0) (I : AI) (r : Int32 × AI), f240_b139 kad N Z a0 I = some r → aGo kad d 240 (139, ([], [])) (aMem Z I, t) (qI Z t r) := by
  intro a0 ha0 I r h
  unfold f240_b139 at h
  refine go_ops aMi240 1 _ (f1 := (140, ([], [.int (0 : Int32)]))) rfl ?_
  exact Tf240_b140 hd a0 ha0 (0 : Int32) I _ h
def f240_b167 (kad : Nat → Nat) (N : Nat) (Z : AZ) (a0 : Nat) (s0 : Int32) (I : AI) : Option (Int32 × AI) :=
  some (s0, I)
set_option maxRecDepth 20000 in
theorem Tf240_b167 {kad : Nat → Nat} {N : Nat} {Z : AZ} {d : Nat} {t : Option Nat × (Nat × Nat)} (hd : 2 ≤ d) : ∀ (a0 : Nat) (ha0 : sh11 kad Z a0) (s0 : Int32) (I : AI) (r : Int32 × AI), f240_b167 kad N Z a0 s0 I = some r → aGo kad d 240 (167, ([], [.int s0])) (aMem Z I, t) (qI Z t r) := by
  intro a0 ha0 s0 I r h
  unfold f240_b167 at h
  cases h
  exact go_ret aMi240 rfl aRetI ⟨rfl, rfl⟩
def f240_b166 (kad : Nat → Nat) (N : Nat) (Z : AZ) (a0 : Nat) (I : AI) : Option (Int32 × AI) :=
  f240_b167 kad N Z a0 (0 : Int32) I
set_option maxRecDepth 20000 in
theorem Tf240_b166 {kad : Nat → Nat} {N : Nat} {Z : AZ} {d : Nat} {t : Option Nat × (Nat × Nat)} (hd : 2 ≤ d) : ∀ (a0 : Nat) (ha0 : sh11 kad Z a0) (I : AI) (r : Int32 × AI), f240_b166 kad N Z a0 I = some r → aGo kad d 240 (166, ([], [])) (aMem Z I, t) (qI Z t r) := by
  intro a0 ha0 I r h
  unfold f240_b166 at h
  refine go_ops aMi240 1 _ (f1 := (167, ([], [.int (0 : Int32)]))) rfl ?_
  exact Tf240_b167 hd a0 ha0 (0 : Int32) I _ h
def f240_b151 (kad : Nat → Nat) (N : Nat) (Z : AZ) (a0 : Nat) (i4 : Int32) (I : AI) : Option (Int32 × AI) :=
  (ixA 4 (1 : Int32)).bind fun j156_1 =>
  if (I (a0 + 16) j156_1) < i4 then
    f240_b166 kad N Z a0 I
  else
    f240_b167 kad N Z a0 (2 : Int32) I
set_option maxRecDepth 20000 in
theorem Tf240_b151 {kad : Nat → Nat} {N : Nat} {Z : AZ} {d : Nat} {t : Option Nat × (Nat × Nat)} (hd : 2 ≤ d) : ∀ (a0 : Nat) (ha0 : sh11 kad Z a0) (i4 : Int32) (I : AI) (r : Int32 × AI), f240_b151 kad N Z a0 i4 I = some r → aGo kad d 240 (151, ([(0, .ref a0), (4, .int i4)], [])) (aMem Z I, t) (qI Z t r) := by
  intro a0 ha0 i4 I r h
  unfold f240_b151 at h
  refine go_ops aMi240 1 _ (f1 := (152, ([(0, .ref a0), (4, .int i4)], [.ref a0]))) rfl ?_
  refine gg_gR (b := (a0 + 16)) aMi240 rfl rfl rfl (gR_of (sh11_z ha0) (sh11_r26 ha0)) ?_
  refine go_ops aMi240 1 _ (f1 := (156, ([(0, .ref a0), (4, .int i4)], [.int (1 : Int32), .ref (a0 + 16)]))) rfl ?_
  obtain ⟨j156_1, hxj156_1, h⟩ := Option.bind_eq_some_iff.mp h
  refine gg_lI (Or.inl ⟨rfl, rfl⟩) aMi240 rfl (lI_of (sh11_a26 ha0) hxj156_1) ?_
  refine go_ops aMi240 1 _ (f1 := (159, ([(0, .ref a0), (4, .int i4)], [.int i4, .int (I (a0 + 16) j156_1)]))) rfl ?_
  refine gg_br (b := decide ((I (a0 + 16) j156_1) < i4)) (tg := 166) (off := 7) aMi240 rfl rfl rfl rfl (fun hb => ?_) (fun hb => ?_)
  · rw [if_pos (of_decide_eq_true hb)] at h
    refine go_le (lv1 := []) (aLe_of (show (List.map (fun q => q.1) ([] : ALv)).Nodup from (by show ([] : List Nat).Nodup; decide)) aSubL_nil) ?_
    exact Tf240_b166 hd a0 ha0 I _ h
  · rw [if_neg (of_decide_eq_false hb)] at h
    refine go_ops aMi240 2 _ (f1 := (167, ([(0, .ref a0), (4, .int i4)], [.int (2 : Int32)]))) rfl ?_
    refine go_le (lv1 := []) (aLe_of (show (List.map (fun q => q.1) ([] : ALv)).Nodup from (by show ([] : List Nat).Nodup; decide)) aSubL_nil) ?_
    exact Tf240_b167 hd a0 ha0 (2 : Int32) I _ h
def f240_b90 (kad : Nat → Nat) (N : Nat) (Z : AZ) (a0 : Nat) (i1 : Int32) (i2 : Int32) (I : AI) : Option (Int32 × AI) :=
  (f235 kad N Z i2 I).bind fun r95_1 =>
  (ixA 256 (r95_1.1 + (1 : Int32))).bind fun j100_2 =>
  if ¬ i1 = (1 : Int32) then
    if i1 = (2 : Int32) then
      f240_b151 kad N Z a0 (r95_1.2 (a0 + 24) j100_2) r95_1.2
    else
      if ¬ i1 = (3 : Int32) then
        f240_b166 kad N Z a0 r95_1.2
      else
        f240_b151 kad N Z a0 (r95_1.2 (a0 + 24) j100_2) r95_1.2
  else
    if ¬ (r95_1.2 (a0 + 24) j100_2) = (16 : Int32) then
      if ¬ ((r95_1.2 (a0 + 24) j100_2) - (r95_1.2 (a0 + 24) j100_2) / (8 : Int32) * (8 : Int32)) = 0 then
        f240_b139 kad N Z a0 r95_1.2
      else
        (f239 kad N Z a0 r95_1.2).bind fun r128_3 =>
        if ¬ r128_3.1 = (Int32.ofInt (-1)) then
          f240_b139 kad N Z a0 r128_3.2
        else
          f240_b140 kad N Z a0 (3 : Int32) r128_3.2
    else
      f240_b140 kad N Z a0 (2 : Int32) r95_1.2
set_option maxRecDepth 20000 in
theorem Tf240_b90 {kad : Nat → Nat} {N : Nat} {Z : AZ} {d : Nat} {t : Option Nat × (Nat × Nat)} (hd : 2 ≤ d) : ∀ (a0 : Nat) (ha0 : sh11 kad Z a0) (i1 : Int32) (i2 : Int32) (I : AI) (r : Int32 × AI), f240_b90 kad N Z a0 i1 i2 I = some r → aGo kad d 240 (90, ([(0, .ref a0), (1, .int i1), (2, .int i2)], [])) (aMem Z I, t) (qI Z t r) := by
  intro a0 ha0 i1 i2 I r h
  unfold f240_b90 at h
  refine go_ops aMi240 1 _ (f1 := (91, ([(0, .ref a0), (1, .int i1), (2, .int i2)], [.ref a0]))) rfl ?_
  refine gg_gR (b := (a0 + 24)) aMi240 rfl rfl rfl (gR_of (sh11_z ha0) (sh11_r50 ha0)) ?_
  refine go_ops aMi240 1 _ (f1 := (95, ([(0, .ref a0), (1, .int i1), (2, .int i2)], [.int i2, .ref (a0 + 24)]))) rfl ?_
  obtain ⟨r95_1, hxr95_1, h⟩ := Option.bind_eq_some_iff.mp h
  refine gg_cs (as := [.int i2]) (r := [.ref (a0 + 24)]) aMi240 rfl rfl rfl aMi235 rfl (Nat.le_of_ble_eq_true rfl) (Nat.le_of_ble_eq_true rfl) (by omega) (Tf235 (by omega) i2 I _ hxr95_1) ?_
  show aGo kad d 240 (98, ([(0, .ref a0), (1, .int i1), (2, .int i2)], [.int r95_1.1, .ref (a0 + 24)])) (aMem Z r95_1.2, t) _
  refine go_ops aMi240 2 _ (f1 := (100, ([(0, .ref a0), (1, .int i1), (2, .int i2)], [.int (r95_1.1 + (1 : Int32)), .ref (a0 + 24)]))) rfl ?_
  obtain ⟨j100_2, hxj100_2, h⟩ := Option.bind_eq_some_iff.mp h
  refine gg_lI (Or.inl ⟨rfl, rfl⟩) aMi240 rfl (lI_of (sh11_a50 ha0) hxj100_2) ?_
  refine go_ops aMi240 3 _ (f1 := (105, ([(4, .int (r95_1.2 (a0 + 24) j100_2)), (0, .ref a0), (1, .int i1), (2, .int i2)], [.int (1 : Int32), .int i1]))) rfl ?_
  refine gg_br (b := decide (¬ i1 = (1 : Int32))) (tg := 141) (off := 36) aMi240 rfl rfl rfl rfl (fun hb => ?_) (fun hb => ?_)
  · rw [if_pos (of_decide_eq_true hb)] at h
    refine go_ops aMi240 2 _ (f1 := (143, ([(4, .int (r95_1.2 (a0 + 24) j100_2)), (0, .ref a0), (1, .int i1), (2, .int i2)], [.int (2 : Int32), .int i1]))) rfl ?_
    refine gg_br (b := decide (i1 = (2 : Int32))) (tg := 151) (off := 8) aMi240 rfl rfl rfl rfl (fun hb => ?_) (fun hb => ?_)
    · rw [if_pos (of_decide_eq_true hb)] at h
      refine go_le (lv1 := [(0, .ref a0), (4, .int (r95_1.2 (a0 + 24) j100_2))]) (aLe_of (show (List.map (fun q => q.1) ([(0, .ref a0), (4, .int (r95_1.2 (a0 + 24) j100_2))] : ALv)).Nodup from (by show ([0, 4] : List Nat).Nodup; decide)) (aSubL_cons rfl (aSubL_cons rfl aSubL_nil))) ?_
      exact Tf240_b151 hd a0 ha0 (r95_1.2 (a0 + 24) j100_2) r95_1.2 _ h
    · rw [if_neg (of_decide_eq_false hb)] at h
      refine go_ops aMi240 2 _ (f1 := (148, ([(4, .int (r95_1.2 (a0 + 24) j100_2)), (0, .ref a0), (1, .int i1), (2, .int i2)], [.int (3 : Int32), .int i1]))) rfl ?_
      refine gg_br (b := decide (¬ i1 = (3 : Int32))) (tg := 166) (off := 18) aMi240 rfl rfl rfl rfl (fun hb => ?_) (fun hb => ?_)
      · rw [if_pos (of_decide_eq_true hb)] at h
        refine go_le (lv1 := []) (aLe_of (show (List.map (fun q => q.1) ([] : ALv)).Nodup from (by show ([] : List Nat).Nodup; decide)) aSubL_nil) ?_
        exact Tf240_b166 hd a0 ha0 r95_1.2 _ h
      · rw [if_neg (of_decide_eq_false hb)] at h
        refine go_le (lv1 := [(0, .ref a0), (4, .int (r95_1.2 (a0 + 24) j100_2))]) (aLe_of (show (List.map (fun q => q.1) ([(0, .ref a0), (4, .int (r95_1.2 (a0 + 24) j100_2))] : ALv)).Nodup from (by show ([0, 4] : List Nat).Nodup; decide)) (aSubL_cons rfl (aSubL_cons rfl aSubL_nil))) ?_
        exact Tf240_b151 hd a0 ha0 (r95_1.2 (a0 + 24) j100_2) r95_1.2 _ h
  · rw [if_neg (of_decide_eq_false hb)] at h
    refine go_ops aMi240 2 _ (f1 := (112, ([(4, .int (r95_1.2 (a0 + 24) j100_2)), (0, .ref a0), (1, .int i1), (2, .int i2)], [.int (16 : Int32), .int (r95_1.2 (a0 + 24) j100_2)]))) rfl ?_
    refine gg_br (b := decide (¬ (r95_1.2 (a0 + 24) j100_2) = (16 : Int32))) (tg := 119) (off := 7) aMi240 rfl rfl rfl rfl (fun hb => ?_) (fun hb => ?_)
    · rw [if_pos (of_decide_eq_true hb)] at h
      refine go_ops aMi240 3 _ (f1 := (124, ([(4, .int (r95_1.2 (a0 + 24) j100_2)), (0, .ref a0), (1, .int i1), (2, .int i2)], [.int ((r95_1.2 (a0 + 24) j100_2) - (r95_1.2 (a0 + 24) j100_2) / (8 : Int32) * (8 : Int32))]))) rfl ?_
      refine gg_br (b := decide (¬ ((r95_1.2 (a0 + 24) j100_2) - (r95_1.2 (a0 + 24) j100_2) / (8 : Int32) * (8 : Int32)) = 0)) (tg := 139) (off := 15) aMi240 rfl rfl rfl rfl (fun hb => ?_) (fun hb => ?_)
      · rw [if_pos (of_decide_eq_true hb)] at h
        refine go_le (lv1 := []) (aLe_of (show (List.map (fun q => q.1) ([] : ALv)).Nodup from (by show ([] : List Nat).Nodup; decide)) aSubL_nil) ?_
        exact Tf240_b139 hd a0 ha0 r95_1.2 _ h
      · rw [if_neg (of_decide_eq_false hb)] at h
        refine go_ops aMi240 1 _ (f1 := (128, ([(4, .int (r95_1.2 (a0 + 24) j100_2)), (0, .ref a0), (1, .int i1), (2, .int i2)], [.ref a0]))) rfl ?_
        obtain ⟨r128_3, hxr128_3, h⟩ := Option.bind_eq_some_iff.mp h
        refine gg_cv (as := []) (r := []) aMi240 rfl rfl rfl aMi239 (Nat.le_of_ble_eq_true rfl) rfl (Nat.le_of_ble_eq_true rfl) (Nat.le_of_ble_eq_true rfl) (by omega) (isK_of (sh11_z ha0)) (Tf239 (by omega) a0 ha0 r95_1.2 _ hxr128_3) ?_
        show aGo kad d 240 (131, ([(4, .int (r95_1.2 (a0 + 24) j100_2)), (0, .ref a0), (1, .int i1), (2, .int i2)], [.int r128_3.1])) (aMem Z r128_3.2, t) _
        refine go_ops aMi240 1 _ (f1 := (132, ([(4, .int (r95_1.2 (a0 + 24) j100_2)), (0, .ref a0), (1, .int i1), (2, .int i2)], [.int (Int32.ofInt (-1)), .int r128_3.1]))) rfl ?_
        refine gg_br (b := decide (¬ r128_3.1 = (Int32.ofInt (-1)))) (tg := 139) (off := 7) aMi240 rfl rfl rfl rfl (fun hb => ?_) (fun hb => ?_)
        · rw [if_pos (of_decide_eq_true hb)] at h
          refine go_le (lv1 := []) (aLe_of (show (List.map (fun q => q.1) ([] : ALv)).Nodup from (by show ([] : List Nat).Nodup; decide)) aSubL_nil) ?_
          exact Tf240_b139 hd a0 ha0 r128_3.2 _ h
        · rw [if_neg (of_decide_eq_false hb)] at h
          refine go_ops aMi240 2 _ (f1 := (140, ([(4, .int (r95_1.2 (a0 + 24) j100_2)), (0, .ref a0), (1, .int i1), (2, .int i2)], [.int (3 : Int32)]))) rfl ?_
          refine go_le (lv1 := []) (aLe_of (show (List.map (fun q => q.1) ([] : ALv)).Nodup from (by show ([] : List Nat).Nodup; decide)) aSubL_nil) ?_
          exact Tf240_b140 hd a0 ha0 (3 : Int32) r128_3.2 _ h
    · rw [if_neg (of_decide_eq_false hb)] at h
      refine go_ops aMi240 2 _ (f1 := (140, ([(4, .int (r95_1.2 (a0 + 24) j100_2)), (0, .ref a0), (1, .int i1), (2, .int i2)], [.int (2 : Int32)]))) rfl ?_
      refine go_le (lv1 := []) (aLe_of (show (List.map (fun q => q.1) ([] : ALv)).Nodup from (by show ([] : List Nat).Nodup; decide)) aSubL_nil) ?_
      exact Tf240_b140 hd a0 ha0 (2 : Int32) r95_1.2 _ h
def f240_b19 (kad : Nat → Nat) (N : Nat) (Z : AZ) (a0 : Nat) (i1 : Int32) (i2 : Int32) (s0 : Int32) (I : AI) : Option (Int32 × AI) :=
  if ¬ i1 = 0 then
    if i1 ≤ (6 : Int32) then
      if ¬ s0 = 0 then
        f240_b88 kad N Z a0 I
      else
        if ¬ i1 = (6 : Int32) then
          f240_b90 kad N Z a0 i1 i2 I
        else
          (ixA 4 (1 : Int32)).bind fun j84_1 =>
          if ¬ (I (a0 + 16) j84_1) = 0 then
            f240_b90 kad N Z a0 i1 i2 I
          else
            f240_b88 kad N Z a0 I
    else
      some ((9 : Int32), I)
  else
    (ixA 4 (0 : Int32)).bind fun j29_2 =>
    if (I (a0 + 16) j29_2) = 0 then
      f240_b38 kad N Z a0 I
    else
      if i2 = (Int32.ofInt (-1)) then
        (f236 kad N Z (a0 + 24) (0 : Int32) I).bind fun r47_3 =>
        if ¬ r47_3.1 = (Int32.ofInt (-1)) then
          f240_b59 kad N Z a0 (0 : Int32) r47_3.2
        else
          f240_b59 kad N Z a0 (2 : Int32) r47_3.2
      else
        f240_b38 kad N Z a0 I
set_option maxRecDepth 20000 in
theorem Tf240_b19 {kad : Nat → Nat} {N : Nat} {Z : AZ} {d : Nat} {t : Option Nat × (Nat × Nat)} (hd : 2 ≤ d) : ∀ (a0 : Nat) (ha0 : sh11 kad Z a0) (i1 : Int32) (i2 : Int32) (s0 : Int32) (I : AI) (r : Int32 × AI), f240_b19 kad N Z a0 i1 i2 s0 I = some r → aGo kad d 240 (19, ([(0, .ref a0), (1, .int i1), (2, .int i2)], [.int s0])) (aMem Z I, t) (qI Z t r) := by
  intro a0 ha0 i1 i2 s0 I r h
  unfold f240_b19 at h
  refine go_ops aMi240 2 _ (f1 := (21, ([(3, .int s0), (0, .ref a0), (1, .int i1), (2, .int i2)], [.int i1]))) rfl ?_
  refine gg_br (b := decide (¬ i1 = 0)) (tg := 60) (off := 39) aMi240 rfl rfl rfl rfl (fun hb => ?_) (fun hb => ?_)
  · rw [if_pos (of_decide_eq_true hb)] at h
    refine go_ops aMi240 2 _ (f1 := (63, ([(3, .int s0), (0, .ref a0), (1, .int i1), (2, .int i2)], [.int (6 : Int32), .int i1]))) rfl ?_
    refine gg_br (b := decide (i1 ≤ (6 : Int32))) (tg := 69) (off := 6) aMi240 rfl rfl rfl rfl (fun hb => ?_) (fun hb => ?_)
    · rw [if_pos (of_decide_eq_true hb)] at h
      refine go_ops aMi240 1 _ (f1 := (70, ([(3, .int s0), (0, .ref a0), (1, .int i1), (2, .int i2)], [.int s0]))) rfl ?_
      refine gg_br (b := decide (¬ s0 = 0)) (tg := 88) (off := 18) aMi240 rfl rfl rfl rfl (fun hb => ?_) (fun hb => ?_)
      · rw [if_pos (of_decide_eq_true hb)] at h
        refine go_le (lv1 := []) (aLe_of (show (List.map (fun q => q.1) ([] : ALv)).Nodup from (by show ([] : List Nat).Nodup; decide)) aSubL_nil) ?_
        exact Tf240_b88 hd a0 ha0 I _ h
      · rw [if_neg (of_decide_eq_false hb)] at h
        refine go_ops aMi240 2 _ (f1 := (76, ([(3, .int s0), (0, .ref a0), (1, .int i1), (2, .int i2)], [.int (6 : Int32), .int i1]))) rfl ?_
        refine gg_br (b := decide (¬ i1 = (6 : Int32))) (tg := 90) (off := 14) aMi240 rfl rfl rfl rfl (fun hb => ?_) (fun hb => ?_)
        · rw [if_pos (of_decide_eq_true hb)] at h
          refine go_le (lv1 := [(0, .ref a0), (1, .int i1), (2, .int i2)]) (aLe_of (show (List.map (fun q => q.1) ([(0, .ref a0), (1, .int i1), (2, .int i2)] : ALv)).Nodup from (by show ([0, 1, 2] : List Nat).Nodup; decide)) (aSubL_cons rfl (aSubL_cons rfl (aSubL_cons rfl aSubL_nil)))) ?_
          exact Tf240_b90 hd a0 ha0 i1 i2 I _ h
        · rw [if_neg (of_decide_eq_false hb)] at h
          refine go_ops aMi240 1 _ (f1 := (80, ([(3, .int s0), (0, .ref a0), (1, .int i1), (2, .int i2)], [.ref a0]))) rfl ?_
          refine gg_gR (b := (a0 + 16)) aMi240 rfl rfl rfl (gR_of (sh11_z ha0) (sh11_r26 ha0)) ?_
          refine go_ops aMi240 1 _ (f1 := (84, ([(3, .int s0), (0, .ref a0), (1, .int i1), (2, .int i2)], [.int (1 : Int32), .ref (a0 + 16)]))) rfl ?_
          obtain ⟨j84_1, hxj84_1, h⟩ := Option.bind_eq_some_iff.mp h
          refine gg_lI (Or.inl ⟨rfl, rfl⟩) aMi240 rfl (lI_of (sh11_a26 ha0) hxj84_1) ?_
          refine gg_br (b := decide (¬ (I (a0 + 16) j84_1) = 0)) (tg := 90) (off := 5) aMi240 rfl rfl rfl rfl (fun hb => ?_) (fun hb => ?_)
          · rw [if_pos (of_decide_eq_true hb)] at h
            refine go_le (lv1 := [(0, .ref a0), (1, .int i1), (2, .int i2)]) (aLe_of (show (List.map (fun q => q.1) ([(0, .ref a0), (1, .int i1), (2, .int i2)] : ALv)).Nodup from (by show ([0, 1, 2] : List Nat).Nodup; decide)) (aSubL_cons rfl (aSubL_cons rfl (aSubL_cons rfl aSubL_nil)))) ?_
            exact Tf240_b90 hd a0 ha0 i1 i2 I _ h
          · rw [if_neg (of_decide_eq_false hb)] at h
            refine go_le (lv1 := []) (aLe_of (show (List.map (fun q => q.1) ([] : ALv)).Nodup from (by show ([] : List Nat).Nodup; decide)) aSubL_nil) ?_
            exact Tf240_b88 hd a0 ha0 I _ h
    · rw [if_neg (of_decide_eq_false hb)] at h
      refine go_ops aMi240 1 _ (f1 := (68, ([(3, .int s0), (0, .ref a0), (1, .int i1), (2, .int i2)], [.int (9 : Int32)]))) rfl ?_
      cases h
      exact go_ret aMi240 rfl aRetI ⟨rfl, rfl⟩
  · rw [if_neg (of_decide_eq_false hb)] at h
    refine go_ops aMi240 1 _ (f1 := (25, ([(3, .int s0), (0, .ref a0), (1, .int i1), (2, .int i2)], [.ref a0]))) rfl ?_
    refine gg_gR (b := (a0 + 16)) aMi240 rfl rfl rfl (gR_of (sh11_z ha0) (sh11_r26 ha0)) ?_
    refine go_ops aMi240 1 _ (f1 := (29, ([(3, .int s0), (0, .ref a0), (1, .int i1), (2, .int i2)], [.int (0 : Int32), .ref (a0 + 16)]))) rfl ?_
    obtain ⟨j29_2, hxj29_2, h⟩ := Option.bind_eq_some_iff.mp h
    refine gg_lI (Or.inl ⟨rfl, rfl⟩) aMi240 rfl (lI_of (sh11_a26 ha0) hxj29_2) ?_
    refine gg_br (b := decide ((I (a0 + 16) j29_2) = 0)) (tg := 38) (off := 8) aMi240 rfl rfl rfl rfl (fun hb => ?_) (fun hb => ?_)
    · rw [if_pos (of_decide_eq_true hb)] at h
      refine go_le (lv1 := []) (aLe_of (show (List.map (fun q => q.1) ([] : ALv)).Nodup from (by show ([] : List Nat).Nodup; decide)) aSubL_nil) ?_
      exact Tf240_b38 hd a0 ha0 I _ h
    · rw [if_neg (of_decide_eq_false hb)] at h
      refine go_ops aMi240 2 _ (f1 := (35, ([(3, .int s0), (0, .ref a0), (1, .int i1), (2, .int i2)], [.int (Int32.ofInt (-1)), .int i2]))) rfl ?_
      refine gg_br (b := decide (i2 = (Int32.ofInt (-1)))) (tg := 42) (off := 7) aMi240 rfl rfl rfl rfl (fun hb => ?_) (fun hb => ?_)
      · rw [if_pos (of_decide_eq_true hb)] at h
        refine go_ops aMi240 1 _ (f1 := (43, ([(3, .int s0), (0, .ref a0), (1, .int i1), (2, .int i2)], [.ref a0]))) rfl ?_
        refine gg_gR (b := (a0 + 24)) aMi240 rfl rfl rfl (gR_of (sh11_z ha0) (sh11_r50 ha0)) ?_
        refine go_ops aMi240 1 _ (f1 := (47, ([(3, .int s0), (0, .ref a0), (1, .int i1), (2, .int i2)], [.int (0 : Int32), .ref (a0 + 24)]))) rfl ?_
        obtain ⟨r47_3, hxr47_3, h⟩ := Option.bind_eq_some_iff.mp h
        refine gg_cs (as := [.ref (a0 + 24), .int (0 : Int32)]) (r := []) aMi240 rfl rfl rfl aMi236 rfl (Nat.le_of_ble_eq_true rfl) (Nat.le_of_ble_eq_true rfl) (by omega) (Tf236 (by omega) (a0 + 24) (0 : Int32) I _ hxr47_3) ?_
        show aGo kad d 240 (50, ([(3, .int s0), (0, .ref a0), (1, .int i1), (2, .int i2)], [.int r47_3.1])) (aMem Z r47_3.2, t) _
        refine go_ops aMi240 1 _ (f1 := (51, ([(3, .int s0), (0, .ref a0), (1, .int i1), (2, .int i2)], [.int (Int32.ofInt (-1)), .int r47_3.1]))) rfl ?_
        refine gg_br (b := decide (¬ r47_3.1 = (Int32.ofInt (-1)))) (tg := 58) (off := 7) aMi240 rfl rfl rfl rfl (fun hb => ?_) (fun hb => ?_)
        · rw [if_pos (of_decide_eq_true hb)] at h
          refine go_ops aMi240 1 _ (f1 := (59, ([(3, .int s0), (0, .ref a0), (1, .int i1), (2, .int i2)], [.int (0 : Int32)]))) rfl ?_
          refine go_le (lv1 := []) (aLe_of (show (List.map (fun q => q.1) ([] : ALv)).Nodup from (by show ([] : List Nat).Nodup; decide)) aSubL_nil) ?_
          exact Tf240_b59 hd a0 ha0 (0 : Int32) r47_3.2 _ h
        · rw [if_neg (of_decide_eq_false hb)] at h
          refine go_ops aMi240 2 _ (f1 := (59, ([(3, .int s0), (0, .ref a0), (1, .int i1), (2, .int i2)], [.int (2 : Int32)]))) rfl ?_
          refine go_le (lv1 := []) (aLe_of (show (List.map (fun q => q.1) ([] : ALv)).Nodup from (by show ([] : List Nat).Nodup; decide)) aSubL_nil) ?_
          exact Tf240_b59 hd a0 ha0 (2 : Int32) r47_3.2 _ h
      · rw [if_neg (of_decide_eq_false hb)] at h
        refine go_le (lv1 := []) (aLe_of (show (List.map (fun q => q.1) ([] : ALv)).Nodup from (by show ([] : List Nat).Nodup; decide)) aSubL_nil) ?_
        exact Tf240_b38 hd a0 ha0 I _ h
def f240_b14 (kad : Nat → Nat) (N : Nat) (Z : AZ) (a0 : Nat) (i1 : Int32) (i2 : Int32) (I : AI) : Option (Int32 × AI) :=
  f240_b19 kad N Z a0 i1 i2 (1 : Int32) I
set_option maxRecDepth 20000 in
theorem Tf240_b14 {kad : Nat → Nat} {N : Nat} {Z : AZ} {d : Nat} {t : Option Nat × (Nat × Nat)} (hd : 2 ≤ d) : ∀ (a0 : Nat) (ha0 : sh11 kad Z a0) (i1 : Int32) (i2 : Int32) (I : AI) (r : Int32 × AI), f240_b14 kad N Z a0 i1 i2 I = some r → aGo kad d 240 (14, ([(0, .ref a0), (1, .int i1), (2, .int i2)], [])) (aMem Z I, t) (qI Z t r) := by
  intro a0 ha0 i1 i2 I r h
  unfold f240_b14 at h
  refine go_ops aMi240 2 _ (f1 := (19, ([(0, .ref a0), (1, .int i1), (2, .int i2)], [.int (1 : Int32)]))) rfl ?_
  exact Tf240_b19 hd a0 ha0 i1 i2 (1 : Int32) I _ h
def f240 (kad : Nat → Nat) (N : Nat) (Z : AZ) (a0 : Nat) (i1 : Int32) (i2 : Int32) (I : AI) : Option (Int32 × AI) :=
  (ixA 4 (0 : Int32)).bind fun j5_1 =>
  if (I (a0 + 16) j5_1) = 0 then
    f240_b14 kad N Z a0 i1 i2 I
  else
    if ¬ i2 = (Int32.ofInt (-1)) then
      f240_b19 kad N Z a0 i1 i2 (0 : Int32) I
    else
      f240_b14 kad N Z a0 i1 i2 I
set_option maxRecDepth 20000 in
theorem Tf240 {kad : Nat → Nat} {N : Nat} {Z : AZ} {d : Nat} {t : Option Nat × (Nat × Nat)} (hd : 2 ≤ d) : ∀ (a0 : Nat) (ha0 : sh11 kad Z a0) (i1 : Int32) (i2 : Int32) (I : AI) (r : Int32 × AI), f240 kad N Z a0 i1 i2 I = some r → aGo kad d 240 (0, ([(0, .ref a0), (1, .int i1), (2, .int i2)], [])) (aMem Z I, t) (qI Z t r) := by
  intro a0 ha0 i1 i2 I r h
  unfold f240 at h
  refine go_ops aMi240 1 _ (f1 := (1, ([(0, .ref a0), (1, .int i1), (2, .int i2)], [.ref a0]))) rfl ?_
  refine gg_gR (b := (a0 + 16)) aMi240 rfl rfl rfl (gR_of (sh11_z ha0) (sh11_r26 ha0)) ?_
  refine go_ops aMi240 1 _ (f1 := (5, ([(0, .ref a0), (1, .int i1), (2, .int i2)], [.int (0 : Int32), .ref (a0 + 16)]))) rfl ?_
  obtain ⟨j5_1, hxj5_1, h⟩ := Option.bind_eq_some_iff.mp h
  refine gg_lI (Or.inl ⟨rfl, rfl⟩) aMi240 rfl (lI_of (sh11_a26 ha0) hxj5_1) ?_
  refine gg_br (b := decide ((I (a0 + 16) j5_1) = 0)) (tg := 14) (off := 8) aMi240 rfl rfl rfl rfl (fun hb => ?_) (fun hb => ?_)
  · rw [if_pos (of_decide_eq_true hb)] at h
    exact Tf240_b14 hd a0 ha0 i1 i2 I _ h
  · rw [if_neg (of_decide_eq_false hb)] at h
    refine go_ops aMi240 2 _ (f1 := (11, ([(0, .ref a0), (1, .int i1), (2, .int i2)], [.int (Int32.ofInt (-1)), .int i2]))) rfl ?_
    refine gg_br (b := decide (¬ i2 = (Int32.ofInt (-1)))) (tg := 18) (off := 7) aMi240 rfl rfl rfl rfl (fun hb => ?_) (fun hb => ?_)
    · rw [if_pos (of_decide_eq_true hb)] at h
      refine go_ops aMi240 1 _ (f1 := (19, ([(0, .ref a0), (1, .int i1), (2, .int i2)], [.int (0 : Int32)]))) rfl ?_
      exact Tf240_b19 hd a0 ha0 i1 i2 (0 : Int32) I _ h
    · rw [if_neg (of_decide_eq_false hb)] at h
      exact Tf240_b14 hd a0 ha0 i1 i2 I _ h
-- KernelGymModel.blockOf ([III)I
def f241 (kad : Nat → Nat) (N : Nat) (Z : AZ) (a0 : Nat) (b1 : Nat) (i2 : Int32) (i3 : Int32) (I : AI) : Option (Int32 × AI) :=
  (f235 kad N Z i2 I).bind fun r2_1 =>
  (lI Z r2_1.2 100 b1 ((r2_1.1 + (2 : Int32)) + (i3 / (8 : Int32)))).bind fun x12_2 =>
  some (x12_2, r2_1.2)
set_option maxRecDepth 20000 in
theorem Tf241 {kad : Nat → Nat} {N : Nat} {Z : AZ} {d : Nat} {t : Option Nat × (Nat × Nat)} (hd : 1 ≤ d) : ∀ (a0 : Nat) (ha0 : sh11 kad Z a0) (b1 : Nat) (i2 : Int32) (i3 : Int32) (I : AI) (r : Int32 × AI), f241 kad N Z a0 b1 i2 i3 I = some r → aGo kad d 241 (0, ([(0, .ref a0), (1, .ref b1), (2, .int i2), (3, .int i3)], [])) (aMem Z I, t) (qI Z t r) := by
  intro a0 ha0 b1 i2 i3 I r h
  unfold f241 at h
  refine go_ops aMi241 2 _ (f1 := (2, ([(0, .ref a0), (1, .ref b1), (2, .int i2), (3, .int i3)], [.int i2, .ref b1]))) rfl ?_
  obtain ⟨r2_1, hxr2_1, h⟩ := Option.bind_eq_some_iff.mp h
  refine gg_cs (as := [.int i2]) (r := [.ref b1]) aMi241 rfl rfl rfl aMi235 rfl (Nat.le_of_ble_eq_true rfl) (Nat.le_of_ble_eq_true rfl) (by omega) (Tf235 (by omega) i2 I _ hxr2_1) ?_
  show aGo kad d 241 (5, ([(0, .ref a0), (1, .ref b1), (2, .int i2), (3, .int i3)], [.int r2_1.1, .ref b1])) (aMem Z r2_1.2, t) _
  refine go_ops aMi241 6 _ (f1 := (12, ([(0, .ref a0), (1, .ref b1), (2, .int i2), (3, .int i3)], [.int ((r2_1.1 + (2 : Int32)) + (i3 / (8 : Int32))), .ref b1]))) rfl ?_
  obtain ⟨x12_2, hxx12_2, h⟩ := Option.bind_eq_some_iff.mp h
  refine gg_lI (Or.inl ⟨rfl, rfl⟩) aMi241 rfl hxx12_2 ?_
  cases h
  exact go_ret aMi241 rfl aRetI ⟨rfl, rfl⟩
-- KernelGymModel.blockOfEntry (I)I
def f243 (kad : Nat → Nat) (N : Nat) (Z : AZ) (i0 : Int32) (I : AI) : Option (Int32 × AI) :=
  some (((1 : Int32) <<< (((5 : Int32) + (i0 / (2 : Int32))) &&& 31)), I)
set_option maxRecDepth 20000 in
theorem Tf243 {kad : Nat → Nat} {N : Nat} {Z : AZ} {d : Nat} {t : Option Nat × (Nat × Nat)} (hd : 0 ≤ d) : ∀ (i0 : Int32) (I : AI) (r : Int32 × AI), f243 kad N Z i0 I = some r → aGo kad d 243 (0, ([(0, .int i0)], [])) (aMem Z I, t) (qI Z t r) := by
  intro i0 I r h
  unfold f243 at h
  refine go_ops aMi243 7 _ (f1 := (7, ([(0, .int i0)], [.int ((1 : Int32) <<< (((5 : Int32) + (i0 / (2 : Int32))) &&& 31))]))) rfl ?_
  cases h
  exact go_ret aMi243 rfl aRetI ⟨rfl, rfl⟩
-- KernelGymModel.makesFile ()I
def f244 (kad : Nat → Nat) (N : Nat) (Z : AZ) (a0 : Nat) (I : AI) : Option (Int32 × AI) :=
  (f236 kad N Z (a0 + 24) (0 : Int32) I).bind fun r5_1 =>
  (f235 kad N Z r5_1.1 r5_1.2).bind fun r14_2 =>
  (ixA 4 (0 : Int32)).bind fun j22_3 =>
  (ixA 256 r14_2.1).bind fun j23_5 =>
  (wI r14_2.2 (a0 + 25) j23_5 (r14_2.2 (a0 + 16) j22_3)).bind fun I23_4 =>
  (f235 kad N Z r5_1.1 I23_4).bind fun r29_6 =>
  (ixA 256 (r29_6.1 + (1 : Int32))).bind fun j35_8 =>
  (wI r29_6.2 (a0 + 25) j35_8 (0 : Int32)).bind fun I35_7 =>
  (f235 kad N Z r5_1.1 I35_7).bind fun r41_9 =>
  (ixA 256 (r41_9.1 + (2 : Int32))).bind fun j47_11 =>
  (wI r41_9.2 (a0 + 25) j47_11 (0 : Int32)).bind fun I47_10 =>
  (f235 kad N Z r5_1.1 I47_10).bind fun r53_12 =>
  (ixA 256 (r53_12.1 + (3 : Int32))).bind fun j59_14 =>
  (wI r53_12.2 (a0 + 25) j59_14 (0 : Int32)).bind fun I59_13 =>
  (f243 kad N Z r5_1.1 I59_13).bind fun r61_15 =>
  some (r61_15.1, r61_15.2)
set_option maxRecDepth 20000 in
theorem Tf244 {kad : Nat → Nat} {N : Nat} {Z : AZ} {d : Nat} {t : Option Nat × (Nat × Nat)} (hd : 2 ≤ d) : ∀ (a0 : Nat) (ha0 : sh11 kad Z a0) (I : AI) (r : Int32 × AI), f244 kad N Z a0 I = some r → aGo kad d 244 (0, ([(0, .ref a0)], [])) (aMem Z I, t) (qI Z t r) := by
  intro a0 ha0 I r h
  unfold f244 at h
  refine go_ops aMi244 1 _ (f1 := (1, ([(0, .ref a0)], [.ref a0]))) rfl ?_
  refine gg_gR (b := (a0 + 24)) aMi244 rfl rfl rfl (gR_of (sh11_z ha0) (sh11_r50 ha0)) ?_
  refine go_ops aMi244 1 _ (f1 := (5, ([(0, .ref a0)], [.int (0 : Int32), .ref (a0 + 24)]))) rfl ?_
  obtain ⟨r5_1, hxr5_1, h⟩ := Option.bind_eq_some_iff.mp h
  refine gg_cs (as := [.ref (a0 + 24), .int (0 : Int32)]) (r := []) aMi244 rfl rfl rfl aMi236 rfl (Nat.le_of_ble_eq_true rfl) (Nat.le_of_ble_eq_true rfl) (by omega) (Tf236 (by omega) (a0 + 24) (0 : Int32) I _ hxr5_1) ?_
  show aGo kad d 244 (8, ([(0, .ref a0)], [.int r5_1.1])) (aMem Z r5_1.2, t) _
  refine go_ops aMi244 2 _ (f1 := (10, ([(1, .int r5_1.1), (0, .ref a0)], [.ref a0]))) rfl ?_
  refine gg_gR (b := (a0 + 25)) aMi244 rfl rfl rfl (gR_of (sh11_z ha0) (sh11_r51 ha0)) ?_
  refine go_ops aMi244 1 _ (f1 := (14, ([(1, .int r5_1.1), (0, .ref a0)], [.int r5_1.1, .ref (a0 + 25)]))) rfl ?_
  obtain ⟨r14_2, hxr14_2, h⟩ := Option.bind_eq_some_iff.mp h
  refine gg_cs (as := [.int r5_1.1]) (r := [.ref (a0 + 25)]) aMi244 rfl rfl rfl aMi235 rfl (Nat.le_of_ble_eq_true rfl) (Nat.le_of_ble_eq_true rfl) (by omega) (Tf235 (by omega) r5_1.1 r5_1.2 _ hxr14_2) ?_
  show aGo kad d 244 (17, ([(1, .int r5_1.1), (0, .ref a0)], [.int r14_2.1, .ref (a0 + 25)])) (aMem Z r14_2.2, t) _
  refine go_ops aMi244 1 _ (f1 := (18, ([(1, .int r5_1.1), (0, .ref a0)], [.ref a0, .int r14_2.1, .ref (a0 + 25)]))) rfl ?_
  refine gg_gR (b := (a0 + 16)) aMi244 rfl rfl rfl (gR_of (sh11_z ha0) (sh11_r26 ha0)) ?_
  refine go_ops aMi244 1 _ (f1 := (22, ([(1, .int r5_1.1), (0, .ref a0)], [.int (0 : Int32), .ref (a0 + 16), .int r14_2.1, .ref (a0 + 25)]))) rfl ?_
  obtain ⟨j22_3, hxj22_3, h⟩ := Option.bind_eq_some_iff.mp h
  refine gg_lI (Or.inl ⟨rfl, rfl⟩) aMi244 rfl (lI_of (sh11_a26 ha0) hxj22_3) ?_
  obtain ⟨j23_5, hxj23_5, h⟩ := Option.bind_eq_some_iff.mp h
  obtain ⟨I23_4, hxI23_4, h⟩ := Option.bind_eq_some_iff.mp h
  refine gg_sI (Or.inl ⟨rfl, rfl⟩) aMi244 rfl (sI_of (sh11_a51 ha0) hxj23_5 hxI23_4) ?_
  refine go_ops aMi244 1 _ (f1 := (25, ([(1, .int r5_1.1), (0, .ref a0)], [.ref a0]))) rfl ?_
  refine gg_gR (b := (a0 + 25)) aMi244 rfl rfl rfl (gR_of (sh11_z ha0) (sh11_r51 ha0)) ?_
  refine go_ops aMi244 1 _ (f1 := (29, ([(1, .int r5_1.1), (0, .ref a0)], [.int r5_1.1, .ref (a0 + 25)]))) rfl ?_
  obtain ⟨r29_6, hxr29_6, h⟩ := Option.bind_eq_some_iff.mp h
  refine gg_cs (as := [.int r5_1.1]) (r := [.ref (a0 + 25)]) aMi244 rfl rfl rfl aMi235 rfl (Nat.le_of_ble_eq_true rfl) (Nat.le_of_ble_eq_true rfl) (by omega) (Tf235 (by omega) r5_1.1 I23_4 _ hxr29_6) ?_
  show aGo kad d 244 (32, ([(1, .int r5_1.1), (0, .ref a0)], [.int r29_6.1, .ref (a0 + 25)])) (aMem Z r29_6.2, t) _
  refine go_ops aMi244 3 _ (f1 := (35, ([(1, .int r5_1.1), (0, .ref a0)], [.int (0 : Int32), .int (r29_6.1 + (1 : Int32)), .ref (a0 + 25)]))) rfl ?_
  obtain ⟨j35_8, hxj35_8, h⟩ := Option.bind_eq_some_iff.mp h
  obtain ⟨I35_7, hxI35_7, h⟩ := Option.bind_eq_some_iff.mp h
  refine gg_sI (Or.inl ⟨rfl, rfl⟩) aMi244 rfl (sI_of (sh11_a51 ha0) hxj35_8 hxI35_7) ?_
  refine go_ops aMi244 1 _ (f1 := (37, ([(1, .int r5_1.1), (0, .ref a0)], [.ref a0]))) rfl ?_
  refine gg_gR (b := (a0 + 25)) aMi244 rfl rfl rfl (gR_of (sh11_z ha0) (sh11_r51 ha0)) ?_
  refine go_ops aMi244 1 _ (f1 := (41, ([(1, .int r5_1.1), (0, .ref a0)], [.int r5_1.1, .ref (a0 + 25)]))) rfl ?_
  obtain ⟨r41_9, hxr41_9, h⟩ := Option.bind_eq_some_iff.mp h
  refine gg_cs (as := [.int r5_1.1]) (r := [.ref (a0 + 25)]) aMi244 rfl rfl rfl aMi235 rfl (Nat.le_of_ble_eq_true rfl) (Nat.le_of_ble_eq_true rfl) (by omega) (Tf235 (by omega) r5_1.1 I35_7 _ hxr41_9) ?_
  show aGo kad d 244 (44, ([(1, .int r5_1.1), (0, .ref a0)], [.int r41_9.1, .ref (a0 + 25)])) (aMem Z r41_9.2, t) _
  refine go_ops aMi244 3 _ (f1 := (47, ([(1, .int r5_1.1), (0, .ref a0)], [.int (0 : Int32), .int (r41_9.1 + (2 : Int32)), .ref (a0 + 25)]))) rfl ?_
  obtain ⟨j47_11, hxj47_11, h⟩ := Option.bind_eq_some_iff.mp h
  obtain ⟨I47_10, hxI47_10, h⟩ := Option.bind_eq_some_iff.mp h
  refine gg_sI (Or.inl ⟨rfl, rfl⟩) aMi244 rfl (sI_of (sh11_a51 ha0) hxj47_11 hxI47_10) ?_
  refine go_ops aMi244 1 _ (f1 := (49, ([(1, .int r5_1.1), (0, .ref a0)], [.ref a0]))) rfl ?_
  refine gg_gR (b := (a0 + 25)) aMi244 rfl rfl rfl (gR_of (sh11_z ha0) (sh11_r51 ha0)) ?_
  refine go_ops aMi244 1 _ (f1 := (53, ([(1, .int r5_1.1), (0, .ref a0)], [.int r5_1.1, .ref (a0 + 25)]))) rfl ?_
  obtain ⟨r53_12, hxr53_12, h⟩ := Option.bind_eq_some_iff.mp h
  refine gg_cs (as := [.int r5_1.1]) (r := [.ref (a0 + 25)]) aMi244 rfl rfl rfl aMi235 rfl (Nat.le_of_ble_eq_true rfl) (Nat.le_of_ble_eq_true rfl) (by omega) (Tf235 (by omega) r5_1.1 I47_10 _ hxr53_12) ?_
  show aGo kad d 244 (56, ([(1, .int r5_1.1), (0, .ref a0)], [.int r53_12.1, .ref (a0 + 25)])) (aMem Z r53_12.2, t) _
  refine go_ops aMi244 3 _ (f1 := (59, ([(1, .int r5_1.1), (0, .ref a0)], [.int (0 : Int32), .int (r53_12.1 + (3 : Int32)), .ref (a0 + 25)]))) rfl ?_
  obtain ⟨j59_14, hxj59_14, h⟩ := Option.bind_eq_some_iff.mp h
  obtain ⟨I59_13, hxI59_13, h⟩ := Option.bind_eq_some_iff.mp h
  refine gg_sI (Or.inl ⟨rfl, rfl⟩) aMi244 rfl (sI_of (sh11_a51 ha0) hxj59_14 hxI59_13) ?_
  refine go_ops aMi244 1 _ (f1 := (61, ([(1, .int r5_1.1), (0, .ref a0)], [.int r5_1.1]))) rfl ?_
  obtain ⟨r61_15, hxr61_15, h⟩ := Option.bind_eq_some_iff.mp h
  refine gg_cs (as := [.int r5_1.1]) (r := []) aMi244 rfl rfl rfl aMi243 rfl (Nat.le_of_ble_eq_true rfl) (Nat.le_of_ble_eq_true rfl) (by omega) (Tf243 (by omega) r5_1.1 I59_13 _ hxr61_15) ?_
  show aGo kad d 244 (64, ([(1, .int r5_1.1), (0, .ref a0)], [.int r61_15.1])) (aMem Z r61_15.2, t) _
  cases h
  exact go_ret aMi244 rfl aRetI ⟨rfl, rfl⟩
-- KernelGymModel.turns ([II)V
def f238 (kad : Nat → Nat) (N : Nat) (Z : AZ) (b0 : Nat) (i1 : Int32) (I : AI) : Option (Unit × AI) :=
  (lI Z I 100 b0 ((32 : Int32) + (i1 / (16 : Int32)))).bind fun x9_1 =>
  (sI Z I 100 b0 ((32 : Int32) + (i1 / (16 : Int32))) (x9_1 ^^^ ((1 : Int32) <<< ((i1 - i1 / (16 : Int32) * (16 : Int32)) &&& 31)))).bind fun I17_2 =>
  some ((), I17_2)
set_option maxRecDepth 20000 in
theorem Tf238 {kad : Nat → Nat} {N : Nat} {Z : AZ} {d : Nat} {t : Option Nat × (Nat × Nat)} (hd : 0 ≤ d) : ∀ (b0 : Nat) (i1 : Int32) (I : AI) (r : Unit × AI), f238 kad N Z b0 i1 I = some r → aGo kad d 238 (0, ([(0, .ref b0), (1, .int i1)], [])) (aMem Z I, t) (qV Z t r) := by
  intro b0 i1 I r h
  unfold f238 at h
  refine go_ops aMi238 7 _ (f1 := (9, ([(0, .ref b0), (1, .int i1)], [.int ((32 : Int32) + (i1 / (16 : Int32))), .ref b0, .int ((32 : Int32) + (i1 / (16 : Int32))), .ref b0]))) rfl ?_
  obtain ⟨x9_1, hxx9_1, h⟩ := Option.bind_eq_some_iff.mp h
  refine gg_lI (Or.inl ⟨rfl, rfl⟩) aMi238 rfl hxx9_1 ?_
  refine go_ops aMi238 6 _ (f1 := (17, ([(0, .ref b0), (1, .int i1)], [.int (x9_1 ^^^ ((1 : Int32) <<< ((i1 - i1 / (16 : Int32) * (16 : Int32)) &&& 31))), .int ((32 : Int32) + (i1 / (16 : Int32))), .ref b0]))) rfl ?_
  obtain ⟨I17_2, hxI17_2, h⟩ := Option.bind_eq_some_iff.mp h
  refine gg_sI (Or.inl ⟨rfl, rfl⟩) aMi238 rfl hxI17_2 ?_
  cases h
  exact go_ret aMi238 rfl rfl ⟨rfl, rfl⟩
-- KernelGymModel.appends (I)I
def f245_b92 (kad : Nat → Nat) (N : Nat) (Z : AZ) (a0 : Nat) (i1 : Int32) (i2 : Int32) (i3 : Int32) (I : AI) : Option (Int32 × AI) :=
  (f241 kad N Z a0 (a0 + 25) i1 i2 I).bind fun r99_1 =>
  (ixA 4 (1 : Int32)).bind fun j123_2 =>
  (ixA 256 (((8 : Int32) * r99_1.1) + (i2 - i2 / (8 : Int32) * (8 : Int32)))).bind fun j124_4 =>
  (wI r99_1.2 (a0 + 25) j124_4 (r99_1.2 (a0 + 16) j123_2)).bind fun I124_3 =>
  (f235 kad N Z i1 I124_3).bind fun r130_5 =>
  (ixA 256 (r130_5.1 + (1 : Int32))).bind fun j138_7 =>
  (wI r130_5.2 (a0 + 25) j138_7 (i2 + (1 : Int32))).bind fun I138_6 =>
  some ((i3 ||| ((1 : Int32) <<< (r99_1.1 &&& 31))), I138_6)
set_option maxRecDepth 20000 in
theorem Tf245_b92 {kad : Nat → Nat} {N : Nat} {Z : AZ} {d : Nat} {t : Option Nat × (Nat × Nat)} (hd : 2 ≤ d) : ∀ (a0 : Nat) (ha0 : sh11 kad Z a0) (i1 : Int32) (i2 : Int32) (i3 : Int32) (I : AI) (r : Int32 × AI), f245_b92 kad N Z a0 i1 i2 i3 I = some r → aGo kad d 245 (92, ([(0, .ref a0), (1, .int i1), (2, .int i2), (3, .int i3)], [])) (aMem Z I, t) (qI Z t r) := by
  intro a0 ha0 i1 i2 i3 I r h
  unfold f245_b92 at h
  refine go_ops aMi245 2 _ (f1 := (94, ([(0, .ref a0), (1, .int i1), (2, .int i2), (3, .int i3)], [.ref a0, .ref a0]))) rfl ?_
  refine gg_gR (b := (a0 + 25)) aMi245 rfl rfl rfl (gR_of (sh11_z ha0) (sh11_r51 ha0)) ?_
  refine go_ops aMi245 2 _ (f1 := (99, ([(0, .ref a0), (1, .int i1), (2, .int i2), (3, .int i3)], [.int i2, .int i1, .ref (a0 + 25), .ref a0]))) rfl ?_
  obtain ⟨r99_1, hxr99_1, h⟩ := Option.bind_eq_some_iff.mp h
  refine gg_cv (as := [.ref (a0 + 25), .int i1, .int i2]) (r := []) aMi245 rfl rfl rfl aMi241 (Nat.le_of_ble_eq_true rfl) rfl (Nat.le_of_ble_eq_true rfl) (Nat.le_of_ble_eq_true rfl) (by omega) (isK_of (sh11_z ha0)) (Tf241 (by omega) a0 ha0 (a0 + 25) i1 i2 I _ hxr99_1) ?_
  show aGo kad d 245 (102, ([(0, .ref a0), (1, .int i1), (2, .int i2), (3, .int i3)], [.int r99_1.1])) (aMem Z r99_1.2, t) _
  refine go_ops aMi245 2 _ (f1 := (105, ([(4, .int r99_1.1), (0, .ref a0), (1, .int i1), (2, .int i2), (3, .int i3)], [.ref a0]))) rfl ?_
  refine gg_gR (b := (a0 + 25)) aMi245 rfl rfl rfl (gR_of (sh11_z ha0) (sh11_r51 ha0)) ?_
  refine go_ops aMi245 8 _ (f1 := (119, ([(4, .int r99_1.1), (0, .ref a0), (1, .int i1), (2, .int i2), (3, .int i3)], [.ref a0, .int (((8 : Int32) * r99_1.1) + (i2 - i2 / (8 : Int32) * (8 : Int32))), .ref (a0 + 25)]))) rfl ?_
  refine gg_gR (b := (a0 + 16)) aMi245 rfl rfl rfl (gR_of (sh11_z ha0) (sh11_r26 ha0)) ?_
  refine go_ops aMi245 1 _ (f1 := (123, ([(4, .int r99_1.1), (0, .ref a0), (1, .int i1), (2, .int i2), (3, .int i3)], [.int (1 : Int32), .ref (a0 + 16), .int (((8 : Int32) * r99_1.1) + (i2 - i2 / (8 : Int32) * (8 : Int32))), .ref (a0 + 25)]))) rfl ?_
  obtain ⟨j123_2, hxj123_2, h⟩ := Option.bind_eq_some_iff.mp h
  refine gg_lI (Or.inl ⟨rfl, rfl⟩) aMi245 rfl (lI_of (sh11_a26 ha0) hxj123_2) ?_
  obtain ⟨j124_4, hxj124_4, h⟩ := Option.bind_eq_some_iff.mp h
  obtain ⟨I124_3, hxI124_3, h⟩ := Option.bind_eq_some_iff.mp h
  refine gg_sI (Or.inl ⟨rfl, rfl⟩) aMi245 rfl (sI_of (sh11_a51 ha0) hxj124_4 hxI124_3) ?_
  refine go_ops aMi245 1 _ (f1 := (126, ([(4, .int r99_1.1), (0, .ref a0), (1, .int i1), (2, .int i2), (3, .int i3)], [.ref a0]))) rfl ?_
  refine gg_gR (b := (a0 + 25)) aMi245 rfl rfl rfl (gR_of (sh11_z ha0) (sh11_r51 ha0)) ?_
  refine go_ops aMi245 1 _ (f1 := (130, ([(4, .int r99_1.1), (0, .ref a0), (1, .int i1), (2, .int i2), (3, .int i3)], [.int i1, .ref (a0 + 25)]))) rfl ?_
  obtain ⟨r130_5, hxr130_5, h⟩ := Option.bind_eq_some_iff.mp h
  refine gg_cs (as := [.int i1]) (r := [.ref (a0 + 25)]) aMi245 rfl rfl rfl aMi235 rfl (Nat.le_of_ble_eq_true rfl) (Nat.le_of_ble_eq_true rfl) (by omega) (Tf235 (by omega) i1 I124_3 _ hxr130_5) ?_
  show aGo kad d 245 (133, ([(4, .int r99_1.1), (0, .ref a0), (1, .int i1), (2, .int i2), (3, .int i3)], [.int r130_5.1, .ref (a0 + 25)])) (aMem Z r130_5.2, t) _
  refine go_ops aMi245 5 _ (f1 := (138, ([(4, .int r99_1.1), (0, .ref a0), (1, .int i1), (2, .int i2), (3, .int i3)], [.int (i2 + (1 : Int32)), .int (r130_5.1 + (1 : Int32)), .ref (a0 + 25)]))) rfl ?_
  obtain ⟨j138_7, hxj138_7, h⟩ := Option.bind_eq_some_iff.mp h
  obtain ⟨I138_6, hxI138_6, h⟩ := Option.bind_eq_some_iff.mp h
  refine gg_sI (Or.inl ⟨rfl, rfl⟩) aMi245 rfl (sI_of (sh11_a51 ha0) hxj138_7 hxI138_6) ?_
  refine go_ops aMi245 5 _ (f1 := (145, ([(4, .int r99_1.1), (0, .ref a0), (1, .int i1), (2, .int i2), (3, .int i3)], [.int (i3 ||| ((1 : Int32) <<< (r99_1.1 &&& 31)))]))) rfl ?_
  cases h
  exact go_ret aMi245 rfl aRetI ⟨rfl, rfl⟩
def f245_b60 (kad : Nat → Nat) (N : Nat) (Z : AZ) : Nat → Nat → Int32 → Int32 → Int32 → Int32 → Int32 → AI → Option (Int32 × AI)
  | 0, _, _, _, _, _, _, _ => none
  | F + 1, a0, i1, i2, i3, i4, i5, I =>
    if (8 : Int32) ≤ i5 then
      f245_b92 kad N Z a0 i1 i2 (i3 ||| (16 : Int32)) I
    else
      (ixA 256 (((8 : Int32) * i4) + i5)).bind fun j80_2 =>
      (wI I (a0 + 25) j80_2 (0 : Int32)).bind fun I80_1 =>
      f245_b60 kad N Z F a0 i1 i2 i3 i4 (i5 + (1 : Int32)) I80_1
set_option maxRecDepth 20000 in
theorem Tf245_b60 {kad : Nat → Nat} {N : Nat} {Z : AZ} {d : Nat} {t : Option Nat × (Nat × Nat)} (hd : 2 ≤ d) : ∀ (F : Nat) (a0 : Nat) (ha0 : sh11 kad Z a0) (i1 : Int32) (i2 : Int32) (i3 : Int32) (i4 : Int32) (i5 : Int32) (I : AI) (r : Int32 × AI), f245_b60 kad N Z F a0 i1 i2 i3 i4 i5 I = some r → aGo kad d 245 (60, ([(0, .ref a0), (1, .int i1), (2, .int i2), (3, .int i3), (4, .int i4), (5, .int i5)], [])) (aMem Z I, t) (qI Z t r) := by
  intro F
  induction F with
  | zero => intro a0 ha0 i1 i2 i3 i4 i5 I r h; cases h
  | succ F ih =>
    intro a0 ha0 i1 i2 i3 i4 i5 I r h
    unfold f245_b60 at h
    refine go_ops aMi245 2 _ (f1 := (64, ([(0, .ref a0), (1, .int i1), (2, .int i2), (3, .int i3), (4, .int i4), (5, .int i5)], [.int (8 : Int32), .int i5]))) rfl ?_
    refine gg_br (b := decide ((8 : Int32) ≤ i5)) (tg := 87) (off := 23) aMi245 rfl rfl rfl rfl (fun hb => ?_) (fun hb => ?_)
    · rw [if_pos (of_decide_eq_true hb)] at h
      refine go_ops aMi245 4 _ (f1 := (92, ([(3, .int (i3 ||| (16 : Int32))), (0, .ref a0), (1, .int i1), (2, .int i2), (4, .int i4), (5, .int i5)], []))) rfl ?_
      refine go_le (lv1 := [(0, .ref a0), (1, .int i1), (2, .int i2), (3, .int (i3 ||| (16 : Int32)))]) (aLe_of (show (List.map (fun q => q.1) ([(0, .ref a0), (1, .int i1), (2, .int i2), (3, .int (i3 ||| (16 : Int32)))] : ALv)).Nodup from (by show ([0, 1, 2, 3] : List Nat).Nodup; decide)) (aSubL_cons rfl (aSubL_cons rfl (aSubL_cons rfl (aSubL_cons rfl aSubL_nil))))) ?_
      exact Tf245_b92 hd a0 ha0 i1 i2 (i3 ||| (16 : Int32)) I _ h
    · rw [if_neg (of_decide_eq_false hb)] at h
      refine go_ops aMi245 1 _ (f1 := (68, ([(0, .ref a0), (1, .int i1), (2, .int i2), (3, .int i3), (4, .int i4), (5, .int i5)], [.ref a0]))) rfl ?_
      refine gg_gR (b := (a0 + 25)) aMi245 rfl rfl rfl (gR_of (sh11_z ha0) (sh11_r51 ha0)) ?_
      refine go_ops aMi245 6 _ (f1 := (80, ([(0, .ref a0), (1, .int i1), (2, .int i2), (3, .int i3), (4, .int i4), (5, .int i5)], [.int (0 : Int32), .int (((8 : Int32) * i4) + i5), .ref (a0 + 25)]))) rfl ?_
      obtain ⟨j80_2, hxj80_2, h⟩ := Option.bind_eq_some_iff.mp h
      obtain ⟨I80_1, hxI80_1, h⟩ := Option.bind_eq_some_iff.mp h
      refine gg_sI (Or.inl ⟨rfl, rfl⟩) aMi245 rfl (sI_of (sh11_a51 ha0) hxj80_2 hxI80_1) ?_
      refine go_ops aMi245 2 _ (f1 := (60, ([(5, .int (i5 + (1 : Int32))), (0, .ref a0), (1, .int i1), (2, .int i2), (3, .int i3), (4, .int i4)], []))) rfl ?_
      refine go_le (lv1 := [(0, .ref a0), (1, .int i1), (2, .int i2), (3, .int i3), (4, .int i4), (5, .int (i5 + (1 : Int32)))]) (aLe_of (show (List.map (fun q => q.1) ([(0, .ref a0), (1, .int i1), (2, .int i2), (3, .int i3), (4, .int i4), (5, .int (i5 + (1 : Int32)))] : ALv)).Nodup from (by show ([0, 1, 2, 3, 4, 5] : List Nat).Nodup; decide)) (aSubL_cons rfl (aSubL_cons rfl (aSubL_cons rfl (aSubL_cons rfl (aSubL_cons rfl (aSubL_cons rfl aSubL_nil))))))) ?_
      exact ih a0 ha0 i1 i2 i3 i4 (i5 + (1 : Int32)) I80_1 _ h
def f245 (kad : Nat → Nat) (N : Nat) (Z : AZ) (a0 : Nat) (i1 : Int32) (I : AI) : Option (Int32 × AI) :=
  (f235 kad N Z i1 I).bind fun r5_1 =>
  (ixA 256 (r5_1.1 + (1 : Int32))).bind fun j10_2 =>
  (f243 kad N Z i1 r5_1.2).bind fun r13_3 =>
  if ¬ ((r5_1.2 (a0 + 25) j10_2) - (r5_1.2 (a0 + 25) j10_2) / (8 : Int32) * (8 : Int32)) = 0 then
    f245_b92 kad N Z a0 i1 (r5_1.2 (a0 + 25) j10_2) r13_3.1 r13_3.2
  else
    (f239 kad N Z a0 r13_3.2).bind fun r25_4 =>
    (f238 kad N Z (a0 + 25) r25_4.1 r25_4.2).bind fun r36_5 =>
    (f235 kad N Z i1 r36_5.2).bind fun r44_6 =>
    (ixA 256 ((r44_6.1 + (2 : Int32)) + ((r5_1.2 (a0 + 25) j10_2) / (8 : Int32)))).bind fun j56_8 =>
    (wI r44_6.2 (a0 + 25) j56_8 r25_4.1).bind fun I56_7 =>
    f245_b60 kad N Z N a0 i1 (r5_1.2 (a0 + 25) j10_2) r13_3.1 r25_4.1 (0 : Int32) I56_7
set_option maxRecDepth 20000 in
theorem Tf245 {kad : Nat → Nat} {N : Nat} {Z : AZ} {d : Nat} {t : Option Nat × (Nat × Nat)} (hd : 2 ≤ d) : ∀ (a0 : Nat) (ha0 : sh11 kad Z a0) (i1 : Int32) (I : AI) (r : Int32 × AI), f245 kad N Z a0 i1 I = some r → aGo kad d 245 (0, ([(0, .ref a0), (1, .int i1)], [])) (aMem Z I, t) (qI Z t r) := by
  intro a0 ha0 i1 I r h
  unfold f245 at h
  refine go_ops aMi245 1 _ (f1 := (1, ([(0, .ref a0), (1, .int i1)], [.ref a0]))) rfl ?_
  refine gg_gR (b := (a0 + 25)) aMi245 rfl rfl rfl (gR_of (sh11_z ha0) (sh11_r51 ha0)) ?_
  refine go_ops aMi245 1 _ (f1 := (5, ([(0, .ref a0), (1, .int i1)], [.int i1, .ref (a0 + 25)]))) rfl ?_
  obtain ⟨r5_1, hxr5_1, h⟩ := Option.bind_eq_some_iff.mp h
  refine gg_cs (as := [.int i1]) (r := [.ref (a0 + 25)]) aMi245 rfl rfl rfl aMi235 rfl (Nat.le_of_ble_eq_true rfl) (Nat.le_of_ble_eq_true rfl) (by omega) (Tf235 (by omega) i1 I _ hxr5_1) ?_
  show aGo kad d 245 (8, ([(0, .ref a0), (1, .int i1)], [.int r5_1.1, .ref (a0 + 25)])) (aMem Z r5_1.2, t) _
  refine go_ops aMi245 2 _ (f1 := (10, ([(0, .ref a0), (1, .int i1)], [.int (r5_1.1 + (1 : Int32)), .ref (a0 + 25)]))) rfl ?_
  obtain ⟨j10_2, hxj10_2, h⟩ := Option.bind_eq_some_iff.mp h
  refine gg_lI (Or.inl ⟨rfl, rfl⟩) aMi245 rfl (lI_of (sh11_a51 ha0) hxj10_2) ?_
  refine go_ops aMi245 2 _ (f1 := (13, ([(2, .int (r5_1.2 (a0 + 25) j10_2)), (0, .ref a0), (1, .int i1)], [.int i1]))) rfl ?_
  obtain ⟨r13_3, hxr13_3, h⟩ := Option.bind_eq_some_iff.mp h
  refine gg_cs (as := [.int i1]) (r := []) aMi245 rfl rfl rfl aMi243 rfl (Nat.le_of_ble_eq_true rfl) (Nat.le_of_ble_eq_true rfl) (by omega) (Tf243 (by omega) i1 r5_1.2 _ hxr13_3) ?_
  show aGo kad d 245 (16, ([(2, .int (r5_1.2 (a0 + 25) j10_2)), (0, .ref a0), (1, .int i1)], [.int r13_3.1])) (aMem Z r13_3.2, t) _
  refine go_ops aMi245 4 _ (f1 := (21, ([(3, .int r13_3.1), (2, .int (r5_1.2 (a0 + 25) j10_2)), (0, .ref a0), (1, .int i1)], [.int ((r5_1.2 (a0 + 25) j10_2) - (r5_1.2 (a0 + 25) j10_2) / (8 : Int32) * (8 : Int32))]))) rfl ?_
  refine gg_br (b := decide (¬ ((r5_1.2 (a0 + 25) j10_2) - (r5_1.2 (a0 + 25) j10_2) / (8 : Int32) * (8 : Int32)) = 0)) (tg := 92) (off := 71) aMi245 rfl rfl rfl rfl (fun hb => ?_) (fun hb => ?_)
  · rw [if_pos (of_decide_eq_true hb)] at h
    refine go_le (lv1 := [(0, .ref a0), (1, .int i1), (2, .int (r5_1.2 (a0 + 25) j10_2)), (3, .int r13_3.1)]) (aLe_of (show (List.map (fun q => q.1) ([(0, .ref a0), (1, .int i1), (2, .int (r5_1.2 (a0 + 25) j10_2)), (3, .int r13_3.1)] : ALv)).Nodup from (by show ([0, 1, 2, 3] : List Nat).Nodup; decide)) (aSubL_cons rfl (aSubL_cons rfl (aSubL_cons rfl (aSubL_cons rfl aSubL_nil))))) ?_
    exact Tf245_b92 hd a0 ha0 i1 (r5_1.2 (a0 + 25) j10_2) r13_3.1 r13_3.2 _ h
  · rw [if_neg (of_decide_eq_false hb)] at h
    refine go_ops aMi245 1 _ (f1 := (25, ([(3, .int r13_3.1), (2, .int (r5_1.2 (a0 + 25) j10_2)), (0, .ref a0), (1, .int i1)], [.ref a0]))) rfl ?_
    obtain ⟨r25_4, hxr25_4, h⟩ := Option.bind_eq_some_iff.mp h
    refine gg_cv (as := []) (r := []) aMi245 rfl rfl rfl aMi239 (Nat.le_of_ble_eq_true rfl) rfl (Nat.le_of_ble_eq_true rfl) (Nat.le_of_ble_eq_true rfl) (by omega) (isK_of (sh11_z ha0)) (Tf239 (by omega) a0 ha0 r13_3.2 _ hxr25_4) ?_
    show aGo kad d 245 (28, ([(3, .int r13_3.1), (2, .int (r5_1.2 (a0 + 25) j10_2)), (0, .ref a0), (1, .int i1)], [.int r25_4.1])) (aMem Z r25_4.2, t) _
    refine go_ops aMi245 2 _ (f1 := (31, ([(4, .int r25_4.1), (3, .int r13_3.1), (2, .int (r5_1.2 (a0 + 25) j10_2)), (0, .ref a0), (1, .int i1)], [.ref a0]))) rfl ?_
    refine gg_gR (b := (a0 + 25)) aMi245 rfl rfl rfl (gR_of (sh11_z ha0) (sh11_r51 ha0)) ?_
    refine go_ops aMi245 1 _ (f1 := (36, ([(4, .int r25_4.1), (3, .int r13_3.1), (2, .int (r5_1.2 (a0 + 25) j10_2)), (0, .ref a0), (1, .int i1)], [.int r25_4.1, .ref (a0 + 25)]))) rfl ?_
    obtain ⟨r36_5, hxr36_5, h⟩ := Option.bind_eq_some_iff.mp h
    refine gg_cs (as := [.ref (a0 + 25), .int r25_4.1]) (r := []) aMi245 rfl rfl rfl aMi238 rfl (Nat.le_of_ble_eq_true rfl) (Nat.le_of_ble_eq_true rfl) (by omega) (Tf238 (by omega) (a0 + 25) r25_4.1 r25_4.2 _ hxr36_5) ?_
    show aGo kad d 245 (39, ([(4, .int r25_4.1), (3, .int r13_3.1), (2, .int (r5_1.2 (a0 + 25) j10_2)), (0, .ref a0), (1, .int i1)], [])) (aMem Z r36_5.2, t) _
    refine go_ops aMi245 1 _ (f1 := (40, ([(4, .int r25_4.1), (3, .int r13_3.1), (2, .int (r5_1.2 (a0 + 25) j10_2)), (0, .ref a0), (1, .int i1)], [.ref a0]))) rfl ?_
    refine gg_gR (b := (a0 + 25)) aMi245 rfl rfl rfl (gR_of (sh11_z ha0) (sh11_r51 ha0)) ?_
    refine go_ops aMi245 1 _ (f1 := (44, ([(4, .int r25_4.1), (3, .int r13_3.1), (2, .int (r5_1.2 (a0 + 25) j10_2)), (0, .ref a0), (1, .int i1)], [.int i1, .ref (a0 + 25)]))) rfl ?_
    obtain ⟨r44_6, hxr44_6, h⟩ := Option.bind_eq_some_iff.mp h
    refine gg_cs (as := [.int i1]) (r := [.ref (a0 + 25)]) aMi245 rfl rfl rfl aMi235 rfl (Nat.le_of_ble_eq_true rfl) (Nat.le_of_ble_eq_true rfl) (by omega) (Tf235 (by omega) i1 r36_5.2 _ hxr44_6) ?_
    show aGo kad d 245 (47, ([(4, .int r25_4.1), (3, .int r13_3.1), (2, .int (r5_1.2 (a0 + 25) j10_2)), (0, .ref a0), (1, .int i1)], [.int r44_6.1, .ref (a0 + 25)])) (aMem Z r44_6.2, t) _
    refine go_ops aMi245 7 _ (f1 := (56, ([(4, .int r25_4.1), (3, .int r13_3.1), (2, .int (r5_1.2 (a0 + 25) j10_2)), (0, .ref a0), (1, .int i1)], [.int r25_4.1, .int ((r44_6.1 + (2 : Int32)) + ((r5_1.2 (a0 + 25) j10_2) / (8 : Int32))), .ref (a0 + 25)]))) rfl ?_
    obtain ⟨j56_8, hxj56_8, h⟩ := Option.bind_eq_some_iff.mp h
    obtain ⟨I56_7, hxI56_7, h⟩ := Option.bind_eq_some_iff.mp h
    refine gg_sI (Or.inl ⟨rfl, rfl⟩) aMi245 rfl (sI_of (sh11_a51 ha0) hxj56_8 hxI56_7) ?_
    refine go_ops aMi245 2 _ (f1 := (60, ([(5, .int (0 : Int32)), (4, .int r25_4.1), (3, .int r13_3.1), (2, .int (r5_1.2 (a0 + 25) j10_2)), (0, .ref a0), (1, .int i1)], []))) rfl ?_
    refine go_le (lv1 := [(0, .ref a0), (1, .int i1), (2, .int (r5_1.2 (a0 + 25) j10_2)), (3, .int r13_3.1), (4, .int r25_4.1), (5, .int (0 : Int32))]) (aLe_of (show (List.map (fun q => q.1) ([(0, .ref a0), (1, .int i1), (2, .int (r5_1.2 (a0 + 25) j10_2)), (3, .int r13_3.1), (4, .int r25_4.1), (5, .int (0 : Int32))] : ALv)).Nodup from (by show ([0, 1, 2, 3, 4, 5] : List Nat).Nodup; decide)) (aSubL_cons rfl (aSubL_cons rfl (aSubL_cons rfl (aSubL_cons rfl (aSubL_cons rfl (aSubL_cons rfl aSubL_nil))))))) ?_
    exact Tf245_b60 hd N a0 ha0 i1 (r5_1.2 (a0 + 25) j10_2) r13_3.1 r25_4.1 (0 : Int32) I56_7 _ h
-- KernelGymModel.replaces (I)I
def f246 (kad : Nat → Nat) (N : Nat) (Z : AZ) (a0 : Nat) (i1 : Int32) (I : AI) : Option (Int32 × AI) :=
  (ixA 4 (1 : Int32)).bind fun j11_1 =>
  (f241 kad N Z a0 (a0 + 25) i1 (I (a0 + 16) j11_1) I).bind fun r12_2 =>
  (ixA 4 (1 : Int32)).bind fun j29_3 =>
  (ixA 4 (2 : Int32)).bind fun j39_4 =>
  (ixA 256 (((8 : Int32) * r12_2.1) + ((r12_2.2 (a0 + 16) j29_3) - (r12_2.2 (a0 + 16) j29_3) / (8 : Int32) * (8 : Int32)))).bind fun j40_6 =>
  (wI r12_2.2 (a0 + 25) j40_6 (r12_2.2 (a0 + 16) j39_4)).bind fun I40_5 =>
  some (((1 : Int32) <<< (r12_2.1 &&& 31)), I40_5)
set_option maxRecDepth 20000 in
theorem Tf246 {kad : Nat → Nat} {N : Nat} {Z : AZ} {d : Nat} {t : Option Nat × (Nat × Nat)} (hd : 2 ≤ d) : ∀ (a0 : Nat) (ha0 : sh11 kad Z a0) (i1 : Int32) (I : AI) (r : Int32 × AI), f246 kad N Z a0 i1 I = some r → aGo kad d 246 (0, ([(0, .ref a0), (1, .int i1)], [])) (aMem Z I, t) (qI Z t r) := by
  intro a0 ha0 i1 I r h
  unfold f246 at h
  refine go_ops aMi246 2 _ (f1 := (2, ([(0, .ref a0), (1, .int i1)], [.ref a0, .ref a0]))) rfl ?_
  refine gg_gR (b := (a0 + 25)) aMi246 rfl rfl rfl (gR_of (sh11_z ha0) (sh11_r51 ha0)) ?_
  refine go_ops aMi246 2 _ (f1 := (7, ([(0, .ref a0), (1, .int i1)], [.ref a0, .int i1, .ref (a0 + 25), .ref a0]))) rfl ?_
  refine gg_gR (b := (a0 + 16)) aMi246 rfl rfl rfl (gR_of (sh11_z ha0) (sh11_r26 ha0)) ?_
  refine go_ops aMi246 1 _ (f1 := (11, ([(0, .ref a0), (1, .int i1)], [.int (1 : Int32), .ref (a0 + 16), .int i1, .ref (a0 + 25), .ref a0]))) rfl ?_
  obtain ⟨j11_1, hxj11_1, h⟩ := Option.bind_eq_some_iff.mp h
  refine gg_lI (Or.inl ⟨rfl, rfl⟩) aMi246 rfl (lI_of (sh11_a26 ha0) hxj11_1) ?_
  obtain ⟨r12_2, hxr12_2, h⟩ := Option.bind_eq_some_iff.mp h
  refine gg_cv (as := [.ref (a0 + 25), .int i1, .int (I (a0 + 16) j11_1)]) (r := []) aMi246 rfl rfl rfl aMi241 (Nat.le_of_ble_eq_true rfl) rfl (Nat.le_of_ble_eq_true rfl) (Nat.le_of_ble_eq_true rfl) (by omega) (isK_of (sh11_z ha0)) (Tf241 (by omega) a0 ha0 (a0 + 25) i1 (I (a0 + 16) j11_1) I _ hxr12_2) ?_
  show aGo kad d 246 (15, ([(0, .ref a0), (1, .int i1)], [.int r12_2.1])) (aMem Z r12_2.2, t) _
  refine go_ops aMi246 2 _ (f1 := (17, ([(2, .int r12_2.1), (0, .ref a0), (1, .int i1)], [.ref a0]))) rfl ?_
  refine gg_gR (b := (a0 + 25)) aMi246 rfl rfl rfl (gR_of (sh11_z ha0) (sh11_r51 ha0)) ?_
  refine go_ops aMi246 4 _ (f1 := (25, ([(2, .int r12_2.1), (0, .ref a0), (1, .int i1)], [.ref a0, .int ((8 : Int32) * r12_2.1), .ref (a0 + 25)]))) rfl ?_
  refine gg_gR (b := (a0 + 16)) aMi246 rfl rfl rfl (gR_of (sh11_z ha0) (sh11_r26 ha0)) ?_
  refine go_ops aMi246 1 _ (f1 := (29, ([(2, .int r12_2.1), (0, .ref a0), (1, .int i1)], [.int (1 : Int32), .ref (a0 + 16), .int ((8 : Int32) * r12_2.1), .ref (a0 + 25)]))) rfl ?_
  obtain ⟨j29_3, hxj29_3, h⟩ := Option.bind_eq_some_iff.mp h
  refine gg_lI (Or.inl ⟨rfl, rfl⟩) aMi246 rfl (lI_of (sh11_a26 ha0) hxj29_3) ?_
  refine go_ops aMi246 4 _ (f1 := (35, ([(2, .int r12_2.1), (0, .ref a0), (1, .int i1)], [.ref a0, .int (((8 : Int32) * r12_2.1) + ((r12_2.2 (a0 + 16) j29_3) - (r12_2.2 (a0 + 16) j29_3) / (8 : Int32) * (8 : Int32))), .ref (a0 + 25)]))) rfl ?_
  refine gg_gR (b := (a0 + 16)) aMi246 rfl rfl rfl (gR_of (sh11_z ha0) (sh11_r26 ha0)) ?_
  refine go_ops aMi246 1 _ (f1 := (39, ([(2, .int r12_2.1), (0, .ref a0), (1, .int i1)], [.int (2 : Int32), .ref (a0 + 16), .int (((8 : Int32) * r12_2.1) + ((r12_2.2 (a0 + 16) j29_3) - (r12_2.2 (a0 + 16) j29_3) / (8 : Int32) * (8 : Int32))), .ref (a0 + 25)]))) rfl ?_
  obtain ⟨j39_4, hxj39_4, h⟩ := Option.bind_eq_some_iff.mp h
  refine gg_lI (Or.inl ⟨rfl, rfl⟩) aMi246 rfl (lI_of (sh11_a26 ha0) hxj39_4) ?_
  obtain ⟨j40_6, hxj40_6, h⟩ := Option.bind_eq_some_iff.mp h
  obtain ⟨I40_5, hxI40_5, h⟩ := Option.bind_eq_some_iff.mp h
  refine gg_sI (Or.inl ⟨rfl, rfl⟩) aMi246 rfl (sI_of (sh11_a51 ha0) hxj40_6 hxI40_5) ?_
  refine go_ops aMi246 3 _ (f1 := (44, ([(2, .int r12_2.1), (0, .ref a0), (1, .int i1)], [.int ((1 : Int32) <<< (r12_2.1 &&& 31))]))) rfl ?_
  cases h
  exact go_ret aMi246 rfl aRetI ⟨rfl, rfl⟩
-- KernelGymModel.removes (I)I
def f247_b44 (kad : Nat → Nat) (N : Nat) (Z : AZ) (k7 : Nat → Int32 → Int32 → Int32 → AI → Option (Int32 × AI)) (a0 : Nat) (i1 : Int32) (i2 : Int32) (i3 : Int32) (I : AI) : Option (Int32 × AI) :=
  k7 a0 i1 i2 (i3 + (1 : Int32)) I
set_option maxRecDepth 20000 in
theorem Tf247_b44 {kad : Nat → Nat} {N : Nat} {Z : AZ} {d : Nat} {t : Option Nat × (Nat × Nat)} (hd : 1 ≤ d) (k7 : Nat → Int32 → Int32 → Int32 → AI → Option (Int32 × AI))  (hk7 : ∀ (a0 : Nat) (ha0 : sh11 kad Z a0) (i1 : Int32) (i2 : Int32) (i3 : Int32) (I : AI) (r : Int32 × AI), k7 a0 i1 i2 i3 I = some r → aGo kad d 247 (7, ([(0, .ref a0), (1, .int i1), (2, .int i2), (3, .int i3)], [])) (aMem Z I, t) (qI Z t r)) : ∀ (a0 : Nat) (ha0 : sh11 kad Z a0) (i1 : Int32) (i2 : Int32) (i3 : Int32) (I : AI) (r : Int32 × AI), f247_b44 kad N Z k7 a0 i1 i2 i3 I = some r → aGo kad d 247 (44, ([(0, .ref a0), (1, .int i1), (2, .int i2), (3, .int i3)], [])) (aMem Z I, t) (qI Z t r) := by
  intro a0 ha0 i1 i2 i3 I r h
  unfold f247_b44 at h
  refine go_ops aMi247 2 _ (f1 := (7, ([(3, .int (i3 + (1 : Int32))), (0, .ref a0), (1, .int i1), (2, .int i2)], []))) rfl ?_
  refine go_le (lv1 := [(0, .ref a0), (1, .int i1), (2, .int i2), (3, .int (i3 + (1 : Int32)))]) (aLe_of (show (List.map (fun q => q.1) ([(0, .ref a0), (1, .int i1), (2, .int i2), (3, .int (i3 + (1 : Int32)))] : ALv)).Nodup from (by show ([0, 1, 2, 3] : List Nat).Nodup; decide)) (aSubL_cons rfl (aSubL_cons rfl (aSubL_cons rfl (aSubL_cons rfl aSubL_nil))))) ?_
  exact hk7 a0 ha0 i1 i2 (i3 + (1 : Int32)) I _ h
def f247_b52 (kad : Nat → Nat) (N : Nat) (Z : AZ) : Nat → Nat → Int32 → Int32 → Int32 → AI → Option (Int32 × AI)
  | 0, _, _, _, _, _ => none
  | F + 1, a0, i1, i2, i3, I =>
    if (4 : Int32) ≤ i3 then
      some (i2, I)
    else
      (f235 kad N Z i1 I).bind fun r62_1 =>
      (ixA 256 (r62_1.1 + i3)).bind fun j68_3 =>
      (wI r62_1.2 (a0 + 25) j68_3 (0 : Int32)).bind fun I68_2 =>
      f247_b52 kad N Z F a0 i1 i2 (i3 + (1 : Int32)) I68_2
set_option maxRecDepth 20000 in
theorem Tf247_b52 {kad : Nat → Nat} {N : Nat} {Z : AZ} {d : Nat} {t : Option Nat × (Nat × Nat)} (hd : 1 ≤ d) : ∀ (F : Nat) (a0 : Nat) (ha0 : sh11 kad Z a0) (i1 : Int32) (i2 : Int32) (i3 : Int32) (I : AI) (r : Int32 × AI), f247_b52 kad N Z F a0 i1 i2 i3 I = some r → aGo kad d 247 (52, ([(0, .ref a0), (1, .int i1), (2, .int i2), (3, .int i3)], [])) (aMem Z I, t) (qI Z t r) := by
  intro F
  induction F with
  | zero => intro a0 ha0 i1 i2 i3 I r h; cases h
  | succ F ih =>
    intro a0 ha0 i1 i2 i3 I r h
    unfold f247_b52 at h
    refine go_ops aMi247 2 _ (f1 := (54, ([(0, .ref a0), (1, .int i1), (2, .int i2), (3, .int i3)], [.int (4 : Int32), .int i3]))) rfl ?_
    refine gg_br (b := decide ((4 : Int32) ≤ i3)) (tg := 75) (off := 21) aMi247 rfl rfl rfl rfl (fun hb => ?_) (fun hb => ?_)
    · rw [if_pos (of_decide_eq_true hb)] at h
      refine go_ops aMi247 1 _ (f1 := (76, ([(0, .ref a0), (1, .int i1), (2, .int i2), (3, .int i3)], [.int i2]))) rfl ?_
      cases h
      exact go_ret aMi247 rfl aRetI ⟨rfl, rfl⟩
    · rw [if_neg (of_decide_eq_false hb)] at h
      refine go_ops aMi247 1 _ (f1 := (58, ([(0, .ref a0), (1, .int i1), (2, .int i2), (3, .int i3)], [.ref a0]))) rfl ?_
      refine gg_gR (b := (a0 + 25)) aMi247 rfl rfl rfl (gR_of (sh11_z ha0) (sh11_r51 ha0)) ?_
      refine go_ops aMi247 1 _ (f1 := (62, ([(0, .ref a0), (1, .int i1), (2, .int i2), (3, .int i3)], [.int i1, .ref (a0 + 25)]))) rfl ?_
      obtain ⟨r62_1, hxr62_1, h⟩ := Option.bind_eq_some_iff.mp h
      refine gg_cs (as := [.int i1]) (r := [.ref (a0 + 25)]) aMi247 rfl rfl rfl aMi235 rfl (Nat.le_of_ble_eq_true rfl) (Nat.le_of_ble_eq_true rfl) (by omega) (Tf235 (by omega) i1 I _ hxr62_1) ?_
      show aGo kad d 247 (65, ([(0, .ref a0), (1, .int i1), (2, .int i2), (3, .int i3)], [.int r62_1.1, .ref (a0 + 25)])) (aMem Z r62_1.2, t) _
      refine go_ops aMi247 3 _ (f1 := (68, ([(0, .ref a0), (1, .int i1), (2, .int i2), (3, .int i3)], [.int (0 : Int32), .int (r62_1.1 + i3), .ref (a0 + 25)]))) rfl ?_
      obtain ⟨j68_3, hxj68_3, h⟩ := Option.bind_eq_some_iff.mp h
      obtain ⟨I68_2, hxI68_2, h⟩ := Option.bind_eq_some_iff.mp h
      refine gg_sI (Or.inl ⟨rfl, rfl⟩) aMi247 rfl (sI_of (sh11_a51 ha0) hxj68_3 hxI68_2) ?_
      refine go_ops aMi247 2 _ (f1 := (52, ([(3, .int (i3 + (1 : Int32))), (0, .ref a0), (1, .int i1), (2, .int i2)], []))) rfl ?_
      refine go_le (lv1 := [(0, .ref a0), (1, .int i1), (2, .int i2), (3, .int (i3 + (1 : Int32)))]) (aLe_of (show (List.map (fun q => q.1) ([(0, .ref a0), (1, .int i1), (2, .int i2), (3, .int (i3 + (1 : Int32)))] : ALv)).Nodup from (by show ([0, 1, 2, 3] : List Nat).Nodup; decide)) (aSubL_cons rfl (aSubL_cons rfl (aSubL_cons rfl (aSubL_cons rfl aSubL_nil))))) ?_
      exact ih a0 ha0 i1 i2 (i3 + (1 : Int32)) I68_2 _ h
def f247_b7 (kad : Nat → Nat) (N : Nat) (Z : AZ) : Nat → Nat → Int32 → Int32 → Int32 → AI → Option (Int32 × AI)
  | 0, _, _, _, _, _ => none
  | F + 1, a0, i1, i2, i3, I =>
    if (4 : Int32) ≤ i3 then
      f247_b52 kad N Z N a0 i1 i2 (0 : Int32) I
    else
      (f235 kad N Z i1 I).bind fun r17_1 =>
      (ixA 256 (r17_1.1 + i3)).bind fun j22_2 =>
      if (r17_1.2 (a0 + 25) j22_2) = 0 then
        f247_b44 kad N Z (fun p0 p1 p2 p3 I => f247_b7 kad N Z F p0 p1 p2 p3 I) a0 i1 i2 i3 r17_1.2
      else
        (f238 kad N Z (a0 + 25) (r17_1.2 (a0 + 25) j22_2) r17_1.2).bind fun r36_3 =>
        f247_b44 kad N Z (fun p0 p1 p2 p3 I => f247_b7 kad N Z F p0 p1 p2 p3 I) a0 i1 (i2 ||| (16 : Int32)) i3 r36_3.2
set_option maxRecDepth 20000 in
theorem Tf247_b7 {kad : Nat → Nat} {N : Nat} {Z : AZ} {d : Nat} {t : Option Nat × (Nat × Nat)} (hd : 1 ≤ d) : ∀ (F : Nat) (a0 : Nat) (ha0 : sh11 kad Z a0) (i1 : Int32) (i2 : Int32) (i3 : Int32) (I : AI) (r : Int32 × AI), f247_b7 kad N Z F a0 i1 i2 i3 I = some r → aGo kad d 247 (7, ([(0, .ref a0), (1, .int i1), (2, .int i2), (3, .int i3)], [])) (aMem Z I, t) (qI Z t r) := by
  intro F
  induction F with
  | zero => intro a0 ha0 i1 i2 i3 I r h; cases h
  | succ F ih =>
    intro a0 ha0 i1 i2 i3 I r h
    unfold f247_b7 at h
    refine go_ops aMi247 2 _ (f1 := (9, ([(0, .ref a0), (1, .int i1), (2, .int i2), (3, .int i3)], [.int (4 : Int32), .int i3]))) rfl ?_
    refine gg_br (b := decide ((4 : Int32) ≤ i3)) (tg := 50) (off := 41) aMi247 rfl rfl rfl rfl (fun hb => ?_) (fun hb => ?_)
    · rw [if_pos (of_decide_eq_true hb)] at h
      refine go_ops aMi247 2 _ (f1 := (52, ([(3, .int (0 : Int32)), (0, .ref a0), (1, .int i1), (2, .int i2)], []))) rfl ?_
      refine go_le (lv1 := [(0, .ref a0), (1, .int i1), (2, .int i2), (3, .int (0 : Int32))]) (aLe_of (show (List.map (fun q => q.1) ([(0, .ref a0), (1, .int i1), (2, .int i2), (3, .int (0 : Int32))] : ALv)).Nodup from (by show ([0, 1, 2, 3] : List Nat).Nodup; decide)) (aSubL_cons rfl (aSubL_cons rfl (aSubL_cons rfl (aSubL_cons rfl aSubL_nil))))) ?_
      exact Tf247_b52 hd N a0 ha0 i1 i2 (0 : Int32) I _ h
    · rw [if_neg (of_decide_eq_false hb)] at h
      refine go_ops aMi247 1 _ (f1 := (13, ([(0, .ref a0), (1, .int i1), (2, .int i2), (3, .int i3)], [.ref a0]))) rfl ?_
      refine gg_gR (b := (a0 + 25)) aMi247 rfl rfl rfl (gR_of (sh11_z ha0) (sh11_r51 ha0)) ?_
      refine go_ops aMi247 1 _ (f1 := (17, ([(0, .ref a0), (1, .int i1), (2, .int i2), (3, .int i3)], [.int i1, .ref (a0 + 25)]))) rfl ?_
      obtain ⟨r17_1, hxr17_1, h⟩ := Option.bind_eq_some_iff.mp h
      refine gg_cs (as := [.int i1]) (r := [.ref (a0 + 25)]) aMi247 rfl rfl rfl aMi235 rfl (Nat.le_of_ble_eq_true rfl) (Nat.le_of_ble_eq_true rfl) (by omega) (Tf235 (by omega) i1 I _ hxr17_1) ?_
      show aGo kad d 247 (20, ([(0, .ref a0), (1, .int i1), (2, .int i2), (3, .int i3)], [.int r17_1.1, .ref (a0 + 25)])) (aMem Z r17_1.2, t) _
      refine go_ops aMi247 2 _ (f1 := (22, ([(0, .ref a0), (1, .int i1), (2, .int i2), (3, .int i3)], [.int (r17_1.1 + i3), .ref (a0 + 25)]))) rfl ?_
      obtain ⟨j22_2, hxj22_2, h⟩ := Option.bind_eq_some_iff.mp h
      refine gg_lI (Or.inl ⟨rfl, rfl⟩) aMi247 rfl (lI_of (sh11_a51 ha0) hxj22_2) ?_
      refine go_ops aMi247 2 _ (f1 := (27, ([(4, .int (r17_1.2 (a0 + 25) j22_2)), (0, .ref a0), (1, .int i1), (2, .int i2), (3, .int i3)], [.int (r17_1.2 (a0 + 25) j22_2)]))) rfl ?_
      refine gg_br (b := decide ((r17_1.2 (a0 + 25) j22_2) = 0)) (tg := 44) (off := 17) aMi247 rfl rfl rfl rfl (fun hb => ?_) (fun hb => ?_)
      · rw [if_pos (of_decide_eq_true hb)] at h
        refine go_le (lv1 := [(0, .ref a0), (1, .int i1), (2, .int i2), (3, .int i3)]) (aLe_of (show (List.map (fun q => q.1) ([(0, .ref a0), (1, .int i1), (2, .int i2), (3, .int i3)] : ALv)).Nodup from (by show ([0, 1, 2, 3] : List Nat).Nodup; decide)) (aSubL_cons rfl (aSubL_cons rfl (aSubL_cons rfl (aSubL_cons rfl aSubL_nil))))) ?_
        exact Tf247_b44 hd (fun p0 p1 p2 p3 I => f247_b7 kad N Z F p0 p1 p2 p3 I) (fun p0 q0 p1 p2 p3 I r hh => ih p0 q0 p1 p2 p3 I r hh) a0 ha0 i1 i2 i3 r17_1.2 _ h
      · rw [if_neg (of_decide_eq_false hb)] at h
        refine go_ops aMi247 1 _ (f1 := (31, ([(4, .int (r17_1.2 (a0 + 25) j22_2)), (0, .ref a0), (1, .int i1), (2, .int i2), (3, .int i3)], [.ref a0]))) rfl ?_
        refine gg_gR (b := (a0 + 25)) aMi247 rfl rfl rfl (gR_of (sh11_z ha0) (sh11_r51 ha0)) ?_
        refine go_ops aMi247 1 _ (f1 := (36, ([(4, .int (r17_1.2 (a0 + 25) j22_2)), (0, .ref a0), (1, .int i1), (2, .int i2), (3, .int i3)], [.int (r17_1.2 (a0 + 25) j22_2), .ref (a0 + 25)]))) rfl ?_
        obtain ⟨r36_3, hxr36_3, h⟩ := Option.bind_eq_some_iff.mp h
        refine gg_cs (as := [.ref (a0 + 25), .int (r17_1.2 (a0 + 25) j22_2)]) (r := []) aMi247 rfl rfl rfl aMi238 rfl (Nat.le_of_ble_eq_true rfl) (Nat.le_of_ble_eq_true rfl) (by omega) (Tf238 (by omega) (a0 + 25) (r17_1.2 (a0 + 25) j22_2) r17_1.2 _ hxr36_3) ?_
        show aGo kad d 247 (39, ([(4, .int (r17_1.2 (a0 + 25) j22_2)), (0, .ref a0), (1, .int i1), (2, .int i2), (3, .int i3)], [])) (aMem Z r36_3.2, t) _
        refine go_ops aMi247 4 _ (f1 := (44, ([(2, .int (i2 ||| (16 : Int32))), (4, .int (r17_1.2 (a0 + 25) j22_2)), (0, .ref a0), (1, .int i1), (3, .int i3)], []))) rfl ?_
        refine go_le (lv1 := [(0, .ref a0), (1, .int i1), (2, .int (i2 ||| (16 : Int32))), (3, .int i3)]) (aLe_of (show (List.map (fun q => q.1) ([(0, .ref a0), (1, .int i1), (2, .int (i2 ||| (16 : Int32))), (3, .int i3)] : ALv)).Nodup from (by show ([0, 1, 2, 3] : List Nat).Nodup; decide)) (aSubL_cons rfl (aSubL_cons rfl (aSubL_cons rfl (aSubL_cons rfl aSubL_nil))))) ?_
        exact Tf247_b44 hd (fun p0 p1 p2 p3 I => f247_b7 kad N Z F p0 p1 p2 p3 I) (fun p0 q0 p1 p2 p3 I r hh => ih p0 q0 p1 p2 p3 I r hh) a0 ha0 i1 (i2 ||| (16 : Int32)) i3 r36_3.2 _ h
def f247 (kad : Nat → Nat) (N : Nat) (Z : AZ) (a0 : Nat) (i1 : Int32) (I : AI) : Option (Int32 × AI) :=
  (f243 kad N Z i1 I).bind fun r1_1 =>
  f247_b7 kad N Z N a0 i1 r1_1.1 (2 : Int32) r1_1.2
set_option maxRecDepth 20000 in
theorem Tf247 {kad : Nat → Nat} {N : Nat} {Z : AZ} {d : Nat} {t : Option Nat × (Nat × Nat)} (hd : 1 ≤ d) : ∀ (a0 : Nat) (ha0 : sh11 kad Z a0) (i1 : Int32) (I : AI) (r : Int32 × AI), f247 kad N Z a0 i1 I = some r → aGo kad d 247 (0, ([(0, .ref a0), (1, .int i1)], [])) (aMem Z I, t) (qI Z t r) := by
  intro a0 ha0 i1 I r h
  unfold f247 at h
  refine go_ops aMi247 1 _ (f1 := (1, ([(0, .ref a0), (1, .int i1)], [.int i1]))) rfl ?_
  obtain ⟨r1_1, hxr1_1, h⟩ := Option.bind_eq_some_iff.mp h
  refine gg_cs (as := [.int i1]) (r := []) aMi247 rfl rfl rfl aMi243 rfl (Nat.le_of_ble_eq_true rfl) (Nat.le_of_ble_eq_true rfl) (by omega) (Tf243 (by omega) i1 I _ hxr1_1) ?_
  show aGo kad d 247 (4, ([(0, .ref a0), (1, .int i1)], [.int r1_1.1])) (aMem Z r1_1.2, t) _
  refine go_ops aMi247 3 _ (f1 := (7, ([(3, .int (2 : Int32)), (2, .int r1_1.1), (0, .ref a0), (1, .int i1)], []))) rfl ?_
  refine go_le (lv1 := [(0, .ref a0), (1, .int i1), (2, .int r1_1.1), (3, .int (2 : Int32))]) (aLe_of (show (List.map (fun q => q.1) ([(0, .ref a0), (1, .int i1), (2, .int r1_1.1), (3, .int (2 : Int32))] : ALv)).Nodup from (by show ([0, 1, 2, 3] : List Nat).Nodup; decide)) (aSubL_cons rfl (aSubL_cons rfl (aSubL_cons rfl (aSubL_cons rfl aSubL_nil))))) ?_
  exact Tf247_b7 hd N a0 ha0 i1 r1_1.1 (2 : Int32) r1_1.2 _ h
-- KernelGymModel.renames (I)I
def f248_b28 (kad : Nat → Nat) (N : Nat) (Z : AZ) (a0 : Nat) (i1 : Int32) (s0 : Int32) (I : AI) : Option (Int32 × AI) :=
  (f235 kad N Z i1 I).bind fun r34_1 =>
  (ixA 4 (1 : Int32)).bind fun j42_2 =>
  (ixA 256 r34_1.1).bind fun j43_4 =>
  (wI r34_1.2 (a0 + 25) j43_4 (r34_1.2 (a0 + 16) j42_2)).bind fun I43_3 =>
  (f243 kad N Z i1 I43_3).bind fun r46_5 =>
  some ((s0 ||| r46_5.1), r46_5.2)
set_option maxRecDepth 20000 in
theorem Tf248_b28 {kad : Nat → Nat} {N : Nat} {Z : AZ} {d : Nat} {t : Option Nat × (Nat × Nat)} (hd : 2 ≤ d) : ∀ (a0 : Nat) (ha0 : sh11 kad Z a0) (i1 : Int32) (s0 : Int32) (I : AI) (r : Int32 × AI), f248_b28 kad N Z a0 i1 s0 I = some r → aGo kad d 248 (28, ([(0, .ref a0), (1, .int i1)], [.int s0])) (aMem Z I, t) (qI Z t r) := by
  intro a0 ha0 i1 s0 I r h
  unfold f248_b28 at h
  refine go_ops aMi248 2 _ (f1 := (30, ([(3, .int s0), (0, .ref a0), (1, .int i1)], [.ref a0]))) rfl ?_
  refine gg_gR (b := (a0 + 25)) aMi248 rfl rfl rfl (gR_of (sh11_z ha0) (sh11_r51 ha0)) ?_
  refine go_ops aMi248 1 _ (f1 := (34, ([(3, .int s0), (0, .ref a0), (1, .int i1)], [.int i1, .ref (a0 + 25)]))) rfl ?_
  obtain ⟨r34_1, hxr34_1, h⟩ := Option.bind_eq_some_iff.mp h
  refine gg_cs (as := [.int i1]) (r := [.ref (a0 + 25)]) aMi248 rfl rfl rfl aMi235 rfl (Nat.le_of_ble_eq_true rfl) (Nat.le_of_ble_eq_true rfl) (by omega) (Tf235 (by omega) i1 I _ hxr34_1) ?_
  show aGo kad d 248 (37, ([(3, .int s0), (0, .ref a0), (1, .int i1)], [.int r34_1.1, .ref (a0 + 25)])) (aMem Z r34_1.2, t) _
  refine go_ops aMi248 1 _ (f1 := (38, ([(3, .int s0), (0, .ref a0), (1, .int i1)], [.ref a0, .int r34_1.1, .ref (a0 + 25)]))) rfl ?_
  refine gg_gR (b := (a0 + 16)) aMi248 rfl rfl rfl (gR_of (sh11_z ha0) (sh11_r26 ha0)) ?_
  refine go_ops aMi248 1 _ (f1 := (42, ([(3, .int s0), (0, .ref a0), (1, .int i1)], [.int (1 : Int32), .ref (a0 + 16), .int r34_1.1, .ref (a0 + 25)]))) rfl ?_
  obtain ⟨j42_2, hxj42_2, h⟩ := Option.bind_eq_some_iff.mp h
  refine gg_lI (Or.inl ⟨rfl, rfl⟩) aMi248 rfl (lI_of (sh11_a26 ha0) hxj42_2) ?_
  obtain ⟨j43_4, hxj43_4, h⟩ := Option.bind_eq_some_iff.mp h
  obtain ⟨I43_3, hxI43_3, h⟩ := Option.bind_eq_some_iff.mp h
  refine gg_sI (Or.inl ⟨rfl, rfl⟩) aMi248 rfl (sI_of (sh11_a51 ha0) hxj43_4 hxI43_3) ?_
  refine go_ops aMi248 2 _ (f1 := (46, ([(3, .int s0), (0, .ref a0), (1, .int i1)], [.int i1, .int s0]))) rfl ?_
  obtain ⟨r46_5, hxr46_5, h⟩ := Option.bind_eq_some_iff.mp h
  refine gg_cs (as := [.int i1]) (r := [.int s0]) aMi248 rfl rfl rfl aMi243 rfl (Nat.le_of_ble_eq_true rfl) (Nat.le_of_ble_eq_true rfl) (by omega) (Tf243 (by omega) i1 I43_3 _ hxr46_5) ?_
  show aGo kad d 248 (49, ([(3, .int s0), (0, .ref a0), (1, .int i1)], [.int r46_5.1, .int s0])) (aMem Z r46_5.2, t) _
  refine go_ops aMi248 1 _ (f1 := (50, ([(3, .int s0), (0, .ref a0), (1, .int i1)], [.int (s0 ||| r46_5.1)]))) rfl ?_
  cases h
  exact go_ret aMi248 rfl aRetI ⟨rfl, rfl⟩
def f248 (kad : Nat → Nat) (N : Nat) (Z : AZ) (a0 : Nat) (i1 : Int32) (I : AI) : Option (Int32 × AI) :=
  (ixA 4 (1 : Int32)).bind fun j9_1 =>
  (f236 kad N Z (a0 + 24) (I (a0 + 16) j9_1) I).bind fun r10_2 =>
  if ¬ r10_2.1 = (Int32.ofInt (-1)) then
    (f247 kad N Z a0 r10_2.1 r10_2.2).bind fun r25_3 =>
    f248_b28 kad N Z a0 i1 r25_3.1 r25_3.2
  else
    f248_b28 kad N Z a0 i1 (0 : Int32) r10_2.2
set_option maxRecDepth 20000 in
theorem Tf248 {kad : Nat → Nat} {N : Nat} {Z : AZ} {d : Nat} {t : Option Nat × (Nat × Nat)} (hd : 2 ≤ d) : ∀ (a0 : Nat) (ha0 : sh11 kad Z a0) (i1 : Int32) (I : AI) (r : Int32 × AI), f248 kad N Z a0 i1 I = some r → aGo kad d 248 (0, ([(0, .ref a0), (1, .int i1)], [])) (aMem Z I, t) (qI Z t r) := by
  intro a0 ha0 i1 I r h
  unfold f248 at h
  refine go_ops aMi248 1 _ (f1 := (1, ([(0, .ref a0), (1, .int i1)], [.ref a0]))) rfl ?_
  refine gg_gR (b := (a0 + 24)) aMi248 rfl rfl rfl (gR_of (sh11_z ha0) (sh11_r50 ha0)) ?_
  refine go_ops aMi248 1 _ (f1 := (5, ([(0, .ref a0), (1, .int i1)], [.ref a0, .ref (a0 + 24)]))) rfl ?_
  refine gg_gR (b := (a0 + 16)) aMi248 rfl rfl rfl (gR_of (sh11_z ha0) (sh11_r26 ha0)) ?_
  refine go_ops aMi248 1 _ (f1 := (9, ([(0, .ref a0), (1, .int i1)], [.int (1 : Int32), .ref (a0 + 16), .ref (a0 + 24)]))) rfl ?_
  obtain ⟨j9_1, hxj9_1, h⟩ := Option.bind_eq_some_iff.mp h
  refine gg_lI (Or.inl ⟨rfl, rfl⟩) aMi248 rfl (lI_of (sh11_a26 ha0) hxj9_1) ?_
  obtain ⟨r10_2, hxr10_2, h⟩ := Option.bind_eq_some_iff.mp h
  refine gg_cs (as := [.ref (a0 + 24), .int (I (a0 + 16) j9_1)]) (r := []) aMi248 rfl rfl rfl aMi236 rfl (Nat.le_of_ble_eq_true rfl) (Nat.le_of_ble_eq_true rfl) (by omega) (Tf236 (by omega) (a0 + 24) (I (a0 + 16) j9_1) I _ hxr10_2) ?_
  show aGo kad d 248 (13, ([(0, .ref a0), (1, .int i1)], [.int r10_2.1])) (aMem Z r10_2.2, t) _
  refine go_ops aMi248 3 _ (f1 := (16, ([(2, .int r10_2.1), (0, .ref a0), (1, .int i1)], [.int (Int32.ofInt (-1)), .int r10_2.1]))) rfl ?_
  refine gg_br (b := decide (¬ r10_2.1 = (Int32.ofInt (-1)))) (tg := 23) (off := 7) aMi248 rfl rfl rfl rfl (fun hb => ?_) (fun hb => ?_)
  · rw [if_pos (of_decide_eq_true hb)] at h
    refine go_ops aMi248 2 _ (f1 := (25, ([(2, .int r10_2.1), (0, .ref a0), (1, .int i1)], [.int r10_2.1, .ref a0]))) rfl ?_
    obtain ⟨r25_3, hxr25_3, h⟩ := Option.bind_eq_some_iff.mp h
    refine gg_cv (as := [.int r10_2.1]) (r := []) aMi248 rfl rfl rfl aMi247 (Nat.le_of_ble_eq_true rfl) rfl (Nat.le_of_ble_eq_true rfl) (Nat.le_of_ble_eq_true rfl) (by omega) (isK_of (sh11_z ha0)) (Tf247 (by omega) a0 ha0 r10_2.1 r10_2.2 _ hxr25_3) ?_
    show aGo kad d 248 (28, ([(2, .int r10_2.1), (0, .ref a0), (1, .int i1)], [.int r25_3.1])) (aMem Z r25_3.2, t) _
    refine go_le (lv1 := [(0, .ref a0), (1, .int i1)]) (aLe_of (show (List.map (fun q => q.1) ([(0, .ref a0), (1, .int i1)] : ALv)).Nodup from (by show ([0, 1] : List Nat).Nodup; decide)) (aSubL_cons rfl (aSubL_cons rfl aSubL_nil))) ?_
    exact Tf248_b28 hd a0 ha0 i1 r25_3.1 r25_3.2 _ h
  · rw [if_neg (of_decide_eq_false hb)] at h
    refine go_ops aMi248 2 _ (f1 := (28, ([(2, .int r10_2.1), (0, .ref a0), (1, .int i1)], [.int (0 : Int32)]))) rfl ?_
    refine go_le (lv1 := [(0, .ref a0), (1, .int i1)]) (aLe_of (show (List.map (fun q => q.1) ([(0, .ref a0), (1, .int i1)] : ALv)).Nodup from (by show ([0, 1] : List Nat).Nodup; decide)) (aSubL_cons rfl (aSubL_cons rfl aSubL_nil))) ?_
    exact Tf248_b28 hd a0 ha0 i1 (0 : Int32) r10_2.2 _ h
-- KernelGymModel.prepares (I)V
def f249_b81 (kad : Nat → Nat) (N : Nat) (Z : AZ) (k7 : Nat → Int32 → Int32 → AI → Option (Unit × AI)) (a0 : Nat) (i1 : Int32) (i2 : Int32) (I : AI) : Option (Unit × AI) :=
  k7 a0 i1 (i2 + (1 : Int32)) I
set_option maxRecDepth 20000 in
theorem Tf249_b81 {kad : Nat → Nat} {N : Nat} {Z : AZ} {d : Nat} {t : Option Nat × (Nat × Nat)} (hd : 0 ≤ d) (k7 : Nat → Int32 → Int32 → AI → Option (Unit × AI))  (hk7 : ∀ (a0 : Nat) (ha0 : sh11 kad Z a0) (i1 : Int32) (i2 : Int32) (I : AI) (r : Unit × AI), k7 a0 i1 i2 I = some r → aGo kad d 249 (7, ([(0, .ref a0), (1, .int i1), (2, .int i2)], [])) (aMem Z I, t) (qV Z t r)) : ∀ (a0 : Nat) (ha0 : sh11 kad Z a0) (i1 : Int32) (i2 : Int32) (I : AI) (r : Unit × AI), f249_b81 kad N Z k7 a0 i1 i2 I = some r → aGo kad d 249 (81, ([(0, .ref a0), (1, .int i1), (2, .int i2)], [])) (aMem Z I, t) (qV Z t r) := by
  intro a0 ha0 i1 i2 I r h
  unfold f249_b81 at h
  refine go_ops aMi249 2 _ (f1 := (7, ([(2, .int (i2 + (1 : Int32))), (0, .ref a0), (1, .int i1)], []))) rfl ?_
  refine go_le (lv1 := [(0, .ref a0), (1, .int i1), (2, .int (i2 + (1 : Int32)))]) (aLe_of (show (List.map (fun q => q.1) ([(0, .ref a0), (1, .int i1), (2, .int (i2 + (1 : Int32)))] : ALv)).Nodup from (by show ([0, 1, 2] : List Nat).Nodup; decide)) (aSubL_cons rfl (aSubL_cons rfl (aSubL_cons rfl aSubL_nil)))) ?_
  exact hk7 a0 ha0 i1 (i2 + (1 : Int32)) I _ h
def f249_b34 (kad : Nat → Nat) (N : Nat) (Z : AZ) (k7 : Nat → Int32 → Int32 → AI → Option (Unit × AI)) : Nat → Nat → Int32 → Int32 → Int32 → AI → Option (Unit × AI)
  | 0, _, _, _, _, _ => none
  | F + 1, a0, i1, i2, i3, I =>
    if (8 : Int32) ≤ i3 then
      (wI I a0 47 ((I a0 47) + (1 : Int32))).bind fun I78_1 =>
      f249_b81 kad N Z k7 a0 i1 i2 I78_1
    else
      (ixA 256 (((8 : Int32) * i2) + i3)).bind fun j63_2 =>
      (ixA 24 (((8 : Int32) * (I a0 47)) + i3)).bind fun j64_4 =>
      (wI I (a0 + 23) j64_4 (I (a0 + 25) j63_2)).bind fun I64_3 =>
      f249_b34 kad N Z k7 F a0 i1 i2 (i3 + (1 : Int32)) I64_3
set_option maxRecDepth 20000 in
theorem Tf249_b34 {kad : Nat → Nat} {N : Nat} {Z : AZ} {d : Nat} {t : Option Nat × (Nat × Nat)} (hd : 0 ≤ d) (k7 : Nat → Int32 → Int32 → AI → Option (Unit × AI))  (hk7 : ∀ (a0 : Nat) (ha0 : sh11 kad Z a0) (i1 : Int32) (i2 : Int32) (I : AI) (r : Unit × AI), k7 a0 i1 i2 I = some r → aGo kad d 249 (7, ([(0, .ref a0), (1, .int i1), (2, .int i2)], [])) (aMem Z I, t) (qV Z t r)) : ∀ (F : Nat) (a0 : Nat) (ha0 : sh11 kad Z a0) (i1 : Int32) (i2 : Int32) (i3 : Int32) (I : AI) (r : Unit × AI), f249_b34 kad N Z k7 F a0 i1 i2 i3 I = some r → aGo kad d 249 (34, ([(0, .ref a0), (1, .int i1), (2, .int i2), (3, .int i3)], [])) (aMem Z I, t) (qV Z t r) := by
  intro F
  induction F with
  | zero => intro a0 ha0 i1 i2 i3 I r h; cases h
  | succ F ih =>
    intro a0 ha0 i1 i2 i3 I r h
    unfold f249_b34 at h
    refine go_ops aMi249 2 _ (f1 := (37, ([(0, .ref a0), (1, .int i1), (2, .int i2), (3, .int i3)], [.int (8 : Int32), .int i3]))) rfl ?_
    refine gg_br (b := decide ((8 : Int32) ≤ i3)) (tg := 71) (off := 34) aMi249 rfl rfl rfl rfl (fun hb => ?_) (fun hb => ?_)
    · rw [if_pos (of_decide_eq_true hb)] at h
      refine go_ops aMi249 2 _ (f1 := (73, ([(0, .ref a0), (1, .int i1), (2, .int i2), (3, .int i3)], [.ref a0, .ref a0]))) rfl ?_
      refine gg_gI aMi249 rfl rfl rfl (gI_of (sh11_z ha0)) ?_
      refine go_ops aMi249 2 _ (f1 := (78, ([(0, .ref a0), (1, .int i1), (2, .int i2), (3, .int i3)], [.int ((I a0 47) + (1 : Int32)), .ref a0]))) rfl ?_
      obtain ⟨I78_1, hxI78_1, h⟩ := Option.bind_eq_some_iff.mp h
      refine gg_pI aMi249 rfl rfl rfl rfl (by decide) (pI_of (sh11_z ha0) hxI78_1) ?_
      refine go_le (lv1 := [(0, .ref a0), (1, .int i1), (2, .int i2)]) (aLe_of (show (List.map (fun q => q.1) ([(0, .ref a0), (1, .int i1), (2, .int i2)] : ALv)).Nodup from (by show ([0, 1, 2] : List Nat).Nodup; decide)) (aSubL_cons rfl (aSubL_cons rfl (aSubL_cons rfl aSubL_nil)))) ?_
      exact Tf249_b81 hd k7 hk7 a0 ha0 i1 i2 I78_1 _ h
    · rw [if_neg (of_decide_eq_false hb)] at h
      refine go_ops aMi249 1 _ (f1 := (41, ([(0, .ref a0), (1, .int i1), (2, .int i2), (3, .int i3)], [.ref a0]))) rfl ?_
      refine gg_gR (b := (a0 + 23)) aMi249 rfl rfl rfl (gR_of (sh11_z ha0) (sh11_r49 ha0)) ?_
      refine go_ops aMi249 2 _ (f1 := (47, ([(0, .ref a0), (1, .int i1), (2, .int i2), (3, .int i3)], [.ref a0, .int (8 : Int32), .ref (a0 + 23)]))) rfl ?_
      refine gg_gI aMi249 rfl rfl rfl (gI_of (sh11_z ha0)) ?_
      refine go_ops aMi249 4 _ (f1 := (54, ([(0, .ref a0), (1, .int i1), (2, .int i2), (3, .int i3)], [.ref a0, .int (((8 : Int32) * (I a0 47)) + i3), .ref (a0 + 23)]))) rfl ?_
      refine gg_gR (b := (a0 + 25)) aMi249 rfl rfl rfl (gR_of (sh11_z ha0) (sh11_r51 ha0)) ?_
      refine go_ops aMi249 5 _ (f1 := (63, ([(0, .ref a0), (1, .int i1), (2, .int i2), (3, .int i3)], [.int (((8 : Int32) * i2) + i3), .ref (a0 + 25), .int (((8 : Int32) * (I a0 47)) + i3), .ref (a0 + 23)]))) rfl ?_
      obtain ⟨j63_2, hxj63_2, h⟩ := Option.bind_eq_some_iff.mp h
      refine gg_lI (Or.inl ⟨rfl, rfl⟩) aMi249 rfl (lI_of (sh11_a51 ha0) hxj63_2) ?_
      obtain ⟨j64_4, hxj64_4, h⟩ := Option.bind_eq_some_iff.mp h
      obtain ⟨I64_3, hxI64_3, h⟩ := Option.bind_eq_some_iff.mp h
      refine gg_sI (Or.inl ⟨rfl, rfl⟩) aMi249 rfl (sI_of (sh11_a49 ha0) hxj64_4 hxI64_3) ?_
      refine go_ops aMi249 2 _ (f1 := (34, ([(3, .int (i3 + (1 : Int32))), (0, .ref a0), (1, .int i1), (2, .int i2)], []))) rfl ?_
      refine go_le (lv1 := [(0, .ref a0), (1, .int i1), (2, .int i2), (3, .int (i3 + (1 : Int32)))]) (aLe_of (show (List.map (fun q => q.1) ([(0, .ref a0), (1, .int i1), (2, .int i2), (3, .int (i3 + (1 : Int32)))] : ALv)).Nodup from (by show ([0, 1, 2, 3] : List Nat).Nodup; decide)) (aSubL_cons rfl (aSubL_cons rfl (aSubL_cons rfl (aSubL_cons rfl aSubL_nil))))) ?_
      exact ih a0 ha0 i1 i2 (i3 + (1 : Int32)) I64_3 _ h
def f249_b7 (kad : Nat → Nat) (N : Nat) (Z : AZ) : Nat → Nat → Int32 → Int32 → AI → Option (Unit × AI)
  | 0, _, _, _, _ => none
  | F + 1, a0, i1, i2, I =>
    if (32 : Int32) ≤ i2 then
      (wI I a0 46 (((2 : Int32) * (I a0 47)) + (2 : Int32))).bind fun I96_1 =>
      some ((), I96_1)
    else
      if ¬ ((i1 >>> (i2 &&& 31)) &&& (1 : Int32)) = (1 : Int32) then
        f249_b81 kad N Z (fun p0 p1 p2 I => f249_b7 kad N Z F p0 p1 p2 I) a0 i1 i2 I
      else
        (ixA 3 (I a0 47)).bind fun j31_3 =>
        (wI I (a0 + 22) j31_3 i2).bind fun I31_2 =>
        f249_b34 kad N Z (fun p0 p1 p2 I => f249_b7 kad N Z F p0 p1 p2 I) N a0 i1 i2 (0 : Int32) I31_2
set_option maxRecDepth 20000 in
theorem Tf249_b7 {kad : Nat → Nat} {N : Nat} {Z : AZ} {d : Nat} {t : Option Nat × (Nat × Nat)} (hd : 0 ≤ d) : ∀ (F : Nat) (a0 : Nat) (ha0 : sh11 kad Z a0) (i1 : Int32) (i2 : Int32) (I : AI) (r : Unit × AI), f249_b7 kad N Z F a0 i1 i2 I = some r → aGo kad d 249 (7, ([(0, .ref a0), (1, .int i1), (2, .int i2)], [])) (aMem Z I, t) (qV Z t r) := by
  intro F
  induction F with
  | zero => intro a0 ha0 i1 i2 I r h; cases h
  | succ F ih =>
    intro a0 ha0 i1 i2 I r h
    unfold f249_b7 at h
    refine go_ops aMi249 2 _ (f1 := (10, ([(0, .ref a0), (1, .int i1), (2, .int i2)], [.int (32 : Int32), .int i2]))) rfl ?_
    refine gg_br (b := decide ((32 : Int32) ≤ i2)) (tg := 87) (off := 77) aMi249 rfl rfl rfl rfl (fun hb => ?_) (fun hb => ?_)
    · rw [if_pos (of_decide_eq_true hb)] at h
      refine go_ops aMi249 3 _ (f1 := (90, ([(0, .ref a0), (1, .int i1), (2, .int i2)], [.ref a0, .int (2 : Int32), .ref a0]))) rfl ?_
      refine gg_gI aMi249 rfl rfl rfl (gI_of (sh11_z ha0)) ?_
      refine go_ops aMi249 3 _ (f1 := (96, ([(0, .ref a0), (1, .int i1), (2, .int i2)], [.int (((2 : Int32) * (I a0 47)) + (2 : Int32)), .ref a0]))) rfl ?_
      obtain ⟨I96_1, hxI96_1, h⟩ := Option.bind_eq_some_iff.mp h
      refine gg_pI aMi249 rfl rfl rfl rfl (by decide) (pI_of (sh11_z ha0) hxI96_1) ?_
      cases h
      exact go_ret aMi249 rfl rfl ⟨rfl, rfl⟩
    · rw [if_neg (of_decide_eq_false hb)] at h
      refine go_ops aMi249 6 _ (f1 := (19, ([(0, .ref a0), (1, .int i1), (2, .int i2)], [.int (1 : Int32), .int ((i1 >>> (i2 &&& 31)) &&& (1 : Int32))]))) rfl ?_
      refine gg_br (b := decide (¬ ((i1 >>> (i2 &&& 31)) &&& (1 : Int32)) = (1 : Int32))) (tg := 81) (off := 62) aMi249 rfl rfl rfl rfl (fun hb => ?_) (fun hb => ?_)
      · rw [if_pos (of_decide_eq_true hb)] at h
        exact Tf249_b81 hd (fun p0 p1 p2 I => f249_b7 kad N Z F p0 p1 p2 I) (fun p0 q0 p1 p2 I r hh => ih p0 q0 p1 p2 I r hh) a0 ha0 i1 i2 I _ h
      · rw [if_neg (of_decide_eq_false hb)] at h
        refine go_ops aMi249 1 _ (f1 := (23, ([(0, .ref a0), (1, .int i1), (2, .int i2)], [.ref a0]))) rfl ?_
        refine gg_gR (b := (a0 + 22)) aMi249 rfl rfl rfl (gR_of (sh11_z ha0) (sh11_r48 ha0)) ?_
        refine go_ops aMi249 1 _ (f1 := (27, ([(0, .ref a0), (1, .int i1), (2, .int i2)], [.ref a0, .ref (a0 + 22)]))) rfl ?_
        refine gg_gI aMi249 rfl rfl rfl (gI_of (sh11_z ha0)) ?_
        refine go_ops aMi249 1 _ (f1 := (31, ([(0, .ref a0), (1, .int i1), (2, .int i2)], [.int i2, .int (I a0 47), .ref (a0 + 22)]))) rfl ?_
        obtain ⟨j31_3, hxj31_3, h⟩ := Option.bind_eq_some_iff.mp h
        obtain ⟨I31_2, hxI31_2, h⟩ := Option.bind_eq_some_iff.mp h
        refine gg_sI (Or.inl ⟨rfl, rfl⟩) aMi249 rfl (sI_of (sh11_a48 ha0) hxj31_3 hxI31_2) ?_
        refine go_ops aMi249 2 _ (f1 := (34, ([(3, .int (0 : Int32)), (0, .ref a0), (1, .int i1), (2, .int i2)], []))) rfl ?_
        refine go_le (lv1 := [(0, .ref a0), (1, .int i1), (2, .int i2), (3, .int (0 : Int32))]) (aLe_of (show (List.map (fun q => q.1) ([(0, .ref a0), (1, .int i1), (2, .int i2), (3, .int (0 : Int32))] : ALv)).Nodup from (by show ([0, 1, 2, 3] : List Nat).Nodup; decide)) (aSubL_cons rfl (aSubL_cons rfl (aSubL_cons rfl (aSubL_cons rfl aSubL_nil))))) ?_
        exact Tf249_b34 hd (fun p0 p1 p2 I => f249_b7 kad N Z F p0 p1 p2 I) (fun p0 q0 p1 p2 I r hh => ih p0 q0 p1 p2 I r hh) N a0 ha0 i1 i2 (0 : Int32) I31_2 _ h
def f249 (kad : Nat → Nat) (N : Nat) (Z : AZ) (a0 : Nat) (i1 : Int32) (I : AI) : Option (Unit × AI) :=
  (wI I a0 47 (0 : Int32)).bind fun I2_1 =>
  f249_b7 kad N Z N a0 i1 (0 : Int32) I2_1
set_option maxRecDepth 20000 in
theorem Tf249 {kad : Nat → Nat} {N : Nat} {Z : AZ} {d : Nat} {t : Option Nat × (Nat × Nat)} (hd : 0 ≤ d) : ∀ (a0 : Nat) (ha0 : sh11 kad Z a0) (i1 : Int32) (I : AI) (r : Unit × AI), f249 kad N Z a0 i1 I = some r → aGo kad d 249 (0, ([(0, .ref a0), (1, .int i1)], [])) (aMem Z I, t) (qV Z t r) := by
  intro a0 ha0 i1 I r h
  unfold f249 at h
  refine go_ops aMi249 2 _ (f1 := (2, ([(0, .ref a0), (1, .int i1)], [.int (0 : Int32), .ref a0]))) rfl ?_
  obtain ⟨I2_1, hxI2_1, h⟩ := Option.bind_eq_some_iff.mp h
  refine gg_pI aMi249 rfl rfl rfl rfl (by decide) (pI_of (sh11_z ha0) hxI2_1) ?_
  refine go_ops aMi249 2 _ (f1 := (7, ([(2, .int (0 : Int32)), (0, .ref a0), (1, .int i1)], []))) rfl ?_
  refine go_le (lv1 := [(0, .ref a0), (1, .int i1), (2, .int (0 : Int32))]) (aLe_of (show (List.map (fun q => q.1) ([(0, .ref a0), (1, .int i1), (2, .int (0 : Int32))] : ALv)).Nodup from (by show ([0, 1, 2] : List Nat).Nodup; decide)) (aSubL_cons rfl (aSubL_cons rfl (aSubL_cons rfl aSubL_nil)))) ?_
  exact Tf249_b7 hd N a0 ha0 i1 (0 : Int32) I2_1 _ h
-- KernelGymModel.calls (I)V
def f242_b142 (kad : Nat → Nat) (N : Nat) (Z : AZ) (a0 : Nat) (i3 : Int32) (I : AI) : Option (Unit × AI) :=
  (ixA 4 (3 : Int32)).bind fun j148_2 =>
  (wI I (a0 + 16) j148_2 i3).bind fun I148_1 =>
  (wI I148_1 a0 27 ((I148_1 a0 27) + (2 : Int32))).bind fun I156_3 =>
  some ((), I156_3)
set_option maxRecDepth 20000 in
theorem Tf242_b142 {kad : Nat → Nat} {N : Nat} {Z : AZ} {d : Nat} {t : Option Nat × (Nat × Nat)} (hd : 3 ≤ d) : ∀ (a0 : Nat) (ha0 : sh11 kad Z a0) (i3 : Int32) (I : AI) (r : Unit × AI), f242_b142 kad N Z a0 i3 I = some r → aGo kad d 242 (142, ([(0, .ref a0), (3, .int i3)], [])) (aMem Z I, t) (qV Z t r) := by
  intro a0 ha0 i3 I r h
  unfold f242_b142 at h
  refine go_ops aMi242 1 _ (f1 := (143, ([(0, .ref a0), (3, .int i3)], [.ref a0]))) rfl ?_
  refine gg_gR (b := (a0 + 16)) aMi242 rfl rfl rfl (gR_of (sh11_z ha0) (sh11_r26 ha0)) ?_
  refine go_ops aMi242 2 _ (f1 := (148, ([(0, .ref a0), (3, .int i3)], [.int i3, .int (3 : Int32), .ref (a0 + 16)]))) rfl ?_
  obtain ⟨j148_2, hxj148_2, h⟩ := Option.bind_eq_some_iff.mp h
  obtain ⟨I148_1, hxI148_1, h⟩ := Option.bind_eq_some_iff.mp h
  refine gg_sI (Or.inl ⟨rfl, rfl⟩) aMi242 rfl (sI_of (sh11_a26 ha0) hxj148_2 hxI148_1) ?_
  refine go_ops aMi242 2 _ (f1 := (151, ([(0, .ref a0), (3, .int i3)], [.ref a0, .ref a0]))) rfl ?_
  refine gg_gI aMi242 rfl rfl rfl (gI_of (sh11_z ha0)) ?_
  refine go_ops aMi242 2 _ (f1 := (156, ([(0, .ref a0), (3, .int i3)], [.int ((I148_1 a0 27) + (2 : Int32)), .ref a0]))) rfl ?_
  obtain ⟨I156_3, hxI156_3, h⟩ := Option.bind_eq_some_iff.mp h
  refine gg_pI aMi242 rfl rfl rfl rfl (by decide) (pI_of (sh11_z ha0) hxI156_3) ?_
  cases h
  exact go_ret aMi242 rfl rfl ⟨rfl, rfl⟩
def f242_b116 (kad : Nat → Nat) (N : Nat) (Z : AZ) (a0 : Nat) (i1 : Int32) (i2 : Int32) (i3 : Int32) (I : AI) : Option (Unit × AI) :=
  if ¬ i3 = 0 then
    f242_b142 kad N Z a0 i3 I
  else
    if ¬ i1 = (4 : Int32) then
      f242_b142 kad N Z a0 i3 I
    else
      (f235 kad N Z i2 I).bind fun r135_1 =>
      (ixA 256 (r135_1.1 + (1 : Int32))).bind fun j140_2 =>
      (ixA 4 (1 : Int32)).bind fun j141_4 =>
      (wI r135_1.2 (a0 + 16) j141_4 (r135_1.2 (a0 + 24) j140_2)).bind fun I141_3 =>
      f242_b142 kad N Z a0 i3 I141_3
set_option maxRecDepth 20000 in
theorem Tf242_b116 {kad : Nat → Nat} {N : Nat} {Z : AZ} {d : Nat} {t : Option Nat × (Nat × Nat)} (hd : 3 ≤ d) : ∀ (a0 : Nat) (ha0 : sh11 kad Z a0) (i1 : Int32) (i2 : Int32) (i3 : Int32) (I : AI) (r : Unit × AI), f242_b116 kad N Z a0 i1 i2 i3 I = some r → aGo kad d 242 (116, ([(0, .ref a0), (1, .int i1), (2, .int i2), (3, .int i3)], [])) (aMem Z I, t) (qV Z t r) := by
  intro a0 ha0 i1 i2 i3 I r h
  unfold f242_b116 at h
  refine go_ops aMi242 1 _ (f1 := (117, ([(0, .ref a0), (1, .int i1), (2, .int i2), (3, .int i3)], [.int i3]))) rfl ?_
  refine gg_br (b := decide (¬ i3 = 0)) (tg := 142) (off := 25) aMi242 rfl rfl rfl rfl (fun hb => ?_) (fun hb => ?_)
  · rw [if_pos (of_decide_eq_true hb)] at h
    refine go_le (lv1 := [(0, .ref a0), (3, .int i3)]) (aLe_of (show (List.map (fun q => q.1) ([(0, .ref a0), (3, .int i3)] : ALv)).Nodup from (by show ([0, 3] : List Nat).Nodup; decide)) (aSubL_cons rfl (aSubL_cons rfl aSubL_nil))) ?_
    exact Tf242_b142 hd a0 ha0 i3 I _ h
  · rw [if_neg (of_decide_eq_false hb)] at h
    refine go_ops aMi242 2 _ (f1 := (122, ([(0, .ref a0), (1, .int i1), (2, .int i2), (3, .int i3)], [.int (4 : Int32), .int i1]))) rfl ?_
    refine gg_br (b := decide (¬ i1 = (4 : Int32))) (tg := 142) (off := 20) aMi242 rfl rfl rfl rfl (fun hb => ?_) (fun hb => ?_)
    · rw [if_pos (of_decide_eq_true hb)] at h
      refine go_le (lv1 := [(0, .ref a0), (3, .int i3)]) (aLe_of (show (List.map (fun q => q.1) ([(0, .ref a0), (3, .int i3)] : ALv)).Nodup from (by show ([0, 3] : List Nat).Nodup; decide)) (aSubL_cons rfl (aSubL_cons rfl aSubL_nil))) ?_
      exact Tf242_b142 hd a0 ha0 i3 I _ h
    · rw [if_neg (of_decide_eq_false hb)] at h
      refine go_ops aMi242 1 _ (f1 := (126, ([(0, .ref a0), (1, .int i1), (2, .int i2), (3, .int i3)], [.ref a0]))) rfl ?_
      refine gg_gR (b := (a0 + 16)) aMi242 rfl rfl rfl (gR_of (sh11_z ha0) (sh11_r26 ha0)) ?_
      refine go_ops aMi242 2 _ (f1 := (131, ([(0, .ref a0), (1, .int i1), (2, .int i2), (3, .int i3)], [.ref a0, .int (1 : Int32), .ref (a0 + 16)]))) rfl ?_
      refine gg_gR (b := (a0 + 24)) aMi242 rfl rfl rfl (gR_of (sh11_z ha0) (sh11_r50 ha0)) ?_
      refine go_ops aMi242 1 _ (f1 := (135, ([(0, .ref a0), (1, .int i1), (2, .int i2), (3, .int i3)], [.int i2, .ref (a0 + 24), .int (1 : Int32), .ref (a0 + 16)]))) rfl ?_
      obtain ⟨r135_1, hxr135_1, h⟩ := Option.bind_eq_some_iff.mp h
      refine gg_cs (as := [.int i2]) (r := [.ref (a0 + 24), .int (1 : Int32), .ref (a0 + 16)]) aMi242 rfl rfl rfl aMi235 rfl (Nat.le_of_ble_eq_true rfl) (Nat.le_of_ble_eq_true rfl) (by omega) (Tf235 (by omega) i2 I _ hxr135_1) ?_
      show aGo kad d 242 (138, ([(0, .ref a0), (1, .int i1), (2, .int i2), (3, .int i3)], [.int r135_1.1, .ref (a0 + 24), .int (1 : Int32), .ref (a0 + 16)])) (aMem Z r135_1.2, t) _
      refine go_ops aMi242 2 _ (f1 := (140, ([(0, .ref a0), (1, .int i1), (2, .int i2), (3, .int i3)], [.int (r135_1.1 + (1 : Int32)), .ref (a0 + 24), .int (1 : Int32), .ref (a0 + 16)]))) rfl ?_
      obtain ⟨j140_2, hxj140_2, h⟩ := Option.bind_eq_some_iff.mp h
      refine gg_lI (Or.inl ⟨rfl, rfl⟩) aMi242 rfl (lI_of (sh11_a50 ha0) hxj140_2) ?_
      obtain ⟨j141_4, hxj141_4, h⟩ := Option.bind_eq_some_iff.mp h
      obtain ⟨I141_3, hxI141_3, h⟩ := Option.bind_eq_some_iff.mp h
      refine gg_sI (Or.inl ⟨rfl, rfl⟩) aMi242 rfl (sI_of (sh11_a26 ha0) hxj141_4 hxI141_3) ?_
      refine go_le (lv1 := [(0, .ref a0), (3, .int i3)]) (aLe_of (show (List.map (fun q => q.1) ([(0, .ref a0), (3, .int i3)] : ALv)).Nodup from (by show ([0, 3] : List Nat).Nodup; decide)) (aSubL_cons rfl (aSubL_cons rfl aSubL_nil))) ?_
      exact Tf242_b142 hd a0 ha0 i3 I141_3 _ h
def f242_b246 (kad : Nat → Nat) (N : Nat) (Z : AZ) (a0 : Nat) (s0 : Int32) (I : AI) : Option (Unit × AI) :=
  (f249 kad N Z a0 s0 I).bind fun r251_1 =>
  some ((), r251_1.2)
set_option maxRecDepth 20000 in
theorem Tf242_b246 {kad : Nat → Nat} {N : Nat} {Z : AZ} {d : Nat} {t : Option Nat × (Nat × Nat)} (hd : 3 ≤ d) : ∀ (a0 : Nat) (ha0 : sh11 kad Z a0) (s0 : Int32) (I : AI) (r : Unit × AI), f242_b246 kad N Z a0 s0 I = some r → aGo kad d 242 (246, ([(0, .ref a0)], [.int s0])) (aMem Z I, t) (qV Z t r) := by
  intro a0 ha0 s0 I r h
  unfold f242_b246 at h
  refine go_ops aMi242 3 _ (f1 := (251, ([(5, .int s0), (0, .ref a0)], [.int s0, .ref a0]))) rfl ?_
  obtain ⟨r251_1, hxr251_1, h⟩ := Option.bind_eq_some_iff.mp h
  refine gg_cv (as := [.int s0]) (r := []) aMi242 rfl rfl rfl aMi249 (Nat.le_of_ble_eq_true rfl) rfl (Nat.le_of_ble_eq_true rfl) (Nat.le_of_ble_eq_true rfl) (by omega) (isK_of (sh11_z ha0)) (Tf249 (by omega) a0 ha0 s0 I _ hxr251_1) ?_
  show aGo kad d 242 (254, ([(5, .int s0), (0, .ref a0)], [])) (aMem Z r251_1.2, t) _
  cases h
  exact go_ret aMi242 rfl rfl ⟨rfl, rfl⟩
def f242_b163 (kad : Nat → Nat) (N : Nat) (Z : AZ) : Nat → Nat → Int32 → Int32 → Int32 → AI → Option (Unit × AI)
  | 0, _, _, _, _, _ => none
  | F + 1, a0, i1, i2, i5, I =>
    if (256 : Int32) ≤ i5 then
      if ¬ i1 = 0 then
        if ¬ i1 = (1 : Int32) then
          if ¬ i1 = (2 : Int32) then
            if ¬ i1 = (5 : Int32) then
              (f248 kad N Z a0 i2 I).bind fun r243_1 =>
              f242_b246 kad N Z a0 r243_1.1 r243_1.2
            else
              (f247 kad N Z a0 i2 I).bind fun r235_2 =>
              f242_b246 kad N Z a0 r235_2.1 r235_2.2
          else
            (f246 kad N Z a0 i2 I).bind fun r222_3 =>
            f242_b246 kad N Z a0 r222_3.1 r222_3.2
        else
          (f245 kad N Z a0 i2 I).bind fun r209_4 =>
          f242_b246 kad N Z a0 r209_4.1 r209_4.2
      else
        (f244 kad N Z a0 I).bind fun r196_5 =>
        f242_b246 kad N Z a0 r196_5.1 r196_5.2
    else
      (ixA 256 i5).bind fun j183_6 =>
      (ixA 256 i5).bind fun j184_8 =>
      (wI I (a0 + 25) j184_8 (I (a0 + 24) j183_6)).bind fun I184_7 =>
      f242_b163 kad N Z F a0 i1 i2 (i5 + (1 : Int32)) I184_7
set_option maxRecDepth 20000 in
theorem Tf242_b163 {kad : Nat → Nat} {N : Nat} {Z : AZ} {d : Nat} {t : Option Nat × (Nat × Nat)} (hd : 3 ≤ d) : ∀ (F : Nat) (a0 : Nat) (ha0 : sh11 kad Z a0) (i1 : Int32) (i2 : Int32) (i5 : Int32) (I : AI) (r : Unit × AI), f242_b163 kad N Z F a0 i1 i2 i5 I = some r → aGo kad d 242 (163, ([(0, .ref a0), (1, .int i1), (2, .int i2), (5, .int i5)], [])) (aMem Z I, t) (qV Z t r) := by
  intro F
  induction F with
  | zero => intro a0 ha0 i1 i2 i5 I r h; cases h
  | succ F ih =>
    intro a0 ha0 i1 i2 i5 I r h
    unfold f242_b163 at h
    refine go_ops aMi242 2 _ (f1 := (168, ([(0, .ref a0), (1, .int i1), (2, .int i2), (5, .int i5)], [.int (256 : Int32), .int i5]))) rfl ?_
    refine gg_br (b := decide ((256 : Int32) ≤ i5)) (tg := 191) (off := 23) aMi242 rfl rfl rfl rfl (fun hb => ?_) (fun hb => ?_)
    · rw [if_pos (of_decide_eq_true hb)] at h
      refine go_ops aMi242 1 _ (f1 := (192, ([(0, .ref a0), (1, .int i1), (2, .int i2), (5, .int i5)], [.int i1]))) rfl ?_
      refine gg_br (b := decide (¬ i1 = 0)) (tg := 202) (off := 10) aMi242 rfl rfl rfl rfl (fun hb => ?_) (fun hb => ?_)
      · rw [if_pos (of_decide_eq_true hb)] at h
        refine go_ops aMi242 2 _ (f1 := (204, ([(0, .ref a0), (1, .int i1), (2, .int i2), (5, .int i5)], [.int (1 : Int32), .int i1]))) rfl ?_
        refine gg_br (b := decide (¬ i1 = (1 : Int32))) (tg := 215) (off := 11) aMi242 rfl rfl rfl rfl (fun hb => ?_) (fun hb => ?_)
        · rw [if_pos (of_decide_eq_true hb)] at h
          refine go_ops aMi242 2 _ (f1 := (217, ([(0, .ref a0), (1, .int i1), (2, .int i2), (5, .int i5)], [.int (2 : Int32), .int i1]))) rfl ?_
          refine gg_br (b := decide (¬ i1 = (2 : Int32))) (tg := 228) (off := 11) aMi242 rfl rfl rfl rfl (fun hb => ?_) (fun hb => ?_)
          · rw [if_pos (of_decide_eq_true hb)] at h
            refine go_ops aMi242 2 _ (f1 := (230, ([(0, .ref a0), (1, .int i1), (2, .int i2), (5, .int i5)], [.int (5 : Int32), .int i1]))) rfl ?_
            refine gg_br (b := decide (¬ i1 = (5 : Int32))) (tg := 241) (off := 11) aMi242 rfl rfl rfl rfl (fun hb => ?_) (fun hb => ?_)
            · rw [if_pos (of_decide_eq_true hb)] at h
              refine go_ops aMi242 2 _ (f1 := (243, ([(0, .ref a0), (1, .int i1), (2, .int i2), (5, .int i5)], [.int i2, .ref a0]))) rfl ?_
              obtain ⟨r243_1, hxr243_1, h⟩ := Option.bind_eq_some_iff.mp h
              refine gg_cv (as := [.int i2]) (r := []) aMi242 rfl rfl rfl aMi248 (Nat.le_of_ble_eq_true rfl) rfl (Nat.le_of_ble_eq_true rfl) (Nat.le_of_ble_eq_true rfl) (by omega) (isK_of (sh11_z ha0)) (Tf248 (by omega) a0 ha0 i2 I _ hxr243_1) ?_
              show aGo kad d 242 (246, ([(0, .ref a0), (1, .int i1), (2, .int i2), (5, .int i5)], [.int r243_1.1])) (aMem Z r243_1.2, t) _
              refine go_le (lv1 := [(0, .ref a0)]) (aLe_of (show (List.map (fun q => q.1) ([(0, .ref a0)] : ALv)).Nodup from (by show ([0] : List Nat).Nodup; decide)) (aSubL_cons rfl aSubL_nil)) ?_
              exact Tf242_b246 hd a0 ha0 r243_1.1 r243_1.2 _ h
            · rw [if_neg (of_decide_eq_false hb)] at h
              refine go_ops aMi242 2 _ (f1 := (235, ([(0, .ref a0), (1, .int i1), (2, .int i2), (5, .int i5)], [.int i2, .ref a0]))) rfl ?_
              obtain ⟨r235_2, hxr235_2, h⟩ := Option.bind_eq_some_iff.mp h
              refine gg_cv (as := [.int i2]) (r := []) aMi242 rfl rfl rfl aMi247 (Nat.le_of_ble_eq_true rfl) rfl (Nat.le_of_ble_eq_true rfl) (Nat.le_of_ble_eq_true rfl) (by omega) (isK_of (sh11_z ha0)) (Tf247 (by omega) a0 ha0 i2 I _ hxr235_2) ?_
              show aGo kad d 242 (238, ([(0, .ref a0), (1, .int i1), (2, .int i2), (5, .int i5)], [.int r235_2.1])) (aMem Z r235_2.2, t) _
              refine go_ops aMi242 1 _ (f1 := (246, ([(0, .ref a0), (1, .int i1), (2, .int i2), (5, .int i5)], [.int r235_2.1]))) rfl ?_
              refine go_le (lv1 := [(0, .ref a0)]) (aLe_of (show (List.map (fun q => q.1) ([(0, .ref a0)] : ALv)).Nodup from (by show ([0] : List Nat).Nodup; decide)) (aSubL_cons rfl aSubL_nil)) ?_
              exact Tf242_b246 hd a0 ha0 r235_2.1 r235_2.2 _ h
          · rw [if_neg (of_decide_eq_false hb)] at h
            refine go_ops aMi242 2 _ (f1 := (222, ([(0, .ref a0), (1, .int i1), (2, .int i2), (5, .int i5)], [.int i2, .ref a0]))) rfl ?_
            obtain ⟨r222_3, hxr222_3, h⟩ := Option.bind_eq_some_iff.mp h
            refine gg_cv (as := [.int i2]) (r := []) aMi242 rfl rfl rfl aMi246 (Nat.le_of_ble_eq_true rfl) rfl (Nat.le_of_ble_eq_true rfl) (Nat.le_of_ble_eq_true rfl) (by omega) (isK_of (sh11_z ha0)) (Tf246 (by omega) a0 ha0 i2 I _ hxr222_3) ?_
            show aGo kad d 242 (225, ([(0, .ref a0), (1, .int i1), (2, .int i2), (5, .int i5)], [.int r222_3.1])) (aMem Z r222_3.2, t) _
            refine go_ops aMi242 1 _ (f1 := (246, ([(0, .ref a0), (1, .int i1), (2, .int i2), (5, .int i5)], [.int r222_3.1]))) rfl ?_
            refine go_le (lv1 := [(0, .ref a0)]) (aLe_of (show (List.map (fun q => q.1) ([(0, .ref a0)] : ALv)).Nodup from (by show ([0] : List Nat).Nodup; decide)) (aSubL_cons rfl aSubL_nil)) ?_
            exact Tf242_b246 hd a0 ha0 r222_3.1 r222_3.2 _ h
        · rw [if_neg (of_decide_eq_false hb)] at h
          refine go_ops aMi242 2 _ (f1 := (209, ([(0, .ref a0), (1, .int i1), (2, .int i2), (5, .int i5)], [.int i2, .ref a0]))) rfl ?_
          obtain ⟨r209_4, hxr209_4, h⟩ := Option.bind_eq_some_iff.mp h
          refine gg_cv (as := [.int i2]) (r := []) aMi242 rfl rfl rfl aMi245 (Nat.le_of_ble_eq_true rfl) rfl (Nat.le_of_ble_eq_true rfl) (Nat.le_of_ble_eq_true rfl) (by omega) (isK_of (sh11_z ha0)) (Tf245 (by omega) a0 ha0 i2 I _ hxr209_4) ?_
          show aGo kad d 242 (212, ([(0, .ref a0), (1, .int i1), (2, .int i2), (5, .int i5)], [.int r209_4.1])) (aMem Z r209_4.2, t) _
          refine go_ops aMi242 1 _ (f1 := (246, ([(0, .ref a0), (1, .int i1), (2, .int i2), (5, .int i5)], [.int r209_4.1]))) rfl ?_
          refine go_le (lv1 := [(0, .ref a0)]) (aLe_of (show (List.map (fun q => q.1) ([(0, .ref a0)] : ALv)).Nodup from (by show ([0] : List Nat).Nodup; decide)) (aSubL_cons rfl aSubL_nil)) ?_
          exact Tf242_b246 hd a0 ha0 r209_4.1 r209_4.2 _ h
      · rw [if_neg (of_decide_eq_false hb)] at h
        refine go_ops aMi242 1 _ (f1 := (196, ([(0, .ref a0), (1, .int i1), (2, .int i2), (5, .int i5)], [.ref a0]))) rfl ?_
        obtain ⟨r196_5, hxr196_5, h⟩ := Option.bind_eq_some_iff.mp h
        refine gg_cv (as := []) (r := []) aMi242 rfl rfl rfl aMi244 (Nat.le_of_ble_eq_true rfl) rfl (Nat.le_of_ble_eq_true rfl) (Nat.le_of_ble_eq_true rfl) (by omega) (isK_of (sh11_z ha0)) (Tf244 (by omega) a0 ha0 I _ hxr196_5) ?_
        show aGo kad d 242 (199, ([(0, .ref a0), (1, .int i1), (2, .int i2), (5, .int i5)], [.int r196_5.1])) (aMem Z r196_5.2, t) _
        refine go_ops aMi242 1 _ (f1 := (246, ([(0, .ref a0), (1, .int i1), (2, .int i2), (5, .int i5)], [.int r196_5.1]))) rfl ?_
        refine go_le (lv1 := [(0, .ref a0)]) (aLe_of (show (List.map (fun q => q.1) ([(0, .ref a0)] : ALv)).Nodup from (by show ([0] : List Nat).Nodup; decide)) (aSubL_cons rfl aSubL_nil)) ?_
        exact Tf242_b246 hd a0 ha0 r196_5.1 r196_5.2 _ h
    · rw [if_neg (of_decide_eq_false hb)] at h
      refine go_ops aMi242 1 _ (f1 := (172, ([(0, .ref a0), (1, .int i1), (2, .int i2), (5, .int i5)], [.ref a0]))) rfl ?_
      refine gg_gR (b := (a0 + 25)) aMi242 rfl rfl rfl (gR_of (sh11_z ha0) (sh11_r51 ha0)) ?_
      refine go_ops aMi242 2 _ (f1 := (178, ([(0, .ref a0), (1, .int i1), (2, .int i2), (5, .int i5)], [.ref a0, .int i5, .ref (a0 + 25)]))) rfl ?_
      refine gg_gR (b := (a0 + 24)) aMi242 rfl rfl rfl (gR_of (sh11_z ha0) (sh11_r50 ha0)) ?_
      refine go_ops aMi242 1 _ (f1 := (183, ([(0, .ref a0), (1, .int i1), (2, .int i2), (5, .int i5)], [.int i5, .ref (a0 + 24), .int i5, .ref (a0 + 25)]))) rfl ?_
      obtain ⟨j183_6, hxj183_6, h⟩ := Option.bind_eq_some_iff.mp h
      refine gg_lI (Or.inl ⟨rfl, rfl⟩) aMi242 rfl (lI_of (sh11_a50 ha0) hxj183_6) ?_
      obtain ⟨j184_8, hxj184_8, h⟩ := Option.bind_eq_some_iff.mp h
      obtain ⟨I184_7, hxI184_7, h⟩ := Option.bind_eq_some_iff.mp h
      refine gg_sI (Or.inl ⟨rfl, rfl⟩) aMi242 rfl (sI_of (sh11_a51 ha0) hxj184_8 hxI184_7) ?_
      refine go_ops aMi242 2 _ (f1 := (163, ([(5, .int (i5 + (1 : Int32))), (0, .ref a0), (1, .int i1), (2, .int i2)], []))) rfl ?_
      refine go_le (lv1 := [(0, .ref a0), (1, .int i1), (2, .int i2), (5, .int (i5 + (1 : Int32)))]) (aLe_of (show (List.map (fun q => q.1) ([(0, .ref a0), (1, .int i1), (2, .int i2), (5, .int (i5 + (1 : Int32)))] : ALv)).Nodup from (by show ([0, 1, 2, 5] : List Nat).Nodup; decide)) (aSubL_cons rfl (aSubL_cons rfl (aSubL_cons rfl (aSubL_cons rfl aSubL_nil))))) ?_
      exact ih a0 ha0 i1 i2 (i5 + (1 : Int32)) I184_7 _ h
def f242_b61 (kad : Nat → Nat) (N : Nat) (Z : AZ) (a0 : Nat) (i1 : Int32) (i2 : Int32) (i3 : Int32) (s0 : Int32) (I : AI) : Option (Unit × AI) :=
  if s0 = 0 then
    f242_b163 kad N Z N a0 i1 i2 (0 : Int32) I
  else
    if ¬ i3 = 0 then
      f242_b116 kad N Z a0 i1 i2 i3 I
    else
      if ¬ i1 = (3 : Int32) then
        f242_b116 kad N Z a0 i1 i2 i3 I
      else
        (ixA 4 (1 : Int32)).bind fun j99_1 =>
        (f241 kad N Z a0 (a0 + 24) i2 (I (a0 + 16) j99_1) I).bind fun r100_2 =>
        (ixA 4 (1 : Int32)).bind fun j109_3 =>
        (ixA 256 (((8 : Int32) * r100_2.1) + ((r100_2.2 (a0 + 16) j109_3) - (r100_2.2 (a0 + 16) j109_3) / (8 : Int32) * (8 : Int32)))).bind fun j114_4 =>
        (ixA 4 (2 : Int32)).bind fun j115_6 =>
        (wI r100_2.2 (a0 + 16) j115_6 (r100_2.2 (a0 + 24) j114_4)).bind fun I115_5 =>
        f242_b116 kad N Z a0 i1 i2 i3 I115_5
set_option maxRecDepth 20000 in
theorem Tf242_b61 {kad : Nat → Nat} {N : Nat} {Z : AZ} {d : Nat} {t : Option Nat × (Nat × Nat)} (hd : 3 ≤ d) : ∀ (a0 : Nat) (ha0 : sh11 kad Z a0) (i1 : Int32) (i2 : Int32) (i3 : Int32) (s0 : Int32) (I : AI) (r : Unit × AI), f242_b61 kad N Z a0 i1 i2 i3 s0 I = some r → aGo kad d 242 (61, ([(0, .ref a0), (1, .int i1), (2, .int i2), (3, .int i3)], [.int s0])) (aMem Z I, t) (qV Z t r) := by
  intro a0 ha0 i1 i2 i3 s0 I r h
  unfold f242_b61 at h
  refine go_ops aMi242 2 _ (f1 := (65, ([(4, .int s0), (0, .ref a0), (1, .int i1), (2, .int i2), (3, .int i3)], [.int s0]))) rfl ?_
  refine gg_br (b := decide (s0 = 0)) (tg := 160) (off := 95) aMi242 rfl rfl rfl rfl (fun hb => ?_) (fun hb => ?_)
  · rw [if_pos (of_decide_eq_true hb)] at h
    refine go_ops aMi242 2 _ (f1 := (163, ([(5, .int (0 : Int32)), (4, .int s0), (0, .ref a0), (1, .int i1), (2, .int i2), (3, .int i3)], []))) rfl ?_
    refine go_le (lv1 := [(0, .ref a0), (1, .int i1), (2, .int i2), (5, .int (0 : Int32))]) (aLe_of (show (List.map (fun q => q.1) ([(0, .ref a0), (1, .int i1), (2, .int i2), (5, .int (0 : Int32))] : ALv)).Nodup from (by show ([0, 1, 2, 5] : List Nat).Nodup; decide)) (aSubL_cons rfl (aSubL_cons rfl (aSubL_cons rfl (aSubL_cons rfl aSubL_nil))))) ?_
    exact Tf242_b163 hd N a0 ha0 i1 i2 (0 : Int32) I _ h
  · rw [if_neg (of_decide_eq_false hb)] at h
    refine go_ops aMi242 1 _ (f1 := (69, ([(4, .int s0), (0, .ref a0), (1, .int i1), (2, .int i2), (3, .int i3)], [.int i3]))) rfl ?_
    refine gg_br (b := decide (¬ i3 = 0)) (tg := 116) (off := 47) aMi242 rfl rfl rfl rfl (fun hb => ?_) (fun hb => ?_)
    · rw [if_pos (of_decide_eq_true hb)] at h
      refine go_le (lv1 := [(0, .ref a0), (1, .int i1), (2, .int i2), (3, .int i3)]) (aLe_of (show (List.map (fun q => q.1) ([(0, .ref a0), (1, .int i1), (2, .int i2), (3, .int i3)] : ALv)).Nodup from (by show ([0, 1, 2, 3] : List Nat).Nodup; decide)) (aSubL_cons rfl (aSubL_cons rfl (aSubL_cons rfl (aSubL_cons rfl aSubL_nil))))) ?_
      exact Tf242_b116 hd a0 ha0 i1 i2 i3 I _ h
    · rw [if_neg (of_decide_eq_false hb)] at h
      refine go_ops aMi242 2 _ (f1 := (74, ([(4, .int s0), (0, .ref a0), (1, .int i1), (2, .int i2), (3, .int i3)], [.int (3 : Int32), .int i1]))) rfl ?_
      refine gg_br (b := decide (¬ i1 = (3 : Int32))) (tg := 116) (off := 42) aMi242 rfl rfl rfl rfl (fun hb => ?_) (fun hb => ?_)
      · rw [if_pos (of_decide_eq_true hb)] at h
        refine go_le (lv1 := [(0, .ref a0), (1, .int i1), (2, .int i2), (3, .int i3)]) (aLe_of (show (List.map (fun q => q.1) ([(0, .ref a0), (1, .int i1), (2, .int i2), (3, .int i3)] : ALv)).Nodup from (by show ([0, 1, 2, 3] : List Nat).Nodup; decide)) (aSubL_cons rfl (aSubL_cons rfl (aSubL_cons rfl (aSubL_cons rfl aSubL_nil))))) ?_
        exact Tf242_b116 hd a0 ha0 i1 i2 i3 I _ h
      · rw [if_neg (of_decide_eq_false hb)] at h
        refine go_ops aMi242 1 _ (f1 := (78, ([(4, .int s0), (0, .ref a0), (1, .int i1), (2, .int i2), (3, .int i3)], [.ref a0]))) rfl ?_
        refine gg_gR (b := (a0 + 16)) aMi242 rfl rfl rfl (gR_of (sh11_z ha0) (sh11_r26 ha0)) ?_
        refine go_ops aMi242 2 _ (f1 := (83, ([(4, .int s0), (0, .ref a0), (1, .int i1), (2, .int i2), (3, .int i3)], [.ref a0, .int (2 : Int32), .ref (a0 + 16)]))) rfl ?_
        refine gg_gR (b := (a0 + 24)) aMi242 rfl rfl rfl (gR_of (sh11_z ha0) (sh11_r50 ha0)) ?_
        refine go_ops aMi242 3 _ (f1 := (90, ([(4, .int s0), (0, .ref a0), (1, .int i1), (2, .int i2), (3, .int i3)], [.ref a0, .ref a0, .int (8 : Int32), .ref (a0 + 24), .int (2 : Int32), .ref (a0 + 16)]))) rfl ?_
        refine gg_gR (b := (a0 + 24)) aMi242 rfl rfl rfl (gR_of (sh11_z ha0) (sh11_r50 ha0)) ?_
        refine go_ops aMi242 2 _ (f1 := (95, ([(4, .int s0), (0, .ref a0), (1, .int i1), (2, .int i2), (3, .int i3)], [.ref a0, .int i2, .ref (a0 + 24), .ref a0, .int (8 : Int32), .ref (a0 + 24), .int (2 : Int32), .ref (a0 + 16)]))) rfl ?_
        refine gg_gR (b := (a0 + 16)) aMi242 rfl rfl rfl (gR_of (sh11_z ha0) (sh11_r26 ha0)) ?_
        refine go_ops aMi242 1 _ (f1 := (99, ([(4, .int s0), (0, .ref a0), (1, .int i1), (2, .int i2), (3, .int i3)], [.int (1 : Int32), .ref (a0 + 16), .int i2, .ref (a0 + 24), .ref a0, .int (8 : Int32), .ref (a0 + 24), .int (2 : Int32), .ref (a0 + 16)]))) rfl ?_
        obtain ⟨j99_1, hxj99_1, h⟩ := Option.bind_eq_some_iff.mp h
        refine gg_lI (Or.inl ⟨rfl, rfl⟩) aMi242 rfl (lI_of (sh11_a26 ha0) hxj99_1) ?_
        obtain ⟨r100_2, hxr100_2, h⟩ := Option.bind_eq_some_iff.mp h
        refine gg_cv (as := [.ref (a0 + 24), .int i2, .int (I (a0 + 16) j99_1)]) (r := [.int (8 : Int32), .ref (a0 + 24), .int (2 : Int32), .ref (a0 + 16)]) aMi242 rfl rfl rfl aMi241 (Nat.le_of_ble_eq_true rfl) rfl (Nat.le_of_ble_eq_true rfl) (Nat.le_of_ble_eq_true rfl) (by omega) (isK_of (sh11_z ha0)) (Tf241 (by omega) a0 ha0 (a0 + 24) i2 (I (a0 + 16) j99_1) I _ hxr100_2) ?_
        show aGo kad d 242 (103, ([(4, .int s0), (0, .ref a0), (1, .int i1), (2, .int i2), (3, .int i3)], [.int r100_2.1, .int (8 : Int32), .ref (a0 + 24), .int (2 : Int32), .ref (a0 + 16)])) (aMem Z r100_2.2, t) _
        refine go_ops aMi242 2 _ (f1 := (105, ([(4, .int s0), (0, .ref a0), (1, .int i1), (2, .int i2), (3, .int i3)], [.ref a0, .int ((8 : Int32) * r100_2.1), .ref (a0 + 24), .int (2 : Int32), .ref (a0 + 16)]))) rfl ?_
        refine gg_gR (b := (a0 + 16)) aMi242 rfl rfl rfl (gR_of (sh11_z ha0) (sh11_r26 ha0)) ?_
        refine go_ops aMi242 1 _ (f1 := (109, ([(4, .int s0), (0, .ref a0), (1, .int i1), (2, .int i2), (3, .int i3)], [.int (1 : Int32), .ref (a0 + 16), .int ((8 : Int32) * r100_2.1), .ref (a0 + 24), .int (2 : Int32), .ref (a0 + 16)]))) rfl ?_
        obtain ⟨j109_3, hxj109_3, h⟩ := Option.bind_eq_some_iff.mp h
        refine gg_lI (Or.inl ⟨rfl, rfl⟩) aMi242 rfl (lI_of (sh11_a26 ha0) hxj109_3) ?_
        refine go_ops aMi242 3 _ (f1 := (114, ([(4, .int s0), (0, .ref a0), (1, .int i1), (2, .int i2), (3, .int i3)], [.int (((8 : Int32) * r100_2.1) + ((r100_2.2 (a0 + 16) j109_3) - (r100_2.2 (a0 + 16) j109_3) / (8 : Int32) * (8 : Int32))), .ref (a0 + 24), .int (2 : Int32), .ref (a0 + 16)]))) rfl ?_
        obtain ⟨j114_4, hxj114_4, h⟩ := Option.bind_eq_some_iff.mp h
        refine gg_lI (Or.inl ⟨rfl, rfl⟩) aMi242 rfl (lI_of (sh11_a50 ha0) hxj114_4) ?_
        obtain ⟨j115_6, hxj115_6, h⟩ := Option.bind_eq_some_iff.mp h
        obtain ⟨I115_5, hxI115_5, h⟩ := Option.bind_eq_some_iff.mp h
        refine gg_sI (Or.inl ⟨rfl, rfl⟩) aMi242 rfl (sI_of (sh11_a26 ha0) hxj115_6 hxI115_5) ?_
        refine go_le (lv1 := [(0, .ref a0), (1, .int i1), (2, .int i2), (3, .int i3)]) (aLe_of (show (List.map (fun q => q.1) ([(0, .ref a0), (1, .int i1), (2, .int i2), (3, .int i3)] : ALv)).Nodup from (by show ([0, 1, 2, 3] : List Nat).Nodup; decide)) (aSubL_cons rfl (aSubL_cons rfl (aSubL_cons rfl (aSubL_cons rfl aSubL_nil))))) ?_
        exact Tf242_b116 hd a0 ha0 i1 i2 i3 I115_5 _ h
def f242_b56 (kad : Nat → Nat) (N : Nat) (Z : AZ) (a0 : Nat) (i1 : Int32) (i2 : Int32) (i3 : Int32) (I : AI) : Option (Unit × AI) :=
  f242_b61 kad N Z a0 i1 i2 i3 (1 : Int32) I
set_option maxRecDepth 20000 in
theorem Tf242_b56 {kad : Nat → Nat} {N : Nat} {Z : AZ} {d : Nat} {t : Option Nat × (Nat × Nat)} (hd : 3 ≤ d) : ∀ (a0 : Nat) (ha0 : sh11 kad Z a0) (i1 : Int32) (i2 : Int32) (i3 : Int32) (I : AI) (r : Unit × AI), f242_b56 kad N Z a0 i1 i2 i3 I = some r → aGo kad d 242 (56, ([(0, .ref a0), (1, .int i1), (2, .int i2), (3, .int i3)], [])) (aMem Z I, t) (qV Z t r) := by
  intro a0 ha0 i1 i2 i3 I r h
  unfold f242_b56 at h
  refine go_ops aMi242 2 _ (f1 := (61, ([(0, .ref a0), (1, .int i1), (2, .int i2), (3, .int i3)], [.int (1 : Int32)]))) rfl ?_
  exact Tf242_b61 hd a0 ha0 i1 i2 i3 (1 : Int32) I _ h
def f242_b60 (kad : Nat → Nat) (N : Nat) (Z : AZ) (a0 : Nat) (i1 : Int32) (i2 : Int32) (i3 : Int32) (I : AI) : Option (Unit × AI) :=
  f242_b61 kad N Z a0 i1 i2 i3 (0 : Int32) I
set_option maxRecDepth 20000 in
theorem Tf242_b60 {kad : Nat → Nat} {N : Nat} {Z : AZ} {d : Nat} {t : Option Nat × (Nat × Nat)} (hd : 3 ≤ d) : ∀ (a0 : Nat) (ha0 : sh11 kad Z a0) (i1 : Int32) (i2 : Int32) (i3 : Int32) (I : AI) (r : Unit × AI), f242_b60 kad N Z a0 i1 i2 i3 I = some r → aGo kad d 242 (60, ([(0, .ref a0), (1, .int i1), (2, .int i2), (3, .int i3)], [])) (aMem Z I, t) (qV Z t r) := by
  intro a0 ha0 i1 i2 i3 I r h
  unfold f242_b60 at h
  refine go_ops aMi242 1 _ (f1 := (61, ([(0, .ref a0), (1, .int i1), (2, .int i2), (3, .int i3)], [.int (0 : Int32)]))) rfl ?_
  exact Tf242_b61 hd a0 ha0 i1 i2 i3 (0 : Int32) I _ h
def f242 (kad : Nat → Nat) (N : Nat) (Z : AZ) (a0 : Nat) (i1 : Int32) (I : AI) : Option (Unit × AI) :=
  (ixA 4 (0 : Int32)).bind fun j9_1 =>
  (f236 kad N Z (a0 + 24) (I (a0 + 16) j9_1) I).bind fun r10_2 =>
  (f240 kad N Z a0 i1 r10_2.1 r10_2.2).bind fun r17_3 =>
  if ¬ r17_3.1 = 0 then
    f242_b56 kad N Z a0 i1 r10_2.1 r17_3.1 r17_3.2
  else
    if i1 = (3 : Int32) then
      f242_b56 kad N Z a0 i1 r10_2.1 r17_3.1 r17_3.2
    else
      if i1 = (4 : Int32) then
        f242_b56 kad N Z a0 i1 r10_2.1 r17_3.1 r17_3.2
      else
        if ¬ i1 = (6 : Int32) then
          f242_b60 kad N Z a0 i1 r10_2.1 r17_3.1 r17_3.2
        else
          (ixA 4 (0 : Int32)).bind fun j46_4 =>
          (ixA 4 (1 : Int32)).bind fun j52_5 =>
          if ¬ (r17_3.2 (a0 + 16) j46_4) = (r17_3.2 (a0 + 16) j52_5) then
            f242_b60 kad N Z a0 i1 r10_2.1 r17_3.1 r17_3.2
          else
            f242_b56 kad N Z a0 i1 r10_2.1 r17_3.1 r17_3.2
set_option maxRecDepth 20000 in
theorem Tf242 {kad : Nat → Nat} {N : Nat} {Z : AZ} {d : Nat} {t : Option Nat × (Nat × Nat)} (hd : 3 ≤ d) : ∀ (a0 : Nat) (ha0 : sh11 kad Z a0) (i1 : Int32) (I : AI) (r : Unit × AI), f242 kad N Z a0 i1 I = some r → aGo kad d 242 (0, ([(0, .ref a0), (1, .int i1)], [])) (aMem Z I, t) (qV Z t r) := by
  intro a0 ha0 i1 I r h
  unfold f242 at h
  refine go_ops aMi242 1 _ (f1 := (1, ([(0, .ref a0), (1, .int i1)], [.ref a0]))) rfl ?_
  refine gg_gR (b := (a0 + 24)) aMi242 rfl rfl rfl (gR_of (sh11_z ha0) (sh11_r50 ha0)) ?_
  refine go_ops aMi242 1 _ (f1 := (5, ([(0, .ref a0), (1, .int i1)], [.ref a0, .ref (a0 + 24)]))) rfl ?_
  refine gg_gR (b := (a0 + 16)) aMi242 rfl rfl rfl (gR_of (sh11_z ha0) (sh11_r26 ha0)) ?_
  refine go_ops aMi242 1 _ (f1 := (9, ([(0, .ref a0), (1, .int i1)], [.int (0 : Int32), .ref (a0 + 16), .ref (a0 + 24)]))) rfl ?_
  obtain ⟨j9_1, hxj9_1, h⟩ := Option.bind_eq_some_iff.mp h
  refine gg_lI (Or.inl ⟨rfl, rfl⟩) aMi242 rfl (lI_of (sh11_a26 ha0) hxj9_1) ?_
  obtain ⟨r10_2, hxr10_2, h⟩ := Option.bind_eq_some_iff.mp h
  refine gg_cs (as := [.ref (a0 + 24), .int (I (a0 + 16) j9_1)]) (r := []) aMi242 rfl rfl rfl aMi236 rfl (Nat.le_of_ble_eq_true rfl) (Nat.le_of_ble_eq_true rfl) (by omega) (Tf236 (by omega) (a0 + 24) (I (a0 + 16) j9_1) I _ hxr10_2) ?_
  show aGo kad d 242 (13, ([(0, .ref a0), (1, .int i1)], [.int r10_2.1])) (aMem Z r10_2.2, t) _
  refine go_ops aMi242 4 _ (f1 := (17, ([(2, .int r10_2.1), (0, .ref a0), (1, .int i1)], [.int r10_2.1, .int i1, .ref a0]))) rfl ?_
  obtain ⟨r17_3, hxr17_3, h⟩ := Option.bind_eq_some_iff.mp h
  refine gg_cv (as := [.int i1, .int r10_2.1]) (r := []) aMi242 rfl rfl rfl aMi240 (Nat.le_of_ble_eq_true rfl) rfl (Nat.le_of_ble_eq_true rfl) (Nat.le_of_ble_eq_true rfl) (by omega) (isK_of (sh11_z ha0)) (Tf240 (by omega) a0 ha0 i1 r10_2.1 r10_2.2 _ hxr17_3) ?_
  show aGo kad d 242 (20, ([(2, .int r10_2.1), (0, .ref a0), (1, .int i1)], [.int r17_3.1])) (aMem Z r17_3.2, t) _
  refine go_ops aMi242 2 _ (f1 := (22, ([(3, .int r17_3.1), (2, .int r10_2.1), (0, .ref a0), (1, .int i1)], [.int r17_3.1]))) rfl ?_
  refine gg_br (b := decide (¬ r17_3.1 = 0)) (tg := 56) (off := 34) aMi242 rfl rfl rfl rfl (fun hb => ?_) (fun hb => ?_)
  · rw [if_pos (of_decide_eq_true hb)] at h
    refine go_le (lv1 := [(0, .ref a0), (1, .int i1), (2, .int r10_2.1), (3, .int r17_3.1)]) (aLe_of (show (List.map (fun q => q.1) ([(0, .ref a0), (1, .int i1), (2, .int r10_2.1), (3, .int r17_3.1)] : ALv)).Nodup from (by show ([0, 1, 2, 3] : List Nat).Nodup; decide)) (aSubL_cons rfl (aSubL_cons rfl (aSubL_cons rfl (aSubL_cons rfl aSubL_nil))))) ?_
    exact Tf242_b56 hd a0 ha0 i1 r10_2.1 r17_3.1 r17_3.2 _ h
  · rw [if_neg (of_decide_eq_false hb)] at h
    refine go_ops aMi242 2 _ (f1 := (27, ([(3, .int r17_3.1), (2, .int r10_2.1), (0, .ref a0), (1, .int i1)], [.int (3 : Int32), .int i1]))) rfl ?_
    refine gg_br (b := decide (i1 = (3 : Int32))) (tg := 56) (off := 29) aMi242 rfl rfl rfl rfl (fun hb => ?_) (fun hb => ?_)
    · rw [if_pos (of_decide_eq_true hb)] at h
      refine go_le (lv1 := [(0, .ref a0), (1, .int i1), (2, .int r10_2.1), (3, .int r17_3.1)]) (aLe_of (show (List.map (fun q => q.1) ([(0, .ref a0), (1, .int i1), (2, .int r10_2.1), (3, .int r17_3.1)] : ALv)).Nodup from (by show ([0, 1, 2, 3] : List Nat).Nodup; decide)) (aSubL_cons rfl (aSubL_cons rfl (aSubL_cons rfl (aSubL_cons rfl aSubL_nil))))) ?_
      exact Tf242_b56 hd a0 ha0 i1 r10_2.1 r17_3.1 r17_3.2 _ h
    · rw [if_neg (of_decide_eq_false hb)] at h
      refine go_ops aMi242 2 _ (f1 := (32, ([(3, .int r17_3.1), (2, .int r10_2.1), (0, .ref a0), (1, .int i1)], [.int (4 : Int32), .int i1]))) rfl ?_
      refine gg_br (b := decide (i1 = (4 : Int32))) (tg := 56) (off := 24) aMi242 rfl rfl rfl rfl (fun hb => ?_) (fun hb => ?_)
      · rw [if_pos (of_decide_eq_true hb)] at h
        refine go_le (lv1 := [(0, .ref a0), (1, .int i1), (2, .int r10_2.1), (3, .int r17_3.1)]) (aLe_of (show (List.map (fun q => q.1) ([(0, .ref a0), (1, .int i1), (2, .int r10_2.1), (3, .int r17_3.1)] : ALv)).Nodup from (by show ([0, 1, 2, 3] : List Nat).Nodup; decide)) (aSubL_cons rfl (aSubL_cons rfl (aSubL_cons rfl (aSubL_cons rfl aSubL_nil))))) ?_
        exact Tf242_b56 hd a0 ha0 i1 r10_2.1 r17_3.1 r17_3.2 _ h
      · rw [if_neg (of_decide_eq_false hb)] at h
        refine go_ops aMi242 2 _ (f1 := (38, ([(3, .int r17_3.1), (2, .int r10_2.1), (0, .ref a0), (1, .int i1)], [.int (6 : Int32), .int i1]))) rfl ?_
        refine gg_br (b := decide (¬ i1 = (6 : Int32))) (tg := 60) (off := 22) aMi242 rfl rfl rfl rfl (fun hb => ?_) (fun hb => ?_)
        · rw [if_pos (of_decide_eq_true hb)] at h
          refine go_le (lv1 := [(0, .ref a0), (1, .int i1), (2, .int r10_2.1), (3, .int r17_3.1)]) (aLe_of (show (List.map (fun q => q.1) ([(0, .ref a0), (1, .int i1), (2, .int r10_2.1), (3, .int r17_3.1)] : ALv)).Nodup from (by show ([0, 1, 2, 3] : List Nat).Nodup; decide)) (aSubL_cons rfl (aSubL_cons rfl (aSubL_cons rfl (aSubL_cons rfl aSubL_nil))))) ?_
          exact Tf242_b60 hd a0 ha0 i1 r10_2.1 r17_3.1 r17_3.2 _ h
        · rw [if_neg (of_decide_eq_false hb)] at h
          refine go_ops aMi242 1 _ (f1 := (42, ([(3, .int r17_3.1), (2, .int r10_2.1), (0, .ref a0), (1, .int i1)], [.ref a0]))) rfl ?_
          refine gg_gR (b := (a0 + 16)) aMi242 rfl rfl rfl (gR_of (sh11_z ha0) (sh11_r26 ha0)) ?_
          refine go_ops aMi242 1 _ (f1 := (46, ([(3, .int r17_3.1), (2, .int r10_2.1), (0, .ref a0), (1, .int i1)], [.int (0 : Int32), .ref (a0 + 16)]))) rfl ?_
          obtain ⟨j46_4, hxj46_4, h⟩ := Option.bind_eq_some_iff.mp h
          refine gg_lI (Or.inl ⟨rfl, rfl⟩) aMi242 rfl (lI_of (sh11_a26 ha0) hxj46_4) ?_
          refine go_ops aMi242 1 _ (f1 := (48, ([(3, .int r17_3.1), (2, .int r10_2.1), (0, .ref a0), (1, .int i1)], [.ref a0, .int (r17_3.2 (a0 + 16) j46_4)]))) rfl ?_
          refine gg_gR (b := (a0 + 16)) aMi242 rfl rfl rfl (gR_of (sh11_z ha0) (sh11_r26 ha0)) ?_
          refine go_ops aMi242 1 _ (f1 := (52, ([(3, .int r17_3.1), (2, .int r10_2.1), (0, .ref a0), (1, .int i1)], [.int (1 : Int32), .ref (a0 + 16), .int (r17_3.2 (a0 + 16) j46_4)]))) rfl ?_
          obtain ⟨j52_5, hxj52_5, h⟩ := Option.bind_eq_some_iff.mp h
          refine gg_lI (Or.inl ⟨rfl, rfl⟩) aMi242 rfl (lI_of (sh11_a26 ha0) hxj52_5) ?_
          refine gg_br (b := decide (¬ (r17_3.2 (a0 + 16) j46_4) = (r17_3.2 (a0 + 16) j52_5))) (tg := 60) (off := 7) aMi242 rfl rfl rfl rfl (fun hb => ?_) (fun hb => ?_)
          · rw [if_pos (of_decide_eq_true hb)] at h
            refine go_le (lv1 := [(0, .ref a0), (1, .int i1), (2, .int r10_2.1), (3, .int r17_3.1)]) (aLe_of (show (List.map (fun q => q.1) ([(0, .ref a0), (1, .int i1), (2, .int r10_2.1), (3, .int r17_3.1)] : ALv)).Nodup from (by show ([0, 1, 2, 3] : List Nat).Nodup; decide)) (aSubL_cons rfl (aSubL_cons rfl (aSubL_cons rfl (aSubL_cons rfl aSubL_nil))))) ?_
            exact Tf242_b60 hd a0 ha0 i1 r10_2.1 r17_3.1 r17_3.2 _ h
          · rw [if_neg (of_decide_eq_false hb)] at h
            refine go_le (lv1 := [(0, .ref a0), (1, .int i1), (2, .int r10_2.1), (3, .int r17_3.1)]) (aLe_of (show (List.map (fun q => q.1) ([(0, .ref a0), (1, .int i1), (2, .int r10_2.1), (3, .int r17_3.1)] : ALv)).Nodup from (by show ([0, 1, 2, 3] : List Nat).Nodup; decide)) (aSubL_cons rfl (aSubL_cons rfl (aSubL_cons rfl (aSubL_cons rfl aSubL_nil))))) ?_
            exact Tf242_b56 hd a0 ha0 i1 r10_2.1 r17_3.1 r17_3.2 _ h
-- KernelGymModel.others (III)V
def f233_b45 (kad : Nat → Nat) (N : Nat) (Z : AZ) (a0 : Nat) (s0 : Int32) (I : AI) : Option (Unit × AI) :=
  (wB I a0 30 s0).bind fun I45_1 =>
  (f220 kad N Z a0 I45_1).bind fun r50_2 =>
  (wI r50_2.2 a0 27 r50_2.1).bind fun I53_3 =>
  (wI I53_3 a0 31 (1 : Int32)).bind fun I58_4 =>
  some ((), I58_4)
set_option maxRecDepth 20000 in
theorem Tf233_b45 {kad : Nat → Nat} {N : Nat} {Z : AZ} {d : Nat} {t : Option Nat × (Nat × Nat)} (hd : 4 ≤ d) : ∀ (a0 : Nat) (ha0 : sh11 kad Z a0) (s0 : Int32) (I : AI) (r : Unit × AI), f233_b45 kad N Z a0 s0 I = some r → aGo kad d 233 (45, ([(0, .ref a0)], [.int s0, .ref a0])) (aMem Z I, t) (qV Z t r) := by
  intro a0 ha0 s0 I r h
  unfold f233_b45 at h
  obtain ⟨I45_1, hxI45_1, h⟩ := Option.bind_eq_some_iff.mp h
  refine gg_pB aMi233 rfl rfl rfl rfl (by decide) (pB_of (sh11_z ha0) hxI45_1) ?_
  refine go_ops aMi233 2 _ (f1 := (50, ([(0, .ref a0)], [.ref a0, .ref a0]))) rfl ?_
  obtain ⟨r50_2, hxr50_2, h⟩ := Option.bind_eq_some_iff.mp h
  refine gg_cv (as := []) (r := [.ref a0]) aMi233 rfl rfl rfl aMi220 (Nat.le_of_ble_eq_true rfl) rfl (Nat.le_of_ble_eq_true rfl) (Nat.le_of_ble_eq_true rfl) (by omega) (isK_of (sh11_z ha0)) (Tf220 (by omega) a0 ha0 I45_1 _ hxr50_2) ?_
  show aGo kad d 233 (53, ([(0, .ref a0)], [.int r50_2.1, .ref a0])) (aMem Z r50_2.2, t) _
  obtain ⟨I53_3, hxI53_3, h⟩ := Option.bind_eq_some_iff.mp h
  refine gg_pI aMi233 rfl rfl rfl rfl (by decide) (pI_of (sh11_z ha0) hxI53_3) ?_
  refine go_ops aMi233 2 _ (f1 := (58, ([(0, .ref a0)], [.int (1 : Int32), .ref a0]))) rfl ?_
  obtain ⟨I58_4, hxI58_4, h⟩ := Option.bind_eq_some_iff.mp h
  refine gg_pB aMi233 rfl rfl rfl rfl (by decide) (pB_lit (sh11_z ha0) (Or.inr rfl) hxI58_4) ?_
  cases h
  exact go_ret aMi233 rfl rfl ⟨rfl, rfl⟩
def f233_b26 (kad : Nat → Nat) (N : Nat) (Z : AZ) (a0 : Nat) (i4 : Int32) (s0 : Int32) (I : AI) : Option (Unit × AI) :=
  (wB I a0 29 s0).bind fun I26_1 =>
  if ¬ ((i4 / (2 : Int32)) - (i4 / (2 : Int32)) / (2 : Int32) * (2 : Int32)) = (1 : Int32) then
    f233_b45 kad N Z a0 (0 : Int32) I26_1
  else
    f233_b45 kad N Z a0 (1 : Int32) I26_1
set_option maxRecDepth 20000 in
theorem Tf233_b26 {kad : Nat → Nat} {N : Nat} {Z : AZ} {d : Nat} {t : Option Nat × (Nat × Nat)} (hd : 4 ≤ d) : ∀ (a0 : Nat) (ha0 : sh11 kad Z a0) (i4 : Int32) (s0 : Int32) (I : AI) (r : Unit × AI), f233_b26 kad N Z a0 i4 s0 I = some r → aGo kad d 233 (26, ([(0, .ref a0), (4, .int i4)], [.int s0, .ref a0])) (aMem Z I, t) (qV Z t r) := by
  intro a0 ha0 i4 s0 I r h
  unfold f233_b26 at h
  obtain ⟨I26_1, hxI26_1, h⟩ := Option.bind_eq_some_iff.mp h
  refine gg_pB aMi233 rfl rfl rfl rfl (by decide) (pB_of (sh11_z ha0) hxI26_1) ?_
  refine go_ops aMi233 7 _ (f1 := (37, ([(0, .ref a0), (4, .int i4)], [.int (1 : Int32), .int ((i4 / (2 : Int32)) - (i4 / (2 : Int32)) / (2 : Int32) * (2 : Int32)), .ref a0]))) rfl ?_
  refine gg_br (b := decide (¬ ((i4 / (2 : Int32)) - (i4 / (2 : Int32)) / (2 : Int32) * (2 : Int32)) = (1 : Int32))) (tg := 44) (off := 7) aMi233 rfl rfl rfl rfl (fun hb => ?_) (fun hb => ?_)
  · rw [if_pos (of_decide_eq_true hb)] at h
    refine go_ops aMi233 1 _ (f1 := (45, ([(0, .ref a0), (4, .int i4)], [.int (0 : Int32), .ref a0]))) rfl ?_
    refine go_le (lv1 := [(0, .ref a0)]) (aLe_of (show (List.map (fun q => q.1) ([(0, .ref a0)] : ALv)).Nodup from (by show ([0] : List Nat).Nodup; decide)) (aSubL_cons rfl aSubL_nil)) ?_
    exact Tf233_b45 hd a0 ha0 (0 : Int32) I26_1 _ h
  · rw [if_neg (of_decide_eq_false hb)] at h
    refine go_ops aMi233 2 _ (f1 := (45, ([(0, .ref a0), (4, .int i4)], [.int (1 : Int32), .ref a0]))) rfl ?_
    refine go_le (lv1 := [(0, .ref a0)]) (aLe_of (show (List.map (fun q => q.1) ([(0, .ref a0)] : ALv)).Nodup from (by show ([0] : List Nat).Nodup; decide)) (aSubL_cons rfl aSubL_nil)) ?_
    exact Tf233_b45 hd a0 ha0 (1 : Int32) I26_1 _ h
def f233_b246 (kad : Nat → Nat) (N : Nat) (Z : AZ) (a0 : Nat) (I : AI) : Option (Unit × AI) :=
  some ((), I)
set_option maxRecDepth 20000 in
theorem Tf233_b246 {kad : Nat → Nat} {N : Nat} {Z : AZ} {d : Nat} {t : Option Nat × (Nat × Nat)} (hd : 4 ≤ d) : ∀ (a0 : Nat) (ha0 : sh11 kad Z a0) (I : AI) (r : Unit × AI), f233_b246 kad N Z a0 I = some r → aGo kad d 233 (246, ([], [])) (aMem Z I, t) (qV Z t r) := by
  intro a0 ha0 I r h
  unfold f233_b246 at h
  cases h
  exact go_ret aMi233 rfl rfl ⟨rfl, rfl⟩
def f233_b220 (kad : Nat → Nat) (N : Nat) (Z : AZ) (a0 : Nat) (i1 : Int32) (i3 : Int32) (I : AI) : Option (Unit × AI) :=
  if ¬ i1 = (25 : Int32) then
    f233_b246 kad N Z a0 I
  else
    (ixA 60 (I a0 37)).bind fun j235_2 =>
    (wI I (a0 + 17) j235_2 i3).bind fun I235_1 =>
    (wI I235_1 a0 37 ((I235_1 a0 37) + (1 : Int32))).bind fun I243_3 =>
    f233_b246 kad N Z a0 I243_3
set_option maxRecDepth 20000 in
theorem Tf233_b220 {kad : Nat → Nat} {N : Nat} {Z : AZ} {d : Nat} {t : Option Nat × (Nat × Nat)} (hd : 4 ≤ d) : ∀ (a0 : Nat) (ha0 : sh11 kad Z a0) (i1 : Int32) (i3 : Int32) (I : AI) (r : Unit × AI), f233_b220 kad N Z a0 i1 i3 I = some r → aGo kad d 233 (220, ([(0, .ref a0), (1, .int i1), (3, .int i3)], [])) (aMem Z I, t) (qV Z t r) := by
  intro a0 ha0 i1 i3 I r h
  unfold f233_b220 at h
  refine go_ops aMi233 2 _ (f1 := (223, ([(0, .ref a0), (1, .int i1), (3, .int i3)], [.int (25 : Int32), .int i1]))) rfl ?_
  refine gg_br (b := decide (¬ i1 = (25 : Int32))) (tg := 246) (off := 23) aMi233 rfl rfl rfl rfl (fun hb => ?_) (fun hb => ?_)
  · rw [if_pos (of_decide_eq_true hb)] at h
    refine go_le (lv1 := []) (aLe_of (show (List.map (fun q => q.1) ([] : ALv)).Nodup from (by show ([] : List Nat).Nodup; decide)) aSubL_nil) ?_
    exact Tf233_b246 hd a0 ha0 I _ h
  · rw [if_neg (of_decide_eq_false hb)] at h
    refine go_ops aMi233 1 _ (f1 := (227, ([(0, .ref a0), (1, .int i1), (3, .int i3)], [.ref a0]))) rfl ?_
    refine gg_gR (b := (a0 + 17)) aMi233 rfl rfl rfl (gR_of (sh11_z ha0) (sh11_r36 ha0)) ?_
    refine go_ops aMi233 1 _ (f1 := (231, ([(0, .ref a0), (1, .int i1), (3, .int i3)], [.ref a0, .ref (a0 + 17)]))) rfl ?_
    refine gg_gI aMi233 rfl rfl rfl (gI_of (sh11_z ha0)) ?_
    refine go_ops aMi233 1 _ (f1 := (235, ([(0, .ref a0), (1, .int i1), (3, .int i3)], [.int i3, .int (I a0 37), .ref (a0 + 17)]))) rfl ?_
    obtain ⟨j235_2, hxj235_2, h⟩ := Option.bind_eq_some_iff.mp h
    obtain ⟨I235_1, hxI235_1, h⟩ := Option.bind_eq_some_iff.mp h
    refine gg_sI (Or.inl ⟨rfl, rfl⟩) aMi233 rfl (sI_of (sh11_a36 ha0) hxj235_2 hxI235_1) ?_
    refine go_ops aMi233 2 _ (f1 := (238, ([(0, .ref a0), (1, .int i1), (3, .int i3)], [.ref a0, .ref a0]))) rfl ?_
    refine gg_gI aMi233 rfl rfl rfl (gI_of (sh11_z ha0)) ?_
    refine go_ops aMi233 2 _ (f1 := (243, ([(0, .ref a0), (1, .int i1), (3, .int i3)], [.int ((I235_1 a0 37) + (1 : Int32)), .ref a0]))) rfl ?_
    obtain ⟨I243_3, hxI243_3, h⟩ := Option.bind_eq_some_iff.mp h
    refine gg_pI aMi233 rfl rfl rfl rfl (by decide) (pI_of (sh11_z ha0) hxI243_3) ?_
    refine go_le (lv1 := []) (aLe_of (show (List.map (fun q => q.1) ([] : ALv)).Nodup from (by show ([] : List Nat).Nodup; decide)) aSubL_nil) ?_
    exact Tf233_b246 hd a0 ha0 I243_3 _ h
def f233_b216 (kad : Nat → Nat) (N : Nat) (Z : AZ) (a0 : Nat) (i1 : Int32) (i3 : Int32) (s0 : Int32) (s1 : Int32) (I : AI) : Option (Unit × AI) :=
  (wI I a0 39 (s1 + s0)).bind fun I217_1 =>
  f233_b220 kad N Z a0 i1 i3 I217_1
set_option maxRecDepth 20000 in
theorem Tf233_b216 {kad : Nat → Nat} {N : Nat} {Z : AZ} {d : Nat} {t : Option Nat × (Nat × Nat)} (hd : 4 ≤ d) : ∀ (a0 : Nat) (ha0 : sh11 kad Z a0) (i1 : Int32) (i3 : Int32) (s0 : Int32) (s1 : Int32) (I : AI) (r : Unit × AI), f233_b216 kad N Z a0 i1 i3 s0 s1 I = some r → aGo kad d 233 (216, ([(0, .ref a0), (1, .int i1), (3, .int i3)], [.int s0, .int s1, .ref a0])) (aMem Z I, t) (qV Z t r) := by
  intro a0 ha0 i1 i3 s0 s1 I r h
  unfold f233_b216 at h
  refine go_ops aMi233 1 _ (f1 := (217, ([(0, .ref a0), (1, .int i1), (3, .int i3)], [.int (s1 + s0), .ref a0]))) rfl ?_
  obtain ⟨I217_1, hxI217_1, h⟩ := Option.bind_eq_some_iff.mp h
  refine gg_pI aMi233 rfl rfl rfl rfl (by decide) (pI_of (sh11_z ha0) hxI217_1) ?_
  exact Tf233_b220 hd a0 ha0 i1 i3 I217_1 _ h
def f233_b200 (kad : Nat → Nat) (N : Nat) (Z : AZ) (a0 : Nat) (i1 : Int32) (i3 : Int32) (i4 : Int32) (s0 : Int32) (s1 : Int32) (I : AI) : Option (Unit × AI) :=
  (ixA 4 s1).bind fun j200_2 =>
  (wI I (a0 + 16) j200_2 s0).bind fun I200_1 =>
  if i4 = 0 then
    f233_b216 kad N Z a0 i1 i3 (0 : Int32) (I200_1 a0 39) I200_1
  else
    f233_b216 kad N Z a0 i1 i3 (1 : Int32) (I200_1 a0 39) I200_1
set_option maxRecDepth 20000 in
theorem Tf233_b200 {kad : Nat → Nat} {N : Nat} {Z : AZ} {d : Nat} {t : Option Nat × (Nat × Nat)} (hd : 4 ≤ d) : ∀ (a0 : Nat) (ha0 : sh11 kad Z a0) (i1 : Int32) (i3 : Int32) (i4 : Int32) (s0 : Int32) (s1 : Int32) (I : AI) (r : Unit × AI), f233_b200 kad N Z a0 i1 i3 i4 s0 s1 I = some r → aGo kad d 233 (200, ([(0, .ref a0), (1, .int i1), (3, .int i3), (4, .int i4)], [.int s0, .int s1, .ref (a0 + 16)])) (aMem Z I, t) (qV Z t r) := by
  intro a0 ha0 i1 i3 i4 s0 s1 I r h
  unfold f233_b200 at h
  obtain ⟨j200_2, hxj200_2, h⟩ := Option.bind_eq_some_iff.mp h
  obtain ⟨I200_1, hxI200_1, h⟩ := Option.bind_eq_some_iff.mp h
  refine gg_sI (Or.inl ⟨rfl, rfl⟩) aMi233 rfl (sI_of (sh11_a26 ha0) hxj200_2 hxI200_1) ?_
  refine go_ops aMi233 2 _ (f1 := (203, ([(0, .ref a0), (1, .int i1), (3, .int i3), (4, .int i4)], [.ref a0, .ref a0]))) rfl ?_
  refine gg_gI aMi233 rfl rfl rfl (gI_of (sh11_z ha0)) ?_
  refine go_ops aMi233 1 _ (f1 := (208, ([(0, .ref a0), (1, .int i1), (3, .int i3), (4, .int i4)], [.int i4, .int (I200_1 a0 39), .ref a0]))) rfl ?_
  refine gg_br (b := decide (i4 = 0)) (tg := 215) (off := 7) aMi233 rfl rfl rfl rfl (fun hb => ?_) (fun hb => ?_)
  · rw [if_pos (of_decide_eq_true hb)] at h
    refine go_ops aMi233 1 _ (f1 := (216, ([(0, .ref a0), (1, .int i1), (3, .int i3), (4, .int i4)], [.int (0 : Int32), .int (I200_1 a0 39), .ref a0]))) rfl ?_
    refine go_le (lv1 := [(0, .ref a0), (1, .int i1), (3, .int i3)]) (aLe_of (show (List.map (fun q => q.1) ([(0, .ref a0), (1, .int i1), (3, .int i3)] : ALv)).Nodup from (by show ([0, 1, 3] : List Nat).Nodup; decide)) (aSubL_cons rfl (aSubL_cons rfl (aSubL_cons rfl aSubL_nil)))) ?_
    exact Tf233_b216 hd a0 ha0 i1 i3 (0 : Int32) (I200_1 a0 39) I200_1 _ h
  · rw [if_neg (of_decide_eq_false hb)] at h
    refine go_ops aMi233 2 _ (f1 := (216, ([(0, .ref a0), (1, .int i1), (3, .int i3), (4, .int i4)], [.int (1 : Int32), .int (I200_1 a0 39), .ref a0]))) rfl ?_
    refine go_le (lv1 := [(0, .ref a0), (1, .int i1), (3, .int i3)]) (aLe_of (show (List.map (fun q => q.1) ([(0, .ref a0), (1, .int i1), (3, .int i3)] : ALv)).Nodup from (by show ([0, 1, 3] : List Nat).Nodup; decide)) (aSubL_cons rfl (aSubL_cons rfl (aSubL_cons rfl aSubL_nil)))) ?_
    exact Tf233_b216 hd a0 ha0 i1 i3 (1 : Int32) (I200_1 a0 39) I200_1 _ h
def f233_b174 (kad : Nat → Nat) (N : Nat) (Z : AZ) (a0 : Nat) (i1 : Int32) (i2 : Int32) (i3 : Int32) (s0 : Int32) (I : AI) : Option (Unit × AI) :=
  if s0 = 0 then
    f233_b200 kad N Z a0 i1 i3 s0 (65535 : Int32) i2 I
  else
    (ixA 20 (I a0 39)).bind fun j194_1 =>
    f233_b200 kad N Z a0 i1 i3 s0 (I (a0 + 19) j194_1) i2 I
set_option maxRecDepth 20000 in
theorem Tf233_b174 {kad : Nat → Nat} {N : Nat} {Z : AZ} {d : Nat} {t : Option Nat × (Nat × Nat)} (hd : 4 ≤ d) : ∀ (a0 : Nat) (ha0 : sh11 kad Z a0) (i1 : Int32) (i2 : Int32) (i3 : Int32) (s0 : Int32) (I : AI) (r : Unit × AI), f233_b174 kad N Z a0 i1 i2 i3 s0 I = some r → aGo kad d 233 (174, ([(0, .ref a0), (1, .int i1), (2, .int i2), (3, .int i3)], [.int s0])) (aMem Z I, t) (qV Z t r) := by
  intro a0 ha0 i1 i2 i3 s0 I r h
  unfold f233_b174 at h
  refine go_ops aMi233 2 _ (f1 := (177, ([(4, .int s0), (0, .ref a0), (1, .int i1), (2, .int i2), (3, .int i3)], [.ref a0]))) rfl ?_
  refine gg_gR (b := (a0 + 16)) aMi233 rfl rfl rfl (gR_of (sh11_z ha0) (sh11_r26 ha0)) ?_
  refine go_ops aMi233 2 _ (f1 := (183, ([(4, .int s0), (0, .ref a0), (1, .int i1), (2, .int i2), (3, .int i3)], [.int s0, .int i2, .ref (a0 + 16)]))) rfl ?_
  refine gg_br (b := decide (s0 = 0)) (tg := 198) (off := 15) aMi233 rfl rfl rfl rfl (fun hb => ?_) (fun hb => ?_)
  · rw [if_pos (of_decide_eq_true hb)] at h
    refine gg_kI (Or.inl ⟨rfl, rfl⟩) aMi233 rfl rfl ?_
    refine go_le (lv1 := [(0, .ref a0), (1, .int i1), (3, .int i3), (4, .int s0)]) (aLe_of (show (List.map (fun q => q.1) ([(0, .ref a0), (1, .int i1), (3, .int i3), (4, .int s0)] : ALv)).Nodup from (by show ([0, 1, 3, 4] : List Nat).Nodup; decide)) (aSubL_cons rfl (aSubL_cons rfl (aSubL_cons rfl (aSubL_cons rfl aSubL_nil))))) ?_
    exact Tf233_b200 hd a0 ha0 i1 i3 s0 (65535 : Int32) i2 I _ h
  · rw [if_neg (of_decide_eq_false hb)] at h
    refine go_ops aMi233 1 _ (f1 := (187, ([(4, .int s0), (0, .ref a0), (1, .int i1), (2, .int i2), (3, .int i3)], [.ref a0, .int i2, .ref (a0 + 16)]))) rfl ?_
    refine gg_gR (b := (a0 + 19)) aMi233 rfl rfl rfl (gR_of (sh11_z ha0) (sh11_r42 ha0)) ?_
    refine go_ops aMi233 1 _ (f1 := (191, ([(4, .int s0), (0, .ref a0), (1, .int i1), (2, .int i2), (3, .int i3)], [.ref a0, .ref (a0 + 19), .int i2, .ref (a0 + 16)]))) rfl ?_
    refine gg_gI aMi233 rfl rfl rfl (gI_of (sh11_z ha0)) ?_
    obtain ⟨j194_1, hxj194_1, h⟩ := Option.bind_eq_some_iff.mp h
    refine gg_lI (Or.inl ⟨rfl, rfl⟩) aMi233 rfl (lI_of (sh11_a42 ha0) hxj194_1) ?_
    refine go_ops aMi233 1 _ (f1 := (200, ([(4, .int s0), (0, .ref a0), (1, .int i1), (2, .int i2), (3, .int i3)], [.int (I (a0 + 19) j194_1), .int i2, .ref (a0 + 16)]))) rfl ?_
    refine go_le (lv1 := [(0, .ref a0), (1, .int i1), (3, .int i3), (4, .int s0)]) (aLe_of (show (List.map (fun q => q.1) ([(0, .ref a0), (1, .int i1), (3, .int i3), (4, .int s0)] : ALv)).Nodup from (by show ([0, 1, 3, 4] : List Nat).Nodup; decide)) (aSubL_cons rfl (aSubL_cons rfl (aSubL_cons rfl (aSubL_cons rfl aSubL_nil))))) ?_
    exact Tf233_b200 hd a0 ha0 i1 i3 s0 (I (a0 + 19) j194_1) i2 I _ h
def f233_b152 (kad : Nat → Nat) (N : Nat) (Z : AZ) (a0 : Nat) (i1 : Int32) (i2 : Int32) (i3 : Int32) (I : AI) : Option (Unit × AI) :=
  if ¬ i1 = (24 : Int32) then
    f233_b220 kad N Z a0 i1 i3 I
  else
    (f225 kad N Z a0 I).bind fun r163_1 =>
    if r163_1.1 ≤ (I a0 39) then
      f233_b174 kad N Z a0 i1 i2 i3 (0 : Int32) r163_1.2
    else
      f233_b174 kad N Z a0 i1 i2 i3 (1 : Int32) r163_1.2
set_option maxRecDepth 20000 in
theorem Tf233_b152 {kad : Nat → Nat} {N : Nat} {Z : AZ} {d : Nat} {t : Option Nat × (Nat × Nat)} (hd : 4 ≤ d) : ∀ (a0 : Nat) (ha0 : sh11 kad Z a0) (i1 : Int32) (i2 : Int32) (i3 : Int32) (I : AI) (r : Unit × AI), f233_b152 kad N Z a0 i1 i2 i3 I = some r → aGo kad d 233 (152, ([(0, .ref a0), (1, .int i1), (2, .int i2), (3, .int i3)], [])) (aMem Z I, t) (qV Z t r) := by
  intro a0 ha0 i1 i2 i3 I r h
  unfold f233_b152 at h
  refine go_ops aMi233 2 _ (f1 := (155, ([(0, .ref a0), (1, .int i1), (2, .int i2), (3, .int i3)], [.int (24 : Int32), .int i1]))) rfl ?_
  refine gg_br (b := decide (¬ i1 = (24 : Int32))) (tg := 220) (off := 65) aMi233 rfl rfl rfl rfl (fun hb => ?_) (fun hb => ?_)
  · rw [if_pos (of_decide_eq_true hb)] at h
    refine go_le (lv1 := [(0, .ref a0), (1, .int i1), (3, .int i3)]) (aLe_of (show (List.map (fun q => q.1) ([(0, .ref a0), (1, .int i1), (3, .int i3)] : ALv)).Nodup from (by show ([0, 1, 3] : List Nat).Nodup; decide)) (aSubL_cons rfl (aSubL_cons rfl (aSubL_cons rfl aSubL_nil)))) ?_
    exact Tf233_b220 hd a0 ha0 i1 i3 I _ h
  · rw [if_neg (of_decide_eq_false hb)] at h
    refine go_ops aMi233 1 _ (f1 := (159, ([(0, .ref a0), (1, .int i1), (2, .int i2), (3, .int i3)], [.ref a0]))) rfl ?_
    refine gg_gI aMi233 rfl rfl rfl (gI_of (sh11_z ha0)) ?_
    refine go_ops aMi233 1 _ (f1 := (163, ([(0, .ref a0), (1, .int i1), (2, .int i2), (3, .int i3)], [.ref a0, .int (I a0 39)]))) rfl ?_
    obtain ⟨r163_1, hxr163_1, h⟩ := Option.bind_eq_some_iff.mp h
    refine gg_cv (as := []) (r := [.int (I a0 39)]) aMi233 rfl rfl rfl aMi225 (Nat.le_of_ble_eq_true rfl) rfl (Nat.le_of_ble_eq_true rfl) (Nat.le_of_ble_eq_true rfl) (by omega) (isK_of (sh11_z ha0)) (Tf225 (by omega) a0 ha0 I _ hxr163_1) ?_
    show aGo kad d 233 (166, ([(0, .ref a0), (1, .int i1), (2, .int i2), (3, .int i3)], [.int r163_1.1, .int (I a0 39)])) (aMem Z r163_1.2, t) _
    refine gg_br (b := decide (r163_1.1 ≤ (I a0 39))) (tg := 173) (off := 7) aMi233 rfl rfl rfl rfl (fun hb => ?_) (fun hb => ?_)
    · rw [if_pos (of_decide_eq_true hb)] at h
      refine go_ops aMi233 1 _ (f1 := (174, ([(0, .ref a0), (1, .int i1), (2, .int i2), (3, .int i3)], [.int (0 : Int32)]))) rfl ?_
      exact Tf233_b174 hd a0 ha0 i1 i2 i3 (0 : Int32) r163_1.2 _ h
    · rw [if_neg (of_decide_eq_false hb)] at h
      refine go_ops aMi233 2 _ (f1 := (174, ([(0, .ref a0), (1, .int i1), (2, .int i2), (3, .int i3)], [.int (1 : Int32)]))) rfl ?_
      exact Tf233_b174 hd a0 ha0 i1 i2 i3 (1 : Int32) r163_1.2 _ h
def f233_b133 (kad : Nat → Nat) (N : Nat) (Z : AZ) (a0 : Nat) (i1 : Int32) (i2 : Int32) (i3 : Int32) (s0 : Int32) (I : AI) : Option (Unit × AI) :=
  (wB I a0 31 s0).bind fun I133_1 =>
  if ¬ i1 = (23 : Int32) then
    f233_b152 kad N Z a0 i1 i2 i3 I133_1
  else
    (wI I133_1 a0 34 i3).bind fun I144_2 =>
    (wI I144_2 a0 35 (0 : Int32)).bind fun I149_3 =>
    f233_b152 kad N Z a0 i1 i2 i3 I149_3
set_option maxRecDepth 20000 in
theorem Tf233_b133 {kad : Nat → Nat} {N : Nat} {Z : AZ} {d : Nat} {t : Option Nat × (Nat × Nat)} (hd : 4 ≤ d) : ∀ (a0 : Nat) (ha0 : sh11 kad Z a0) (i1 : Int32) (i2 : Int32) (i3 : Int32) (s0 : Int32) (I : AI) (r : Unit × AI), f233_b133 kad N Z a0 i1 i2 i3 s0 I = some r → aGo kad d 233 (133, ([(0, .ref a0), (1, .int i1), (2, .int i2), (3, .int i3)], [.int s0, .ref a0])) (aMem Z I, t) (qV Z t r) := by
  intro a0 ha0 i1 i2 i3 s0 I r h
  unfold f233_b133 at h
  obtain ⟨I133_1, hxI133_1, h⟩ := Option.bind_eq_some_iff.mp h
  refine gg_pB aMi233 rfl rfl rfl rfl (by decide) (pB_of (sh11_z ha0) hxI133_1) ?_
  refine go_ops aMi233 2 _ (f1 := (139, ([(0, .ref a0), (1, .int i1), (2, .int i2), (3, .int i3)], [.int (23 : Int32), .int i1]))) rfl ?_
  refine gg_br (b := decide (¬ i1 = (23 : Int32))) (tg := 152) (off := 13) aMi233 rfl rfl rfl rfl (fun hb => ?_) (fun hb => ?_)
  · rw [if_pos (of_decide_eq_true hb)] at h
    exact Tf233_b152 hd a0 ha0 i1 i2 i3 I133_1 _ h
  · rw [if_neg (of_decide_eq_false hb)] at h
    refine go_ops aMi233 2 _ (f1 := (144, ([(0, .ref a0), (1, .int i1), (2, .int i2), (3, .int i3)], [.int i3, .ref a0]))) rfl ?_
    obtain ⟨I144_2, hxI144_2, h⟩ := Option.bind_eq_some_iff.mp h
    refine gg_pI aMi233 rfl rfl rfl rfl (by decide) (pI_of (sh11_z ha0) hxI144_2) ?_
    refine go_ops aMi233 2 _ (f1 := (149, ([(0, .ref a0), (1, .int i1), (2, .int i2), (3, .int i3)], [.int (0 : Int32), .ref a0]))) rfl ?_
    obtain ⟨I149_3, hxI149_3, h⟩ := Option.bind_eq_some_iff.mp h
    refine gg_pI aMi233 rfl rfl rfl rfl (by decide) (pI_of (sh11_z ha0) hxI149_3) ?_
    exact Tf233_b152 hd a0 ha0 i1 i2 i3 I149_3 _ h
def f233_b128 (kad : Nat → Nat) (N : Nat) (Z : AZ) (a0 : Nat) (i1 : Int32) (i2 : Int32) (i3 : Int32) (I : AI) : Option (Unit × AI) :=
  f233_b133 kad N Z a0 i1 i2 i3 (1 : Int32) I
set_option maxRecDepth 20000 in
theorem Tf233_b128 {kad : Nat → Nat} {N : Nat} {Z : AZ} {d : Nat} {t : Option Nat × (Nat × Nat)} (hd : 4 ≤ d) : ∀ (a0 : Nat) (ha0 : sh11 kad Z a0) (i1 : Int32) (i2 : Int32) (i3 : Int32) (I : AI) (r : Unit × AI), f233_b128 kad N Z a0 i1 i2 i3 I = some r → aGo kad d 233 (128, ([(0, .ref a0), (1, .int i1), (2, .int i2), (3, .int i3)], [.ref a0])) (aMem Z I, t) (qV Z t r) := by
  intro a0 ha0 i1 i2 i3 I r h
  unfold f233_b128 at h
  refine go_ops aMi233 2 _ (f1 := (133, ([(0, .ref a0), (1, .int i1), (2, .int i2), (3, .int i3)], [.int (1 : Int32), .ref a0]))) rfl ?_
  exact Tf233_b133 hd a0 ha0 i1 i2 i3 (1 : Int32) I _ h
def f233_b132 (kad : Nat → Nat) (N : Nat) (Z : AZ) (a0 : Nat) (i1 : Int32) (i2 : Int32) (i3 : Int32) (I : AI) : Option (Unit × AI) :=
  f233_b133 kad N Z a0 i1 i2 i3 (0 : Int32) I
set_option maxRecDepth 20000 in
theorem Tf233_b132 {kad : Nat → Nat} {N : Nat} {Z : AZ} {d : Nat} {t : Option Nat × (Nat × Nat)} (hd : 4 ≤ d) : ∀ (a0 : Nat) (ha0 : sh11 kad Z a0) (i1 : Int32) (i2 : Int32) (i3 : Int32) (I : AI) (r : Unit × AI), f233_b132 kad N Z a0 i1 i2 i3 I = some r → aGo kad d 233 (132, ([(0, .ref a0), (1, .int i1), (2, .int i2), (3, .int i3)], [.ref a0])) (aMem Z I, t) (qV Z t r) := by
  intro a0 ha0 i1 i2 i3 I r h
  unfold f233_b132 at h
  refine go_ops aMi233 1 _ (f1 := (133, ([(0, .ref a0), (1, .int i1), (2, .int i2), (3, .int i3)], [.int (0 : Int32), .ref a0]))) rfl ?_
  exact Tf233_b133 hd a0 ha0 i1 i2 i3 (0 : Int32) I _ h
def f233_b104 (kad : Nat → Nat) (N : Nat) (Z : AZ) (a0 : Nat) (i1 : Int32) (i2 : Int32) (i3 : Int32) (s0 : Int32) (s1 : Int32) (I : AI) : Option (Unit × AI) :=
  (wI I a0 27 (s1 + s0)).bind fun I105_1 =>
  if i1 = (19 : Int32) then
    f233_b128 kad N Z a0 i1 i2 i3 I105_1
  else
    if i1 = (20 : Int32) then
      f233_b132 kad N Z a0 i1 i2 i3 I105_1
    else
      if (I105_1 a0 31) = 0 then
        f233_b132 kad N Z a0 i1 i2 i3 I105_1
      else
        f233_b128 kad N Z a0 i1 i2 i3 I105_1
set_option maxRecDepth 20000 in
theorem Tf233_b104 {kad : Nat → Nat} {N : Nat} {Z : AZ} {d : Nat} {t : Option Nat × (Nat × Nat)} (hd : 4 ≤ d) : ∀ (a0 : Nat) (ha0 : sh11 kad Z a0) (i1 : Int32) (i2 : Int32) (i3 : Int32) (s0 : Int32) (s1 : Int32) (I : AI) (r : Unit × AI), f233_b104 kad N Z a0 i1 i2 i3 s0 s1 I = some r → aGo kad d 233 (104, ([(0, .ref a0), (1, .int i1), (2, .int i2), (3, .int i3)], [.int s0, .int s1, .ref a0])) (aMem Z I, t) (qV Z t r) := by
  intro a0 ha0 i1 i2 i3 s0 s1 I r h
  unfold f233_b104 at h
  refine go_ops aMi233 1 _ (f1 := (105, ([(0, .ref a0), (1, .int i1), (2, .int i2), (3, .int i3)], [.int (s1 + s0), .ref a0]))) rfl ?_
  obtain ⟨I105_1, hxI105_1, h⟩ := Option.bind_eq_some_iff.mp h
  refine gg_pI aMi233 rfl rfl rfl rfl (by decide) (pI_of (sh11_z ha0) hxI105_1) ?_
  refine go_ops aMi233 3 _ (f1 := (112, ([(0, .ref a0), (1, .int i1), (2, .int i2), (3, .int i3)], [.int (19 : Int32), .int i1, .ref a0]))) rfl ?_
  refine gg_br (b := decide (i1 = (19 : Int32))) (tg := 128) (off := 16) aMi233 rfl rfl rfl rfl (fun hb => ?_) (fun hb => ?_)
  · rw [if_pos (of_decide_eq_true hb)] at h
    exact Tf233_b128 hd a0 ha0 i1 i2 i3 I105_1 _ h
  · rw [if_neg (of_decide_eq_false hb)] at h
    refine go_ops aMi233 2 _ (f1 := (118, ([(0, .ref a0), (1, .int i1), (2, .int i2), (3, .int i3)], [.int (20 : Int32), .int i1, .ref a0]))) rfl ?_
    refine gg_br (b := decide (i1 = (20 : Int32))) (tg := 132) (off := 14) aMi233 rfl rfl rfl rfl (fun hb => ?_) (fun hb => ?_)
    · rw [if_pos (of_decide_eq_true hb)] at h
      exact Tf233_b132 hd a0 ha0 i1 i2 i3 I105_1 _ h
    · rw [if_neg (of_decide_eq_false hb)] at h
      refine go_ops aMi233 1 _ (f1 := (122, ([(0, .ref a0), (1, .int i1), (2, .int i2), (3, .int i3)], [.ref a0, .ref a0]))) rfl ?_
      refine gg_gI aMi233 rfl rfl rfl (gI_of (sh11_z ha0)) ?_
      refine gg_br (b := decide ((I105_1 a0 31) = 0)) (tg := 132) (off := 7) aMi233 rfl rfl rfl rfl (fun hb => ?_) (fun hb => ?_)
      · rw [if_pos (of_decide_eq_true hb)] at h
        exact Tf233_b132 hd a0 ha0 i1 i2 i3 I105_1 _ h
      · rw [if_neg (of_decide_eq_false hb)] at h
        exact Tf233_b128 hd a0 ha0 i1 i2 i3 I105_1 _ h
def f233_b103 (kad : Nat → Nat) (N : Nat) (Z : AZ) (a0 : Nat) (i1 : Int32) (i2 : Int32) (i3 : Int32) (s0 : Int32) (I : AI) : Option (Unit × AI) :=
  f233_b104 kad N Z a0 i1 i2 i3 (2 : Int32) s0 I
set_option maxRecDepth 20000 in
theorem Tf233_b103 {kad : Nat → Nat} {N : Nat} {Z : AZ} {d : Nat} {t : Option Nat × (Nat × Nat)} (hd : 4 ≤ d) : ∀ (a0 : Nat) (ha0 : sh11 kad Z a0) (i1 : Int32) (i2 : Int32) (i3 : Int32) (s0 : Int32) (I : AI) (r : Unit × AI), f233_b103 kad N Z a0 i1 i2 i3 s0 I = some r → aGo kad d 233 (103, ([(0, .ref a0), (1, .int i1), (2, .int i2), (3, .int i3)], [.int s0, .ref a0])) (aMem Z I, t) (qV Z t r) := by
  intro a0 ha0 i1 i2 i3 s0 I r h
  unfold f233_b103 at h
  refine go_ops aMi233 1 _ (f1 := (104, ([(0, .ref a0), (1, .int i1), (2, .int i2), (3, .int i3)], [.int (2 : Int32), .int s0, .ref a0]))) rfl ?_
  exact Tf233_b104 hd a0 ha0 i1 i2 i3 (2 : Int32) s0 I _ h
def f233 (kad : Nat → Nat) (N : Nat) (Z : AZ) (a0 : Nat) (i1 : Int32) (i2 : Int32) (i3 : Int32) (I : AI) : Option (Unit × AI) :=
  if ¬ i1 = (21 : Int32) then
    if ¬ i1 = (26 : Int32) then
      if ¬ i1 = (22 : Int32) then
        f233_b103 kad N Z a0 i1 i2 i3 (I a0 27) I
      else
        if ¬ (I a0 32) = 0 then
          f233_b103 kad N Z a0 i1 i2 i3 (I a0 27) I
        else
          if ¬ (I a0 33) = 0 then
            f233_b103 kad N Z a0 i1 i2 i3 (I a0 27) I
          else
            f233_b104 kad N Z a0 i1 i2 i3 (0 : Int32) (I a0 27) I
    else
      (f242 kad N Z a0 i3 I).bind fun r70_1 =>
      some ((), r70_1.2)
  else
    (f220 kad N Z a0 I).bind fun r7_2 =>
    if ¬ (r7_2.1 - r7_2.1 / (2 : Int32) * (2 : Int32)) = (1 : Int32) then
      f233_b26 kad N Z a0 r7_2.1 (0 : Int32) r7_2.2
    else
      f233_b26 kad N Z a0 r7_2.1 (1 : Int32) r7_2.2
set_option maxRecDepth 20000 in
theorem Tf233 {kad : Nat → Nat} {N : Nat} {Z : AZ} {d : Nat} {t : Option Nat × (Nat × Nat)} (hd : 4 ≤ d) : ∀ (a0 : Nat) (ha0 : sh11 kad Z a0) (i1 : Int32) (i2 : Int32) (i3 : Int32) (I : AI) (r : Unit × AI), f233 kad N Z a0 i1 i2 i3 I = some r → aGo kad d 233 (0, ([(0, .ref a0), (1, .int i1), (2, .int i2), (3, .int i3)], [])) (aMem Z I, t) (qV Z t r) := by
  intro a0 ha0 i1 i2 i3 I r h
  unfold f233 at h
  refine go_ops aMi233 2 _ (f1 := (3, ([(0, .ref a0), (1, .int i1), (2, .int i2), (3, .int i3)], [.int (21 : Int32), .int i1]))) rfl ?_
  refine gg_br (b := decide (¬ i1 = (21 : Int32))) (tg := 62) (off := 59) aMi233 rfl rfl rfl rfl (fun hb => ?_) (fun hb => ?_)
  · rw [if_pos (of_decide_eq_true hb)] at h
    refine go_ops aMi233 2 _ (f1 := (65, ([(0, .ref a0), (1, .int i1), (2, .int i2), (3, .int i3)], [.int (26 : Int32), .int i1]))) rfl ?_
    refine gg_br (b := decide (¬ i1 = (26 : Int32))) (tg := 74) (off := 9) aMi233 rfl rfl rfl rfl (fun hb => ?_) (fun hb => ?_)
    · rw [if_pos (of_decide_eq_true hb)] at h
      refine go_ops aMi233 2 _ (f1 := (76, ([(0, .ref a0), (1, .int i1), (2, .int i2), (3, .int i3)], [.ref a0, .ref a0]))) rfl ?_
      refine gg_gI aMi233 rfl rfl rfl (gI_of (sh11_z ha0)) ?_
      refine go_ops aMi233 2 _ (f1 := (82, ([(0, .ref a0), (1, .int i1), (2, .int i2), (3, .int i3)], [.int (22 : Int32), .int i1, .int (I a0 27), .ref a0]))) rfl ?_
      refine gg_br (b := decide (¬ i1 = (22 : Int32))) (tg := 103) (off := 21) aMi233 rfl rfl rfl rfl (fun hb => ?_) (fun hb => ?_)
      · rw [if_pos (of_decide_eq_true hb)] at h
        exact Tf233_b103 hd a0 ha0 i1 i2 i3 (I a0 27) I _ h
      · rw [if_neg (of_decide_eq_false hb)] at h
        refine go_ops aMi233 1 _ (f1 := (86, ([(0, .ref a0), (1, .int i1), (2, .int i2), (3, .int i3)], [.ref a0, .int (I a0 27), .ref a0]))) rfl ?_
        refine gg_gI aMi233 rfl rfl rfl (gI_of (sh11_z ha0)) ?_
        refine gg_br (b := decide (¬ (I a0 32) = 0)) (tg := 103) (off := 14) aMi233 rfl rfl rfl rfl (fun hb => ?_) (fun hb => ?_)
        · rw [if_pos (of_decide_eq_true hb)] at h
          exact Tf233_b103 hd a0 ha0 i1 i2 i3 (I a0 27) I _ h
        · rw [if_neg (of_decide_eq_false hb)] at h
          refine go_ops aMi233 1 _ (f1 := (93, ([(0, .ref a0), (1, .int i1), (2, .int i2), (3, .int i3)], [.ref a0, .int (I a0 27), .ref a0]))) rfl ?_
          refine gg_gI aMi233 rfl rfl rfl (gI_of (sh11_z ha0)) ?_
          refine gg_br (b := decide (¬ (I a0 33) = 0)) (tg := 103) (off := 7) aMi233 rfl rfl rfl rfl (fun hb => ?_) (fun hb => ?_)
          · rw [if_pos (of_decide_eq_true hb)] at h
            exact Tf233_b103 hd a0 ha0 i1 i2 i3 (I a0 27) I _ h
          · rw [if_neg (of_decide_eq_false hb)] at h
            refine go_ops aMi233 2 _ (f1 := (104, ([(0, .ref a0), (1, .int i1), (2, .int i2), (3, .int i3)], [.int (0 : Int32), .int (I a0 27), .ref a0]))) rfl ?_
            exact Tf233_b104 hd a0 ha0 i1 i2 i3 (0 : Int32) (I a0 27) I _ h
    · rw [if_neg (of_decide_eq_false hb)] at h
      refine go_ops aMi233 2 _ (f1 := (70, ([(0, .ref a0), (1, .int i1), (2, .int i2), (3, .int i3)], [.int i3, .ref a0]))) rfl ?_
      obtain ⟨r70_1, hxr70_1, h⟩ := Option.bind_eq_some_iff.mp h
      refine gg_cv (as := [.int i3]) (r := []) aMi233 rfl rfl rfl aMi242 (Nat.le_of_ble_eq_true rfl) rfl (Nat.le_of_ble_eq_true rfl) (Nat.le_of_ble_eq_true rfl) (by omega) (isK_of (sh11_z ha0)) (Tf242 (by omega) a0 ha0 i3 I _ hxr70_1) ?_
      show aGo kad d 233 (73, ([(0, .ref a0), (1, .int i1), (2, .int i2), (3, .int i3)], [])) (aMem Z r70_1.2, t) _
      cases h
      exact go_ret aMi233 rfl rfl ⟨rfl, rfl⟩
  · rw [if_neg (of_decide_eq_false hb)] at h
    refine go_ops aMi233 1 _ (f1 := (7, ([(0, .ref a0), (1, .int i1), (2, .int i2), (3, .int i3)], [.ref a0]))) rfl ?_
    obtain ⟨r7_2, hxr7_2, h⟩ := Option.bind_eq_some_iff.mp h
    refine gg_cv (as := []) (r := []) aMi233 rfl rfl rfl aMi220 (Nat.le_of_ble_eq_true rfl) rfl (Nat.le_of_ble_eq_true rfl) (Nat.le_of_ble_eq_true rfl) (by omega) (isK_of (sh11_z ha0)) (Tf220 (by omega) a0 ha0 I _ hxr7_2) ?_
    show aGo kad d 233 (10, ([(0, .ref a0), (1, .int i1), (2, .int i2), (3, .int i3)], [.int r7_2.1])) (aMem Z r7_2.2, t) _
    refine go_ops aMi233 6 _ (f1 := (18, ([(4, .int r7_2.1), (0, .ref a0), (1, .int i1), (2, .int i2), (3, .int i3)], [.int (1 : Int32), .int (r7_2.1 - r7_2.1 / (2 : Int32) * (2 : Int32)), .ref a0]))) rfl ?_
    refine gg_br (b := decide (¬ (r7_2.1 - r7_2.1 / (2 : Int32) * (2 : Int32)) = (1 : Int32))) (tg := 25) (off := 7) aMi233 rfl rfl rfl rfl (fun hb => ?_) (fun hb => ?_)
    · rw [if_pos (of_decide_eq_true hb)] at h
      refine go_ops aMi233 1 _ (f1 := (26, ([(4, .int r7_2.1), (0, .ref a0), (1, .int i1), (2, .int i2), (3, .int i3)], [.int (0 : Int32), .ref a0]))) rfl ?_
      refine go_le (lv1 := [(0, .ref a0), (4, .int r7_2.1)]) (aLe_of (show (List.map (fun q => q.1) ([(0, .ref a0), (4, .int r7_2.1)] : ALv)).Nodup from (by show ([0, 4] : List Nat).Nodup; decide)) (aSubL_cons rfl (aSubL_cons rfl aSubL_nil))) ?_
      exact Tf233_b26 hd a0 ha0 r7_2.1 (0 : Int32) r7_2.2 _ h
    · rw [if_neg (of_decide_eq_false hb)] at h
      refine go_ops aMi233 2 _ (f1 := (26, ([(4, .int r7_2.1), (0, .ref a0), (1, .int i1), (2, .int i2), (3, .int i3)], [.int (1 : Int32), .ref a0]))) rfl ?_
      refine go_le (lv1 := [(0, .ref a0), (4, .int r7_2.1)]) (aLe_of (show (List.map (fun q => q.1) ([(0, .ref a0), (4, .int r7_2.1)] : ALv)).Nodup from (by show ([0, 4] : List Nat).Nodup; decide)) (aSubL_cons rfl (aSubL_cons rfl aSubL_nil))) ?_
      exact Tf233_b26 hd a0 ha0 r7_2.1 (1 : Int32) r7_2.2 _ h
