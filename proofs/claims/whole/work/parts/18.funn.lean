-- KernelGymModel.tests ()I
def f299 (kad : Nat → Nat) (N : Nat) (Z : AZ) (a0 : Nat) (I : AI) : Option (Int32 × AI) :=
  (wI I a0 0 (0 : Int32)).bind fun I2_1 =>
  some ((I2_1 a0 60), I2_1)
set_option maxRecDepth 20000 in
theorem Tf299 {kad : Nat → Nat} {N : Nat} {Z : AZ} {d : Nat} {t : Option Nat × (Nat × Nat)} (hd : 0 ≤ d) : ∀ (a0 : Nat) (ha0 : sh11 kad Z a0) (I : AI) (r : Int32 × AI), f299 kad N Z a0 I = some r → aGo kad d 299 (0, ([(0, .ref a0)], [])) (aMem Z I, t) (qI Z t r) := by
  intro a0 ha0 I r h
  unfold f299 at h
  refine go_ops aMi299 2 _ (f1 := (2, ([(0, .ref a0)], [.int (0 : Int32), .ref a0]))) rfl ?_
  obtain ⟨I2_1, hxI2_1, h⟩ := Option.bind_eq_some_iff.mp h
  refine gg_pI aMi299 rfl rfl rfl rfl (by decide) (pI_of (sh11_z ha0) hxI2_1) ?_
  refine go_ops aMi299 1 _ (f1 := (6, ([(0, .ref a0)], [.ref a0]))) rfl ?_
  refine gg_gI aMi299 rfl rfl rfl (gI_of (sh11_z ha0)) ?_
  cases h
  exact go_ret aMi299 rfl aRetI ⟨rfl, rfl⟩
-- KernelGymModel.isTapeOf (I)Z
def f300_b58 (kad : Nat → Nat) (N : Nat) (Z : AZ) (k21 : Nat → Int32 → Int32 → Int32 → AI → Option (Int32 × AI)) (a0 : Nat) (i1 : Int32) (i3 : Int32) (s0 : Int32) (I : AI) : Option (Int32 × AI) :=
  k21 a0 i1 s0 (i3 + (1 : Int32)) I
set_option maxRecDepth 20000 in
theorem Tf300_b58 {kad : Nat → Nat} {N : Nat} {Z : AZ} {d : Nat} {t : Option Nat × (Nat × Nat)} (hd : 0 ≤ d) (k21 : Nat → Int32 → Int32 → Int32 → AI → Option (Int32 × AI))  (hk21 : ∀ (a0 : Nat) (ha0 : sh11 kad Z a0) (i1 : Int32) (i2 : Int32) (i3 : Int32) (I : AI) (r : Int32 × AI), k21 a0 i1 i2 i3 I = some r → aGo kad d 300 (21, ([(0, .ref a0), (1, .int i1), (2, .int i2), (3, .int i3)], [])) (aMem Z I, t) (qI Z t r)) : ∀ (a0 : Nat) (ha0 : sh11 kad Z a0) (i1 : Int32) (i3 : Int32) (s0 : Int32) (I : AI) (r : Int32 × AI), f300_b58 kad N Z k21 a0 i1 i3 s0 I = some r → aGo kad d 300 (58, ([(0, .ref a0), (1, .int i1), (3, .int i3)], [.int s0])) (aMem Z I, t) (qI Z t r) := by
  intro a0 ha0 i1 i3 s0 I r h
  unfold f300_b58 at h
  refine go_ops aMi300 3 _ (f1 := (21, ([(3, .int (i3 + (1 : Int32))), (2, .int s0), (0, .ref a0), (1, .int i1)], []))) rfl ?_
  refine go_le (lv1 := [(0, .ref a0), (1, .int i1), (2, .int s0), (3, .int (i3 + (1 : Int32)))]) (aLe_of (show (List.map (fun q => q.1) ([(0, .ref a0), (1, .int i1), (2, .int s0), (3, .int (i3 + (1 : Int32)))] : ALv)).Nodup from (by show ([0, 1, 2, 3] : List Nat).Nodup; decide)) (aSubL_cons rfl (aSubL_cons rfl (aSubL_cons rfl (aSubL_cons rfl aSubL_nil))))) ?_
  exact hk21 a0 ha0 i1 s0 (i3 + (1 : Int32)) I _ h
def f300_b65 (kad : Nat → Nat) (N : Nat) (Z : AZ) (a0 : Nat) (i2 : Int32) (I : AI) : Option (Int32 × AI) :=
  if i2 = 0 ∨ i2 = 1 then some (i2, I) else none
set_option maxRecDepth 20000 in
theorem Tf300_b65 {kad : Nat → Nat} {N : Nat} {Z : AZ} {d : Nat} {t : Option Nat × (Nat × Nat)} (hd : 0 ≤ d) : ∀ (a0 : Nat) (ha0 : sh11 kad Z a0) (i2 : Int32) (I : AI) (r : Int32 × AI), f300_b65 kad N Z a0 i2 I = some r → aGo kad d 300 (65, ([(2, .int i2)], [])) (aMem Z I, t) (qI Z t r) := by
  intro a0 ha0 i2 I r h
  unfold f300_b65 at h
  refine go_ops aMi300 1 _ (f1 := (66, ([(2, .int i2)], [.int i2]))) rfl ?_
  split at h
  · rename_i hz
    cases h
    exact go_ret aMi300 rfl (aRetZ hz) ⟨rfl, rfl⟩
  · cases h
def f300_b21 (kad : Nat → Nat) (N : Nat) (Z : AZ) : Nat → Nat → Int32 → Int32 → Int32 → AI → Option (Int32 × AI)
  | 0, _, _, _, _, _ => none
  | F + 1, a0, i1, i2, i3, I =>
    if (I a0 37) ≤ i3 then
      f300_b65 kad N Z a0 i2 I
    else
      if i2 = 0 then
        f300_b65 kad N Z a0 i2 I
      else
        (ixA 60 i3).bind fun j38_1 =>
        (ixA 30 (((6 : Int32) * i1) + i3)).bind fun j49_2 =>
        if ¬ (I (a0 + 17) j38_1) = (I (a0 + 32) j49_2) then
          f300_b58 kad N Z (fun p0 p1 p2 p3 I => f300_b21 kad N Z F p0 p1 p2 p3 I) a0 i1 i3 (0 : Int32) I
        else
          f300_b58 kad N Z (fun p0 p1 p2 p3 I => f300_b21 kad N Z F p0 p1 p2 p3 I) a0 i1 i3 (1 : Int32) I
set_option maxRecDepth 20000 in
theorem Tf300_b21 {kad : Nat → Nat} {N : Nat} {Z : AZ} {d : Nat} {t : Option Nat × (Nat × Nat)} (hd : 0 ≤ d) : ∀ (F : Nat) (a0 : Nat) (ha0 : sh11 kad Z a0) (i1 : Int32) (i2 : Int32) (i3 : Int32) (I : AI) (r : Int32 × AI), f300_b21 kad N Z F a0 i1 i2 i3 I = some r → aGo kad d 300 (21, ([(0, .ref a0), (1, .int i1), (2, .int i2), (3, .int i3)], [])) (aMem Z I, t) (qI Z t r) := by
  intro F
  induction F with
  | zero => intro a0 ha0 i1 i2 i3 I r h; cases h
  | succ F ih =>
    intro a0 ha0 i1 i2 i3 I r h
    unfold f300_b21 at h
    refine go_ops aMi300 2 _ (f1 := (23, ([(0, .ref a0), (1, .int i1), (2, .int i2), (3, .int i3)], [.ref a0, .int i3]))) rfl ?_
    refine gg_gI aMi300 rfl rfl rfl (gI_of (sh11_z ha0)) ?_
    refine gg_br (b := decide ((I a0 37) ≤ i3)) (tg := 65) (off := 39) aMi300 rfl rfl rfl rfl (fun hb => ?_) (fun hb => ?_)
    · rw [if_pos (of_decide_eq_true hb)] at h
      refine go_le (lv1 := [(2, .int i2)]) (aLe_of (show (List.map (fun q => q.1) ([(2, .int i2)] : ALv)).Nodup from (by show ([2] : List Nat).Nodup; decide)) (aSubL_cons rfl aSubL_nil)) ?_
      exact Tf300_b65 hd a0 ha0 i2 I _ h
    · rw [if_neg (of_decide_eq_false hb)] at h
      refine go_ops aMi300 1 _ (f1 := (30, ([(0, .ref a0), (1, .int i1), (2, .int i2), (3, .int i3)], [.int i2]))) rfl ?_
      refine gg_br (b := decide (i2 = 0)) (tg := 65) (off := 35) aMi300 rfl rfl rfl rfl (fun hb => ?_) (fun hb => ?_)
      · rw [if_pos (of_decide_eq_true hb)] at h
        refine go_le (lv1 := [(2, .int i2)]) (aLe_of (show (List.map (fun q => q.1) ([(2, .int i2)] : ALv)).Nodup from (by show ([2] : List Nat).Nodup; decide)) (aSubL_cons rfl aSubL_nil)) ?_
        exact Tf300_b65 hd a0 ha0 i2 I _ h
      · rw [if_neg (of_decide_eq_false hb)] at h
        refine go_ops aMi300 1 _ (f1 := (34, ([(0, .ref a0), (1, .int i1), (2, .int i2), (3, .int i3)], [.ref a0]))) rfl ?_
        refine gg_gR (b := (a0 + 17)) aMi300 rfl rfl rfl (gR_of (sh11_z ha0) (sh11_r36 ha0)) ?_
        refine go_ops aMi300 1 _ (f1 := (38, ([(0, .ref a0), (1, .int i1), (2, .int i2), (3, .int i3)], [.int i3, .ref (a0 + 17)]))) rfl ?_
        obtain ⟨j38_1, hxj38_1, h⟩ := Option.bind_eq_some_iff.mp h
        refine gg_lI (Or.inl ⟨rfl, rfl⟩) aMi300 rfl (lI_of (sh11_a36 ha0) hxj38_1) ?_
        refine go_ops aMi300 1 _ (f1 := (40, ([(0, .ref a0), (1, .int i1), (2, .int i2), (3, .int i3)], [.ref a0, .int (I (a0 + 17) j38_1)]))) rfl ?_
        refine gg_gR (b := (a0 + 32)) aMi300 rfl rfl rfl (gR_of (sh11_z ha0) (sh11_r63 ha0)) ?_
        refine go_ops aMi300 5 _ (f1 := (49, ([(0, .ref a0), (1, .int i1), (2, .int i2), (3, .int i3)], [.int (((6 : Int32) * i1) + i3), .ref (a0 + 32), .int (I (a0 + 17) j38_1)]))) rfl ?_
        obtain ⟨j49_2, hxj49_2, h⟩ := Option.bind_eq_some_iff.mp h
        refine gg_lI (Or.inl ⟨rfl, rfl⟩) aMi300 rfl (lI_of (sh11_a63 ha0) hxj49_2) ?_
        refine gg_br (b := decide (¬ (I (a0 + 17) j38_1) = (I (a0 + 32) j49_2))) (tg := 57) (off := 7) aMi300 rfl rfl rfl rfl (fun hb => ?_) (fun hb => ?_)
        · rw [if_pos (of_decide_eq_true hb)] at h
          refine go_ops aMi300 1 _ (f1 := (58, ([(0, .ref a0), (1, .int i1), (2, .int i2), (3, .int i3)], [.int (0 : Int32)]))) rfl ?_
          refine go_le (lv1 := [(0, .ref a0), (1, .int i1), (3, .int i3)]) (aLe_of (show (List.map (fun q => q.1) ([(0, .ref a0), (1, .int i1), (3, .int i3)] : ALv)).Nodup from (by show ([0, 1, 3] : List Nat).Nodup; decide)) (aSubL_cons rfl (aSubL_cons rfl (aSubL_cons rfl aSubL_nil)))) ?_
          exact Tf300_b58 hd (fun p0 p1 p2 p3 I => f300_b21 kad N Z F p0 p1 p2 p3 I) (fun p0 q0 p1 p2 p3 I r hh => ih p0 q0 p1 p2 p3 I r hh) a0 ha0 i1 i3 (0 : Int32) I _ h
        · rw [if_neg (of_decide_eq_false hb)] at h
          refine go_ops aMi300 2 _ (f1 := (58, ([(0, .ref a0), (1, .int i1), (2, .int i2), (3, .int i3)], [.int (1 : Int32)]))) rfl ?_
          refine go_le (lv1 := [(0, .ref a0), (1, .int i1), (3, .int i3)]) (aLe_of (show (List.map (fun q => q.1) ([(0, .ref a0), (1, .int i1), (3, .int i3)] : ALv)).Nodup from (by show ([0, 1, 3] : List Nat).Nodup; decide)) (aSubL_cons rfl (aSubL_cons rfl (aSubL_cons rfl aSubL_nil)))) ?_
          exact Tf300_b58 hd (fun p0 p1 p2 p3 I => f300_b21 kad N Z F p0 p1 p2 p3 I) (fun p0 q0 p1 p2 p3 I r hh => ih p0 q0 p1 p2 p3 I r hh) a0 ha0 i1 i3 (1 : Int32) I _ h
def f300_b18 (kad : Nat → Nat) (N : Nat) (Z : AZ) (a0 : Nat) (i1 : Int32) (s0 : Int32) (I : AI) : Option (Int32 × AI) :=
  f300_b21 kad N Z N a0 i1 s0 (0 : Int32) I
set_option maxRecDepth 20000 in
theorem Tf300_b18 {kad : Nat → Nat} {N : Nat} {Z : AZ} {d : Nat} {t : Option Nat × (Nat × Nat)} (hd : 0 ≤ d) : ∀ (a0 : Nat) (ha0 : sh11 kad Z a0) (i1 : Int32) (s0 : Int32) (I : AI) (r : Int32 × AI), f300_b18 kad N Z a0 i1 s0 I = some r → aGo kad d 300 (18, ([(0, .ref a0), (1, .int i1)], [.int s0])) (aMem Z I, t) (qI Z t r) := by
  intro a0 ha0 i1 s0 I r h
  unfold f300_b18 at h
  refine go_ops aMi300 3 _ (f1 := (21, ([(3, .int (0 : Int32)), (2, .int s0), (0, .ref a0), (1, .int i1)], []))) rfl ?_
  refine go_le (lv1 := [(0, .ref a0), (1, .int i1), (2, .int s0), (3, .int (0 : Int32))]) (aLe_of (show (List.map (fun q => q.1) ([(0, .ref a0), (1, .int i1), (2, .int s0), (3, .int (0 : Int32))] : ALv)).Nodup from (by show ([0, 1, 2, 3] : List Nat).Nodup; decide)) (aSubL_cons rfl (aSubL_cons rfl (aSubL_cons rfl (aSubL_cons rfl aSubL_nil))))) ?_
  exact Tf300_b21 hd N a0 ha0 i1 s0 (0 : Int32) I _ h
def f300 (kad : Nat → Nat) (N : Nat) (Z : AZ) (a0 : Nat) (i1 : Int32) (I : AI) : Option (Int32 × AI) :=
  (ixA 5 i1).bind fun j9_1 =>
  if ¬ (I a0 37) = (I (a0 + 33) j9_1) then
    f300_b18 kad N Z a0 i1 (0 : Int32) I
  else
    f300_b18 kad N Z a0 i1 (1 : Int32) I
set_option maxRecDepth 20000 in
theorem Tf300 {kad : Nat → Nat} {N : Nat} {Z : AZ} {d : Nat} {t : Option Nat × (Nat × Nat)} (hd : 0 ≤ d) : ∀ (a0 : Nat) (ha0 : sh11 kad Z a0) (i1 : Int32) (I : AI) (r : Int32 × AI), f300 kad N Z a0 i1 I = some r → aGo kad d 300 (0, ([(0, .ref a0), (1, .int i1)], [])) (aMem Z I, t) (qI Z t r) := by
  intro a0 ha0 i1 I r h
  unfold f300 at h
  refine go_ops aMi300 1 _ (f1 := (1, ([(0, .ref a0), (1, .int i1)], [.ref a0]))) rfl ?_
  refine gg_gI aMi300 rfl rfl rfl (gI_of (sh11_z ha0)) ?_
  refine go_ops aMi300 1 _ (f1 := (5, ([(0, .ref a0), (1, .int i1)], [.ref a0, .int (I a0 37)]))) rfl ?_
  refine gg_gR (b := (a0 + 33)) aMi300 rfl rfl rfl (gR_of (sh11_z ha0) (sh11_r64 ha0)) ?_
  refine go_ops aMi300 1 _ (f1 := (9, ([(0, .ref a0), (1, .int i1)], [.int i1, .ref (a0 + 33), .int (I a0 37)]))) rfl ?_
  obtain ⟨j9_1, hxj9_1, h⟩ := Option.bind_eq_some_iff.mp h
  refine gg_lI (Or.inl ⟨rfl, rfl⟩) aMi300 rfl (lI_of (sh11_a64 ha0) hxj9_1) ?_
  refine gg_br (b := decide (¬ (I a0 37) = (I (a0 + 33) j9_1))) (tg := 17) (off := 7) aMi300 rfl rfl rfl rfl (fun hb => ?_) (fun hb => ?_)
  · rw [if_pos (of_decide_eq_true hb)] at h
    refine go_ops aMi300 1 _ (f1 := (18, ([(0, .ref a0), (1, .int i1)], [.int (0 : Int32)]))) rfl ?_
    exact Tf300_b18 hd a0 ha0 i1 (0 : Int32) I _ h
  · rw [if_neg (of_decide_eq_false hb)] at h
    refine go_ops aMi300 2 _ (f1 := (18, ([(0, .ref a0), (1, .int i1)], [.int (1 : Int32)]))) rfl ?_
    exact Tf300_b18 hd a0 ha0 i1 (1 : Int32) I _ h
-- KernelGymModel.madeTest (I)I
def f301_b161 (kad : Nat → Nat) (N : Nat) (Z : AZ) (a0 : Nat) (s0 : Int32) (I : AI) : Option (Int32 × AI) :=
  some (s0, I)
set_option maxRecDepth 20000 in
theorem Tf301_b161 {kad : Nat → Nat} {N : Nat} {Z : AZ} {d : Nat} {t : Option Nat × (Nat × Nat)} (hd : 7 ≤ d) : ∀ (a0 : Nat) (ha0 : sh11 kad Z a0) (s0 : Int32) (I : AI) (r : Int32 × AI), f301_b161 kad N Z a0 s0 I = some r → aGo kad d 301 (161, ([], [.int s0])) (aMem Z I, t) (qI Z t r) := by
  intro a0 ha0 s0 I r h
  unfold f301_b161 at h
  cases h
  exact go_ret aMi301 rfl aRetI ⟨rfl, rfl⟩
def f301_b148 (kad : Nat → Nat) (N : Nat) (Z : AZ) (a0 : Nat) (I : AI) : Option (Int32 × AI) :=
  if ¬ (I a0 23) = (3 : Int32) then
    f301_b161 kad N Z a0 (2 : Int32) I
  else
    f301_b161 kad N Z a0 (1 : Int32) I
set_option maxRecDepth 20000 in
theorem Tf301_b148 {kad : Nat → Nat} {N : Nat} {Z : AZ} {d : Nat} {t : Option Nat × (Nat × Nat)} (hd : 7 ≤ d) : ∀ (a0 : Nat) (ha0 : sh11 kad Z a0) (I : AI) (r : Int32 × AI), f301_b148 kad N Z a0 I = some r → aGo kad d 301 (148, ([(0, .ref a0)], [])) (aMem Z I, t) (qI Z t r) := by
  intro a0 ha0 I r h
  unfold f301_b148 at h
  refine go_ops aMi301 1 _ (f1 := (149, ([(0, .ref a0)], [.ref a0]))) rfl ?_
  refine gg_gI aMi301 rfl rfl rfl (gI_of (sh11_z ha0)) ?_
  refine go_ops aMi301 1 _ (f1 := (153, ([(0, .ref a0)], [.int (3 : Int32), .int (I a0 23)]))) rfl ?_
  refine gg_br (b := decide (¬ (I a0 23) = (3 : Int32))) (tg := 160) (off := 7) aMi301 rfl rfl rfl rfl (fun hb => ?_) (fun hb => ?_)
  · rw [if_pos (of_decide_eq_true hb)] at h
    refine go_ops aMi301 1 _ (f1 := (161, ([(0, .ref a0)], [.int (2 : Int32)]))) rfl ?_
    refine go_le (lv1 := []) (aLe_of (show (List.map (fun q => q.1) ([] : ALv)).Nodup from (by show ([] : List Nat).Nodup; decide)) aSubL_nil) ?_
    exact Tf301_b161 hd a0 ha0 (2 : Int32) I _ h
  · rw [if_neg (of_decide_eq_false hb)] at h
    refine go_ops aMi301 2 _ (f1 := (161, ([(0, .ref a0)], [.int (1 : Int32)]))) rfl ?_
    refine go_le (lv1 := []) (aLe_of (show (List.map (fun q => q.1) ([] : ALv)).Nodup from (by show ([] : List Nat).Nodup; decide)) aSubL_nil) ?_
    exact Tf301_b161 hd a0 ha0 (1 : Int32) I _ h
def f301_b203 (kad : Nat → Nat) (N : Nat) (Z : AZ) (a0 : Nat) (s0 : Int32) (I : AI) : Option (Int32 × AI) :=
  some (s0, I)
set_option maxRecDepth 20000 in
theorem Tf301_b203 {kad : Nat → Nat} {N : Nat} {Z : AZ} {d : Nat} {t : Option Nat × (Nat × Nat)} (hd : 7 ≤ d) : ∀ (a0 : Nat) (ha0 : sh11 kad Z a0) (s0 : Int32) (I : AI) (r : Int32 × AI), f301_b203 kad N Z a0 s0 I = some r → aGo kad d 301 (203, ([], [.int s0])) (aMem Z I, t) (qI Z t r) := by
  intro a0 ha0 s0 I r h
  unfold f301_b203 at h
  cases h
  exact go_ret aMi301 rfl aRetI ⟨rfl, rfl⟩
def f301_b132 (kad : Nat → Nat) (N : Nat) (Z : AZ) (a0 : Nat) (i1 : Int32) (I : AI) : Option (Int32 × AI) :=
  if (I a0 23) = (3 : Int32) then
    f301_b148 kad N Z a0 I
  else
    if ¬ (I a0 23) = (1 : Int32) then
      (ixA 5 i1).bind fun j171_1 =>
      if (I a0 52) ≤ (I (a0 + 35) j171_1) then
        (f300 kad N Z a0 i1 I).bind fun r181_2 =>
        if ¬ r181_2.1 = 0 then
          (f294 kad N Z a0 r181_2.2).bind fun r192_3 =>
          if r192_3.1 = 0 then
            f301_b203 kad N Z a0 (5 : Int32) r192_3.2
          else
            f301_b203 kad N Z a0 (0 : Int32) r192_3.2
        else
          f301_b203 kad N Z a0 (4 : Int32) r181_2.2
      else
        f301_b203 kad N Z a0 (3 : Int32) I
    else
      f301_b148 kad N Z a0 I
set_option maxRecDepth 20000 in
theorem Tf301_b132 {kad : Nat → Nat} {N : Nat} {Z : AZ} {d : Nat} {t : Option Nat × (Nat × Nat)} (hd : 7 ≤ d) : ∀ (a0 : Nat) (ha0 : sh11 kad Z a0) (i1 : Int32) (I : AI) (r : Int32 × AI), f301_b132 kad N Z a0 i1 I = some r → aGo kad d 301 (132, ([(0, .ref a0), (1, .int i1)], [])) (aMem Z I, t) (qI Z t r) := by
  intro a0 ha0 i1 I r h
  unfold f301_b132 at h
  refine go_ops aMi301 1 _ (f1 := (133, ([(0, .ref a0), (1, .int i1)], [.ref a0]))) rfl ?_
  refine gg_gI aMi301 rfl rfl rfl (gI_of (sh11_z ha0)) ?_
  refine go_ops aMi301 1 _ (f1 := (137, ([(0, .ref a0), (1, .int i1)], [.int (3 : Int32), .int (I a0 23)]))) rfl ?_
  refine gg_br (b := decide ((I a0 23) = (3 : Int32))) (tg := 148) (off := 11) aMi301 rfl rfl rfl rfl (fun hb => ?_) (fun hb => ?_)
  · rw [if_pos (of_decide_eq_true hb)] at h
    refine go_le (lv1 := [(0, .ref a0)]) (aLe_of (show (List.map (fun q => q.1) ([(0, .ref a0)] : ALv)).Nodup from (by show ([0] : List Nat).Nodup; decide)) (aSubL_cons rfl aSubL_nil)) ?_
    exact Tf301_b148 hd a0 ha0 I _ h
  · rw [if_neg (of_decide_eq_false hb)] at h
    refine go_ops aMi301 1 _ (f1 := (141, ([(0, .ref a0), (1, .int i1)], [.ref a0]))) rfl ?_
    refine gg_gI aMi301 rfl rfl rfl (gI_of (sh11_z ha0)) ?_
    refine go_ops aMi301 1 _ (f1 := (145, ([(0, .ref a0), (1, .int i1)], [.int (1 : Int32), .int (I a0 23)]))) rfl ?_
    refine gg_br (b := decide (¬ (I a0 23) = (1 : Int32))) (tg := 162) (off := 17) aMi301 rfl rfl rfl rfl (fun hb => ?_) (fun hb => ?_)
    · rw [if_pos (of_decide_eq_true hb)] at h
      refine go_ops aMi301 1 _ (f1 := (163, ([(0, .ref a0), (1, .int i1)], [.ref a0]))) rfl ?_
      refine gg_gI aMi301 rfl rfl rfl (gI_of (sh11_z ha0)) ?_
      refine go_ops aMi301 1 _ (f1 := (167, ([(0, .ref a0), (1, .int i1)], [.ref a0, .int (I a0 52)]))) rfl ?_
      refine gg_gR (b := (a0 + 35)) aMi301 rfl rfl rfl (gR_of (sh11_z ha0) (sh11_r66 ha0)) ?_
      refine go_ops aMi301 1 _ (f1 := (171, ([(0, .ref a0), (1, .int i1)], [.int i1, .ref (a0 + 35), .int (I a0 52)]))) rfl ?_
      obtain ⟨j171_1, hxj171_1, h⟩ := Option.bind_eq_some_iff.mp h
      refine gg_lI (Or.inl ⟨rfl, rfl⟩) aMi301 rfl (lI_of (sh11_a66 ha0) hxj171_1) ?_
      refine gg_br (b := decide ((I a0 52) ≤ (I (a0 + 35) j171_1))) (tg := 179) (off := 7) aMi301 rfl rfl rfl rfl (fun hb => ?_) (fun hb => ?_)
      · rw [if_pos (of_decide_eq_true hb)] at h
        refine go_ops aMi301 2 _ (f1 := (181, ([(0, .ref a0), (1, .int i1)], [.int i1, .ref a0]))) rfl ?_
        obtain ⟨r181_2, hxr181_2, h⟩ := Option.bind_eq_some_iff.mp h
        refine gg_cv (as := [.int i1]) (r := []) aMi301 rfl rfl rfl aMi300 (Nat.le_of_ble_eq_true rfl) rfl (Nat.le_of_ble_eq_true rfl) (Nat.le_of_ble_eq_true rfl) (by omega) (isK_of (sh11_z ha0)) (Tf300 (by omega) a0 ha0 i1 I _ hxr181_2) ?_
        show aGo kad d 301 (184, ([(0, .ref a0), (1, .int i1)], [.int r181_2.1])) (aMem Z r181_2.2, t) _
        refine gg_br (b := decide (¬ r181_2.1 = 0)) (tg := 191) (off := 7) aMi301 rfl rfl rfl rfl (fun hb => ?_) (fun hb => ?_)
        · rw [if_pos (of_decide_eq_true hb)] at h
          refine go_ops aMi301 1 _ (f1 := (192, ([(0, .ref a0), (1, .int i1)], [.ref a0]))) rfl ?_
          obtain ⟨r192_3, hxr192_3, h⟩ := Option.bind_eq_some_iff.mp h
          refine gg_cv (as := []) (r := []) aMi301 rfl rfl rfl aMi294 (Nat.le_of_ble_eq_true rfl) rfl (Nat.le_of_ble_eq_true rfl) (Nat.le_of_ble_eq_true rfl) (by omega) (isK_of (sh11_z ha0)) (Tf294 (by omega) a0 ha0 r181_2.2 _ hxr192_3) ?_
          show aGo kad d 301 (195, ([(0, .ref a0), (1, .int i1)], [.int r192_3.1])) (aMem Z r192_3.2, t) _
          refine gg_br (b := decide (r192_3.1 = 0)) (tg := 202) (off := 7) aMi301 rfl rfl rfl rfl (fun hb => ?_) (fun hb => ?_)
          · rw [if_pos (of_decide_eq_true hb)] at h
            refine go_ops aMi301 1 _ (f1 := (203, ([(0, .ref a0), (1, .int i1)], [.int (5 : Int32)]))) rfl ?_
            refine go_le (lv1 := []) (aLe_of (show (List.map (fun q => q.1) ([] : ALv)).Nodup from (by show ([] : List Nat).Nodup; decide)) aSubL_nil) ?_
            exact Tf301_b203 hd a0 ha0 (5 : Int32) r192_3.2 _ h
          · rw [if_neg (of_decide_eq_false hb)] at h
            refine go_ops aMi301 2 _ (f1 := (203, ([(0, .ref a0), (1, .int i1)], [.int (0 : Int32)]))) rfl ?_
            refine go_le (lv1 := []) (aLe_of (show (List.map (fun q => q.1) ([] : ALv)).Nodup from (by show ([] : List Nat).Nodup; decide)) aSubL_nil) ?_
            exact Tf301_b203 hd a0 ha0 (0 : Int32) r192_3.2 _ h
        · rw [if_neg (of_decide_eq_false hb)] at h
          refine go_ops aMi301 2 _ (f1 := (203, ([(0, .ref a0), (1, .int i1)], [.int (4 : Int32)]))) rfl ?_
          refine go_le (lv1 := []) (aLe_of (show (List.map (fun q => q.1) ([] : ALv)).Nodup from (by show ([] : List Nat).Nodup; decide)) aSubL_nil) ?_
          exact Tf301_b203 hd a0 ha0 (4 : Int32) r181_2.2 _ h
      · rw [if_neg (of_decide_eq_false hb)] at h
        refine go_ops aMi301 2 _ (f1 := (203, ([(0, .ref a0), (1, .int i1)], [.int (3 : Int32)]))) rfl ?_
        refine go_le (lv1 := []) (aLe_of (show (List.map (fun q => q.1) ([] : ALv)).Nodup from (by show ([] : List Nat).Nodup; decide)) aSubL_nil) ?_
        exact Tf301_b203 hd a0 ha0 (3 : Int32) I _ h
    · rw [if_neg (of_decide_eq_false hb)] at h
      refine go_le (lv1 := [(0, .ref a0)]) (aLe_of (show (List.map (fun q => q.1) ([(0, .ref a0)] : ALv)).Nodup from (by show ([0] : List Nat).Nodup; decide)) (aSubL_cons rfl aSubL_nil)) ?_
      exact Tf301_b148 hd a0 ha0 I _ h
def f301_b68 (kad : Nat → Nat) (N : Nat) (Z : AZ) : Nat → Nat → Int32 → Int32 → AI → Option (Int32 × AI)
  | 0, _, _, _, _ => none
  | F + 1, a0, i1, i2, I =>
    if ¬ (I a0 23) = (1 : Int32) then
      f301_b132 kad N Z a0 i1 I
    else
      (ixA 5 i1).bind fun j82_1 =>
      if (I (a0 + 34) j82_1) ≤ i2 then
        f301_b132 kad N Z a0 i1 I
      else
        (f234 kad N Z a0 I).bind fun r87_2 =>
        (ixA 5 i1).bind fun j99_3 =>
        if ¬ (i2 + (1 : Int32)) = (r87_2.2 (a0 + 37) j99_3) then
          f301_b68 kad N Z F a0 i1 (i2 + (1 : Int32)) r87_2.2
        else
          if ¬ ((r87_2.2) a0 23) = (1 : Int32) then
            f301_b68 kad N Z F a0 i1 (i2 + (1 : Int32)) r87_2.2
          else
            (f253 kad N Z a0 r87_2.2).bind fun r112_4 =>
            (wI r112_4.2 a0 43 (0 : Int32)).bind fun I118_5 =>
            (f222 kad N Z a0 (a0 + 14) I118_5).bind fun r126_6 =>
            f301_b68 kad N Z F a0 i1 (i2 + (1 : Int32)) r126_6.2
set_option maxRecDepth 20000 in
theorem Tf301_b68 {kad : Nat → Nat} {N : Nat} {Z : AZ} {d : Nat} {t : Option Nat × (Nat × Nat)} (hd : 7 ≤ d) : ∀ (F : Nat) (a0 : Nat) (ha0 : sh11 kad Z a0) (i1 : Int32) (i2 : Int32) (I : AI) (r : Int32 × AI), f301_b68 kad N Z F a0 i1 i2 I = some r → aGo kad d 301 (68, ([(0, .ref a0), (1, .int i1), (2, .int i2)], [])) (aMem Z I, t) (qI Z t r) := by
  intro F
  induction F with
  | zero => intro a0 ha0 i1 i2 I r h; cases h
  | succ F ih =>
    intro a0 ha0 i1 i2 I r h
    unfold f301_b68 at h
    refine go_ops aMi301 1 _ (f1 := (69, ([(0, .ref a0), (1, .int i1), (2, .int i2)], [.ref a0]))) rfl ?_
    refine gg_gI aMi301 rfl rfl rfl (gI_of (sh11_z ha0)) ?_
    refine go_ops aMi301 1 _ (f1 := (73, ([(0, .ref a0), (1, .int i1), (2, .int i2)], [.int (1 : Int32), .int (I a0 23)]))) rfl ?_
    refine gg_br (b := decide (¬ (I a0 23) = (1 : Int32))) (tg := 132) (off := 59) aMi301 rfl rfl rfl rfl (fun hb => ?_) (fun hb => ?_)
    · rw [if_pos (of_decide_eq_true hb)] at h
      refine go_le (lv1 := [(0, .ref a0), (1, .int i1)]) (aLe_of (show (List.map (fun q => q.1) ([(0, .ref a0), (1, .int i1)] : ALv)).Nodup from (by show ([0, 1] : List Nat).Nodup; decide)) (aSubL_cons rfl (aSubL_cons rfl aSubL_nil))) ?_
      exact Tf301_b132 hd a0 ha0 i1 I _ h
    · rw [if_neg (of_decide_eq_false hb)] at h
      refine go_ops aMi301 2 _ (f1 := (78, ([(0, .ref a0), (1, .int i1), (2, .int i2)], [.ref a0, .int i2]))) rfl ?_
      refine gg_gR (b := (a0 + 34)) aMi301 rfl rfl rfl (gR_of (sh11_z ha0) (sh11_r65 ha0)) ?_
      refine go_ops aMi301 1 _ (f1 := (82, ([(0, .ref a0), (1, .int i1), (2, .int i2)], [.int i1, .ref (a0 + 34), .int i2]))) rfl ?_
      obtain ⟨j82_1, hxj82_1, h⟩ := Option.bind_eq_some_iff.mp h
      refine gg_lI (Or.inl ⟨rfl, rfl⟩) aMi301 rfl (lI_of (sh11_a65 ha0) hxj82_1) ?_
      refine gg_br (b := decide ((I (a0 + 34) j82_1) ≤ i2)) (tg := 132) (off := 49) aMi301 rfl rfl rfl rfl (fun hb => ?_) (fun hb => ?_)
      · rw [if_pos (of_decide_eq_true hb)] at h
        refine go_le (lv1 := [(0, .ref a0), (1, .int i1)]) (aLe_of (show (List.map (fun q => q.1) ([(0, .ref a0), (1, .int i1)] : ALv)).Nodup from (by show ([0, 1] : List Nat).Nodup; decide)) (aSubL_cons rfl (aSubL_cons rfl aSubL_nil))) ?_
        exact Tf301_b132 hd a0 ha0 i1 I _ h
      · rw [if_neg (of_decide_eq_false hb)] at h
        refine go_ops aMi301 1 _ (f1 := (87, ([(0, .ref a0), (1, .int i1), (2, .int i2)], [.ref a0]))) rfl ?_
        obtain ⟨r87_2, hxr87_2, h⟩ := Option.bind_eq_some_iff.mp h
        refine gg_cv (as := []) (r := []) aMi301 rfl rfl rfl aMi234 (Nat.le_of_ble_eq_true rfl) rfl (Nat.le_of_ble_eq_true rfl) (Nat.le_of_ble_eq_true rfl) (by omega) (isK_of (sh11_z ha0)) (Tf234 (by omega) a0 ha0 I _ hxr87_2) ?_
        show aGo kad d 301 (90, ([(0, .ref a0), (1, .int i1), (2, .int i2)], [])) (aMem Z r87_2.2, t) _
        refine go_ops aMi301 3 _ (f1 := (95, ([(2, .int (i2 + (1 : Int32))), (0, .ref a0), (1, .int i1)], [.ref a0, .int (i2 + (1 : Int32))]))) rfl ?_
        refine gg_gR (b := (a0 + 37)) aMi301 rfl rfl rfl (gR_of (sh11_z ha0) (sh11_r68 ha0)) ?_
        refine go_ops aMi301 1 _ (f1 := (99, ([(2, .int (i2 + (1 : Int32))), (0, .ref a0), (1, .int i1)], [.int i1, .ref (a0 + 37), .int (i2 + (1 : Int32))]))) rfl ?_
        obtain ⟨j99_3, hxj99_3, h⟩ := Option.bind_eq_some_iff.mp h
        refine gg_lI (Or.inl ⟨rfl, rfl⟩) aMi301 rfl (lI_of (sh11_a68 ha0) hxj99_3) ?_
        refine gg_br (b := decide (¬ (i2 + (1 : Int32)) = (r87_2.2 (a0 + 37) j99_3))) (tg := 68) (off := (-32)) aMi301 rfl rfl rfl rfl (fun hb => ?_) (fun hb => ?_)
        · rw [if_pos (of_decide_eq_true hb)] at h
          refine go_le (lv1 := [(0, .ref a0), (1, .int i1), (2, .int (i2 + (1 : Int32)))]) (aLe_of (show (List.map (fun q => q.1) ([(0, .ref a0), (1, .int i1), (2, .int (i2 + (1 : Int32)))] : ALv)).Nodup from (by show ([0, 1, 2] : List Nat).Nodup; decide)) (aSubL_cons rfl (aSubL_cons rfl (aSubL_cons rfl aSubL_nil)))) ?_
          exact ih a0 ha0 i1 (i2 + (1 : Int32)) r87_2.2 _ h
        · rw [if_neg (of_decide_eq_false hb)] at h
          refine go_ops aMi301 1 _ (f1 := (104, ([(2, .int (i2 + (1 : Int32))), (0, .ref a0), (1, .int i1)], [.ref a0]))) rfl ?_
          refine gg_gI aMi301 rfl rfl rfl (gI_of (sh11_z ha0)) ?_
          refine go_ops aMi301 1 _ (f1 := (108, ([(2, .int (i2 + (1 : Int32))), (0, .ref a0), (1, .int i1)], [.int (1 : Int32), .int ((r87_2.2) a0 23)]))) rfl ?_
          refine gg_br (b := decide (¬ ((r87_2.2) a0 23) = (1 : Int32))) (tg := 68) (off := (-40)) aMi301 rfl rfl rfl rfl (fun hb => ?_) (fun hb => ?_)
          · rw [if_pos (of_decide_eq_true hb)] at h
            refine go_le (lv1 := [(0, .ref a0), (1, .int i1), (2, .int (i2 + (1 : Int32)))]) (aLe_of (show (List.map (fun q => q.1) ([(0, .ref a0), (1, .int i1), (2, .int (i2 + (1 : Int32)))] : ALv)).Nodup from (by show ([0, 1, 2] : List Nat).Nodup; decide)) (aSubL_cons rfl (aSubL_cons rfl (aSubL_cons rfl aSubL_nil)))) ?_
            exact ih a0 ha0 i1 (i2 + (1 : Int32)) r87_2.2 _ h
          · rw [if_neg (of_decide_eq_false hb)] at h
            refine go_ops aMi301 1 _ (f1 := (112, ([(2, .int (i2 + (1 : Int32))), (0, .ref a0), (1, .int i1)], [.ref a0]))) rfl ?_
            obtain ⟨r112_4, hxr112_4, h⟩ := Option.bind_eq_some_iff.mp h
            refine gg_cv (as := []) (r := []) aMi301 rfl rfl rfl aMi253 (Nat.le_of_ble_eq_true rfl) rfl (Nat.le_of_ble_eq_true rfl) (Nat.le_of_ble_eq_true rfl) (by omega) (isK_of (sh11_z ha0)) (Tf253 (by omega) a0 ha0 r87_2.2 _ hxr112_4) ?_
            show aGo kad d 301 (115, ([(2, .int (i2 + (1 : Int32))), (0, .ref a0), (1, .int i1)], [.int r112_4.1])) (aMem Z r112_4.2, t) _
            refine go_ops aMi301 3 _ (f1 := (118, ([(2, .int (i2 + (1 : Int32))), (0, .ref a0), (1, .int i1)], [.int (0 : Int32), .ref a0]))) rfl ?_
            obtain ⟨I118_5, hxI118_5, h⟩ := Option.bind_eq_some_iff.mp h
            refine gg_pI aMi301 rfl rfl rfl rfl (by decide) (pI_of (sh11_z ha0) hxI118_5) ?_
            refine go_ops aMi301 2 _ (f1 := (123, ([(2, .int (i2 + (1 : Int32))), (0, .ref a0), (1, .int i1)], [.ref a0, .ref a0]))) rfl ?_
            refine gg_gR (b := (a0 + 14)) aMi301 rfl rfl rfl (gR_of (sh11_z ha0) (sh11_r21 ha0)) ?_
            obtain ⟨r126_6, hxr126_6, h⟩ := Option.bind_eq_some_iff.mp h
            refine gg_cv (as := [.ref (a0 + 14)]) (r := []) aMi301 rfl rfl rfl aMi222 (Nat.le_of_ble_eq_true rfl) rfl (Nat.le_of_ble_eq_true rfl) (Nat.le_of_ble_eq_true rfl) (by omega) (isK_of (sh11_z ha0)) (Tf222 (by omega) a0 ha0 (a0 + 14) I118_5 _ hxr126_6) ?_
            show aGo kad d 301 (129, ([(2, .int (i2 + (1 : Int32))), (0, .ref a0), (1, .int i1)], [])) (aMem Z r126_6.2, t) _
            refine go_ops aMi301 1 _ (f1 := (68, ([(2, .int (i2 + (1 : Int32))), (0, .ref a0), (1, .int i1)], []))) rfl ?_
            refine go_le (lv1 := [(0, .ref a0), (1, .int i1), (2, .int (i2 + (1 : Int32)))]) (aLe_of (show (List.map (fun q => q.1) ([(0, .ref a0), (1, .int i1), (2, .int (i2 + (1 : Int32)))] : ALv)).Nodup from (by show ([0, 1, 2] : List Nat).Nodup; decide)) (aSubL_cons rfl (aSubL_cons rfl (aSubL_cons rfl aSubL_nil)))) ?_
            exact ih a0 ha0 i1 (i2 + (1 : Int32)) r126_6.2 _ h
def f301_b16 (kad : Nat → Nat) (N : Nat) (Z : AZ) : Nat → Nat → Int32 → Int32 → AI → Option (Int32 × AI)
  | 0, _, _, _, _ => none
  | F + 1, a0, i1, i2, I =>
    if (I a0 43) ≤ i2 then
      (f222 kad N Z a0 (a0 + 14) I).bind fun r59_1 =>
      (f224 kad N Z a0 r59_1.2).bind fun r63_2 =>
      f301_b68 kad N Z N a0 i1 (0 : Int32) r63_2.2
    else
      (ixA 20 i2).bind fun j30_4 =>
      (wI I (a0 + 18) j30_4 (0 : Int32)).bind fun I30_3 =>
      (ixA 30 (((6 : Int32) * i1) + i2)).bind fun j46_5 =>
      (ixA 20 i2).bind fun j47_7 =>
      (wI I30_3 (a0 + 19) j47_7 (I30_3 (a0 + 30) j46_5)).bind fun I47_6 =>
      f301_b16 kad N Z F a0 i1 (i2 + (1 : Int32)) I47_6
set_option maxRecDepth 20000 in
theorem Tf301_b16 {kad : Nat → Nat} {N : Nat} {Z : AZ} {d : Nat} {t : Option Nat × (Nat × Nat)} (hd : 7 ≤ d) : ∀ (F : Nat) (a0 : Nat) (ha0 : sh11 kad Z a0) (i1 : Int32) (i2 : Int32) (I : AI) (r : Int32 × AI), f301_b16 kad N Z F a0 i1 i2 I = some r → aGo kad d 301 (16, ([(0, .ref a0), (1, .int i1), (2, .int i2)], [])) (aMem Z I, t) (qI Z t r) := by
  intro F
  induction F with
  | zero => intro a0 ha0 i1 i2 I r h; cases h
  | succ F ih =>
    intro a0 ha0 i1 i2 I r h
    unfold f301_b16 at h
    refine go_ops aMi301 2 _ (f1 := (18, ([(0, .ref a0), (1, .int i1), (2, .int i2)], [.ref a0, .int i2]))) rfl ?_
    refine gg_gI aMi301 rfl rfl rfl (gI_of (sh11_z ha0)) ?_
    refine gg_br (b := decide ((I a0 43) ≤ i2)) (tg := 54) (off := 33) aMi301 rfl rfl rfl rfl (fun hb => ?_) (fun hb => ?_)
    · rw [if_pos (of_decide_eq_true hb)] at h
      refine go_ops aMi301 2 _ (f1 := (56, ([(0, .ref a0), (1, .int i1), (2, .int i2)], [.ref a0, .ref a0]))) rfl ?_
      refine gg_gR (b := (a0 + 14)) aMi301 rfl rfl rfl (gR_of (sh11_z ha0) (sh11_r21 ha0)) ?_
      obtain ⟨r59_1, hxr59_1, h⟩ := Option.bind_eq_some_iff.mp h
      refine gg_cv (as := [.ref (a0 + 14)]) (r := []) aMi301 rfl rfl rfl aMi222 (Nat.le_of_ble_eq_true rfl) rfl (Nat.le_of_ble_eq_true rfl) (Nat.le_of_ble_eq_true rfl) (by omega) (isK_of (sh11_z ha0)) (Tf222 (by omega) a0 ha0 (a0 + 14) I _ hxr59_1) ?_
      show aGo kad d 301 (62, ([(0, .ref a0), (1, .int i1), (2, .int i2)], [])) (aMem Z r59_1.2, t) _
      refine go_ops aMi301 1 _ (f1 := (63, ([(0, .ref a0), (1, .int i1), (2, .int i2)], [.ref a0]))) rfl ?_
      obtain ⟨r63_2, hxr63_2, h⟩ := Option.bind_eq_some_iff.mp h
      refine gg_cv (as := []) (r := []) aMi301 rfl rfl rfl aMi224 (Nat.le_of_ble_eq_true rfl) rfl (Nat.le_of_ble_eq_true rfl) (Nat.le_of_ble_eq_true rfl) (by omega) (isK_of (sh11_z ha0)) (Tf224 (by omega) a0 ha0 r59_1.2 _ hxr63_2) ?_
      show aGo kad d 301 (66, ([(0, .ref a0), (1, .int i1), (2, .int i2)], [])) (aMem Z r63_2.2, t) _
      refine go_ops aMi301 2 _ (f1 := (68, ([(2, .int (0 : Int32)), (0, .ref a0), (1, .int i1)], []))) rfl ?_
      refine go_le (lv1 := [(0, .ref a0), (1, .int i1), (2, .int (0 : Int32))]) (aLe_of (show (List.map (fun q => q.1) ([(0, .ref a0), (1, .int i1), (2, .int (0 : Int32))] : ALv)).Nodup from (by show ([0, 1, 2] : List Nat).Nodup; decide)) (aSubL_cons rfl (aSubL_cons rfl (aSubL_cons rfl aSubL_nil)))) ?_
      exact Tf301_b68 hd N a0 ha0 i1 (0 : Int32) r63_2.2 _ h
    · rw [if_neg (of_decide_eq_false hb)] at h
      refine go_ops aMi301 1 _ (f1 := (25, ([(0, .ref a0), (1, .int i1), (2, .int i2)], [.ref a0]))) rfl ?_
      refine gg_gR (b := (a0 + 18)) aMi301 rfl rfl rfl (gR_of (sh11_z ha0) (sh11_r41 ha0)) ?_
      refine go_ops aMi301 2 _ (f1 := (30, ([(0, .ref a0), (1, .int i1), (2, .int i2)], [.int (0 : Int32), .int i2, .ref (a0 + 18)]))) rfl ?_
      obtain ⟨j30_4, hxj30_4, h⟩ := Option.bind_eq_some_iff.mp h
      obtain ⟨I30_3, hxI30_3, h⟩ := Option.bind_eq_some_iff.mp h
      refine gg_sI (Or.inl ⟨rfl, rfl⟩) aMi301 rfl (sI_of (sh11_a41 ha0) hxj30_4 hxI30_3) ?_
      refine go_ops aMi301 1 _ (f1 := (32, ([(0, .ref a0), (1, .int i1), (2, .int i2)], [.ref a0]))) rfl ?_
      refine gg_gR (b := (a0 + 19)) aMi301 rfl rfl rfl (gR_of (sh11_z ha0) (sh11_r42 ha0)) ?_
      refine go_ops aMi301 2 _ (f1 := (37, ([(0, .ref a0), (1, .int i1), (2, .int i2)], [.ref a0, .int i2, .ref (a0 + 19)]))) rfl ?_
      refine gg_gR (b := (a0 + 30)) aMi301 rfl rfl rfl (gR_of (sh11_z ha0) (sh11_r61 ha0)) ?_
      refine go_ops aMi301 5 _ (f1 := (46, ([(0, .ref a0), (1, .int i1), (2, .int i2)], [.int (((6 : Int32) * i1) + i2), .ref (a0 + 30), .int i2, .ref (a0 + 19)]))) rfl ?_
      obtain ⟨j46_5, hxj46_5, h⟩ := Option.bind_eq_some_iff.mp h
      refine gg_lI (Or.inl ⟨rfl, rfl⟩) aMi301 rfl (lI_of (sh11_a61 ha0) hxj46_5) ?_
      obtain ⟨j47_7, hxj47_7, h⟩ := Option.bind_eq_some_iff.mp h
      obtain ⟨I47_6, hxI47_6, h⟩ := Option.bind_eq_some_iff.mp h
      refine gg_sI (Or.inl ⟨rfl, rfl⟩) aMi301 rfl (sI_of (sh11_a42 ha0) hxj47_7 hxI47_6) ?_
      refine go_ops aMi301 2 _ (f1 := (16, ([(2, .int (i2 + (1 : Int32))), (0, .ref a0), (1, .int i1)], []))) rfl ?_
      refine go_le (lv1 := [(0, .ref a0), (1, .int i1), (2, .int (i2 + (1 : Int32)))]) (aLe_of (show (List.map (fun q => q.1) ([(0, .ref a0), (1, .int i1), (2, .int (i2 + (1 : Int32)))] : ALv)).Nodup from (by show ([0, 1, 2] : List Nat).Nodup; decide)) (aSubL_cons rfl (aSubL_cons rfl (aSubL_cons rfl aSubL_nil)))) ?_
      exact ih a0 ha0 i1 (i2 + (1 : Int32)) I47_6 _ h
def f301 (kad : Nat → Nat) (N : Nat) (Z : AZ) (a0 : Nat) (i1 : Int32) (I : AI) : Option (Int32 × AI) :=
  (f254 kad N Z a0 I).bind fun r1_1 =>
  (ixA 5 i1).bind fun j10_2 =>
  (wI r1_1.2 a0 43 (r1_1.2 (a0 + 31) j10_2)).bind fun I11_3 =>
  f301_b16 kad N Z N a0 i1 (0 : Int32) I11_3
set_option maxRecDepth 20000 in
theorem Tf301 {kad : Nat → Nat} {N : Nat} {Z : AZ} {d : Nat} {t : Option Nat × (Nat × Nat)} (hd : 7 ≤ d) : ∀ (a0 : Nat) (ha0 : sh11 kad Z a0) (i1 : Int32) (I : AI) (r : Int32 × AI), f301 kad N Z a0 i1 I = some r → aGo kad d 301 (0, ([(0, .ref a0), (1, .int i1)], [])) (aMem Z I, t) (qI Z t r) := by
  intro a0 ha0 i1 I r h
  unfold f301 at h
  refine go_ops aMi301 1 _ (f1 := (1, ([(0, .ref a0), (1, .int i1)], [.ref a0]))) rfl ?_
  obtain ⟨r1_1, hxr1_1, h⟩ := Option.bind_eq_some_iff.mp h
  refine gg_cv (as := []) (r := []) aMi301 rfl rfl rfl aMi254 (Nat.le_of_ble_eq_true rfl) rfl (Nat.le_of_ble_eq_true rfl) (Nat.le_of_ble_eq_true rfl) (by omega) (isK_of (sh11_z ha0)) (Tf254 (by omega) a0 ha0 I _ hxr1_1) ?_
  show aGo kad d 301 (4, ([(0, .ref a0), (1, .int i1)], [])) (aMem Z r1_1.2, t) _
  refine go_ops aMi301 2 _ (f1 := (6, ([(0, .ref a0), (1, .int i1)], [.ref a0, .ref a0]))) rfl ?_
  refine gg_gR (b := (a0 + 31)) aMi301 rfl rfl rfl (gR_of (sh11_z ha0) (sh11_r62 ha0)) ?_
  refine go_ops aMi301 1 _ (f1 := (10, ([(0, .ref a0), (1, .int i1)], [.int i1, .ref (a0 + 31), .ref a0]))) rfl ?_
  obtain ⟨j10_2, hxj10_2, h⟩ := Option.bind_eq_some_iff.mp h
  refine gg_lI (Or.inl ⟨rfl, rfl⟩) aMi301 rfl (lI_of (sh11_a62 ha0) hxj10_2) ?_
  obtain ⟨I11_3, hxI11_3, h⟩ := Option.bind_eq_some_iff.mp h
  refine gg_pI aMi301 rfl rfl rfl rfl (by decide) (pI_of (sh11_z ha0) hxI11_3) ?_
  refine go_ops aMi301 2 _ (f1 := (16, ([(2, .int (0 : Int32)), (0, .ref a0), (1, .int i1)], []))) rfl ?_
  refine go_le (lv1 := [(0, .ref a0), (1, .int i1), (2, .int (0 : Int32))]) (aLe_of (show (List.map (fun q => q.1) ([(0, .ref a0), (1, .int i1), (2, .int (0 : Int32))] : ALv)).Nodup from (by show ([0, 1, 2] : List Nat).Nodup; decide)) (aSubL_cons rfl (aSubL_cons rfl (aSubL_cons rfl aSubL_nil)))) ?_
  exact Tf301_b16 hd N a0 ha0 i1 (0 : Int32) I11_3 _ h
-- KernelGymModel.submit ()I
def f302_b174 (kad : Nat → Nat) (N : Nat) (Z : AZ) (k103 : Nat → Int32 → Int32 → Int32 → Int32 → Int32 → Int32 → AI → Option (Int32 × AI)) (a0 : Nat) (i1 : Int32) (i2 : Int32) (i3 : Int32) (i4 : Int32) (i6 : Int32) (s0 : Int32) (s1 : Int32) (I : AI) : Option (Int32 × AI) :=
  k103 a0 i1 i2 i3 i4 (s1 + s0) (i6 + (1 : Int32)) I
set_option maxRecDepth 20000 in
theorem Tf302_b174 {kad : Nat → Nat} {N : Nat} {Z : AZ} {d : Nat} {t : Option Nat × (Nat × Nat)} (hd : 8 ≤ d) (k103 : Nat → Int32 → Int32 → Int32 → Int32 → Int32 → Int32 → AI → Option (Int32 × AI))  (hk103 : ∀ (a0 : Nat) (ha0 : sh11 kad Z a0) (i1 : Int32) (i2 : Int32) (i3 : Int32) (i4 : Int32) (i5 : Int32) (i6 : Int32) (I : AI) (r : Int32 × AI), k103 a0 i1 i2 i3 i4 i5 i6 I = some r → aGo kad d 302 (103, ([(0, .ref a0), (1, .int i1), (2, .int i2), (3, .int i3), (4, .int i4), (5, .int i5), (6, .int i6)], [])) (aMem Z I, t) (qI Z t r)) : ∀ (a0 : Nat) (ha0 : sh11 kad Z a0) (i1 : Int32) (i2 : Int32) (i3 : Int32) (i4 : Int32) (i6 : Int32) (s0 : Int32) (s1 : Int32) (I : AI) (r : Int32 × AI), f302_b174 kad N Z k103 a0 i1 i2 i3 i4 i6 s0 s1 I = some r → aGo kad d 302 (174, ([(0, .ref a0), (1, .int i1), (2, .int i2), (3, .int i3), (4, .int i4), (6, .int i6)], [.int s0, .int s1])) (aMem Z I, t) (qI Z t r) := by
  intro a0 ha0 i1 i2 i3 i4 i6 s0 s1 I r h
  unfold f302_b174 at h
  refine go_ops aMi302 4 _ (f1 := (103, ([(6, .int (i6 + (1 : Int32))), (5, .int (s1 + s0)), (0, .ref a0), (1, .int i1), (2, .int i2), (3, .int i3), (4, .int i4)], []))) rfl ?_
  refine go_le (lv1 := [(0, .ref a0), (1, .int i1), (2, .int i2), (3, .int i3), (4, .int i4), (5, .int (s1 + s0)), (6, .int (i6 + (1 : Int32)))]) (aLe_of (show (List.map (fun q => q.1) ([(0, .ref a0), (1, .int i1), (2, .int i2), (3, .int i3), (4, .int i4), (5, .int (s1 + s0)), (6, .int (i6 + (1 : Int32)))] : ALv)).Nodup from (by show ([0, 1, 2, 3, 4, 5, 6] : List Nat).Nodup; decide)) (aSubL_cons rfl (aSubL_cons rfl (aSubL_cons rfl (aSubL_cons rfl (aSubL_cons rfl (aSubL_cons rfl (aSubL_cons rfl aSubL_nil)))))))) ?_
  exact hk103 a0 ha0 i1 i2 i3 i4 (s1 + s0) (i6 + (1 : Int32)) I _ h
def f302_b156 (kad : Nat → Nat) (N : Nat) (Z : AZ) (k103 : Nat → Int32 → Int32 → Int32 → Int32 → Int32 → Int32 → AI → Option (Int32 × AI)) (a0 : Nat) (i1 : Int32) (i2 : Int32) (i3 : Int32) (i4 : Int32) (i5 : Int32) (i6 : Int32) (s0 : Int32) (s1 : Int32) (I : AI) : Option (Int32 × AI) :=
  (ixA 5 s1).bind fun j156_2 =>
  (wB I (a0 + 39) j156_2 s0).bind fun I156_1 =>
  (ixA 5 i6).bind fun j165_3 =>
  if ¬ (I156_1 (a0 + 38) j165_3) = 0 then
    f302_b174 kad N Z k103 a0 i1 i2 i3 i4 i6 (0 : Int32) i5 I156_1
  else
    f302_b174 kad N Z k103 a0 i1 i2 i3 i4 i6 (1 : Int32) i5 I156_1
set_option maxRecDepth 20000 in
theorem Tf302_b156 {kad : Nat → Nat} {N : Nat} {Z : AZ} {d : Nat} {t : Option Nat × (Nat × Nat)} (hd : 8 ≤ d) (k103 : Nat → Int32 → Int32 → Int32 → Int32 → Int32 → Int32 → AI → Option (Int32 × AI))  (hk103 : ∀ (a0 : Nat) (ha0 : sh11 kad Z a0) (i1 : Int32) (i2 : Int32) (i3 : Int32) (i4 : Int32) (i5 : Int32) (i6 : Int32) (I : AI) (r : Int32 × AI), k103 a0 i1 i2 i3 i4 i5 i6 I = some r → aGo kad d 302 (103, ([(0, .ref a0), (1, .int i1), (2, .int i2), (3, .int i3), (4, .int i4), (5, .int i5), (6, .int i6)], [])) (aMem Z I, t) (qI Z t r)) : ∀ (a0 : Nat) (ha0 : sh11 kad Z a0) (i1 : Int32) (i2 : Int32) (i3 : Int32) (i4 : Int32) (i5 : Int32) (i6 : Int32) (s0 : Int32) (s1 : Int32) (I : AI) (r : Int32 × AI), f302_b156 kad N Z k103 a0 i1 i2 i3 i4 i5 i6 s0 s1 I = some r → aGo kad d 302 (156, ([(0, .ref a0), (1, .int i1), (2, .int i2), (3, .int i3), (4, .int i4), (5, .int i5), (6, .int i6)], [.int s0, .int s1, .ref (a0 + 39)])) (aMem Z I, t) (qI Z t r) := by
  intro a0 ha0 i1 i2 i3 i4 i5 i6 s0 s1 I r h
  unfold f302_b156 at h
  obtain ⟨j156_2, hxj156_2, h⟩ := Option.bind_eq_some_iff.mp h
  obtain ⟨I156_1, hxI156_1, h⟩ := Option.bind_eq_some_iff.mp h
  refine gg_sI (Or.inr ⟨rfl, rfl⟩) aMi302 rfl (sB_of (sh11_a70 ha0) hxj156_2 hxI156_1) ?_
  refine go_ops aMi302 2 _ (f1 := (160, ([(0, .ref a0), (1, .int i1), (2, .int i2), (3, .int i3), (4, .int i4), (5, .int i5), (6, .int i6)], [.ref a0, .int i5]))) rfl ?_
  refine gg_gR (b := (a0 + 38)) aMi302 rfl rfl rfl (gR_of (sh11_z ha0) (sh11_r69 ha0)) ?_
  refine go_ops aMi302 1 _ (f1 := (165, ([(0, .ref a0), (1, .int i1), (2, .int i2), (3, .int i3), (4, .int i4), (5, .int i5), (6, .int i6)], [.int i6, .ref (a0 + 38), .int i5]))) rfl ?_
  obtain ⟨j165_3, hxj165_3, h⟩ := Option.bind_eq_some_iff.mp h
  refine gg_lI (Or.inl ⟨rfl, rfl⟩) aMi302 rfl (lI_of (sh11_a69 ha0) hxj165_3) ?_
  refine gg_br (b := decide (¬ (I156_1 (a0 + 38) j165_3) = 0)) (tg := 173) (off := 7) aMi302 rfl rfl rfl rfl (fun hb => ?_) (fun hb => ?_)
  · rw [if_pos (of_decide_eq_true hb)] at h
    refine go_ops aMi302 1 _ (f1 := (174, ([(0, .ref a0), (1, .int i1), (2, .int i2), (3, .int i3), (4, .int i4), (5, .int i5), (6, .int i6)], [.int (0 : Int32), .int i5]))) rfl ?_
    refine go_le (lv1 := [(0, .ref a0), (1, .int i1), (2, .int i2), (3, .int i3), (4, .int i4), (6, .int i6)]) (aLe_of (show (List.map (fun q => q.1) ([(0, .ref a0), (1, .int i1), (2, .int i2), (3, .int i3), (4, .int i4), (6, .int i6)] : ALv)).Nodup from (by show ([0, 1, 2, 3, 4, 6] : List Nat).Nodup; decide)) (aSubL_cons rfl (aSubL_cons rfl (aSubL_cons rfl (aSubL_cons rfl (aSubL_cons rfl (aSubL_cons rfl aSubL_nil))))))) ?_
    exact Tf302_b174 hd k103 hk103 a0 ha0 i1 i2 i3 i4 i6 (0 : Int32) i5 I156_1 _ h
  · rw [if_neg (of_decide_eq_false hb)] at h
    refine go_ops aMi302 2 _ (f1 := (174, ([(0, .ref a0), (1, .int i1), (2, .int i2), (3, .int i3), (4, .int i4), (5, .int i5), (6, .int i6)], [.int (1 : Int32), .int i5]))) rfl ?_
    refine go_le (lv1 := [(0, .ref a0), (1, .int i1), (2, .int i2), (3, .int i3), (4, .int i4), (6, .int i6)]) (aLe_of (show (List.map (fun q => q.1) ([(0, .ref a0), (1, .int i1), (2, .int i2), (3, .int i3), (4, .int i4), (6, .int i6)] : ALv)).Nodup from (by show ([0, 1, 2, 3, 4, 6] : List Nat).Nodup; decide)) (aSubL_cons rfl (aSubL_cons rfl (aSubL_cons rfl (aSubL_cons rfl (aSubL_cons rfl (aSubL_cons rfl aSubL_nil))))))) ?_
    exact Tf302_b174 hd k103 hk103 a0 ha0 i1 i2 i3 i4 i6 (1 : Int32) i5 I156_1 _ h
def f302_b151 (kad : Nat → Nat) (N : Nat) (Z : AZ) (k103 : Nat → Int32 → Int32 → Int32 → Int32 → Int32 → Int32 → AI → Option (Int32 × AI)) (a0 : Nat) (i1 : Int32) (i2 : Int32) (i3 : Int32) (i4 : Int32) (i5 : Int32) (i6 : Int32) (s0 : Int32) (I : AI) : Option (Int32 × AI) :=
  f302_b156 kad N Z k103 a0 i1 i2 i3 i4 i5 i6 (1 : Int32) s0 I
set_option maxRecDepth 20000 in
theorem Tf302_b151 {kad : Nat → Nat} {N : Nat} {Z : AZ} {d : Nat} {t : Option Nat × (Nat × Nat)} (hd : 8 ≤ d) (k103 : Nat → Int32 → Int32 → Int32 → Int32 → Int32 → Int32 → AI → Option (Int32 × AI))  (hk103 : ∀ (a0 : Nat) (ha0 : sh11 kad Z a0) (i1 : Int32) (i2 : Int32) (i3 : Int32) (i4 : Int32) (i5 : Int32) (i6 : Int32) (I : AI) (r : Int32 × AI), k103 a0 i1 i2 i3 i4 i5 i6 I = some r → aGo kad d 302 (103, ([(0, .ref a0), (1, .int i1), (2, .int i2), (3, .int i3), (4, .int i4), (5, .int i5), (6, .int i6)], [])) (aMem Z I, t) (qI Z t r)) : ∀ (a0 : Nat) (ha0 : sh11 kad Z a0) (i1 : Int32) (i2 : Int32) (i3 : Int32) (i4 : Int32) (i5 : Int32) (i6 : Int32) (s0 : Int32) (I : AI) (r : Int32 × AI), f302_b151 kad N Z k103 a0 i1 i2 i3 i4 i5 i6 s0 I = some r → aGo kad d 302 (151, ([(0, .ref a0), (1, .int i1), (2, .int i2), (3, .int i3), (4, .int i4), (5, .int i5), (6, .int i6)], [.int s0, .ref (a0 + 39)])) (aMem Z I, t) (qI Z t r) := by
  intro a0 ha0 i1 i2 i3 i4 i5 i6 s0 I r h
  unfold f302_b151 at h
  refine go_ops aMi302 2 _ (f1 := (156, ([(0, .ref a0), (1, .int i1), (2, .int i2), (3, .int i3), (4, .int i4), (5, .int i5), (6, .int i6)], [.int (1 : Int32), .int s0, .ref (a0 + 39)]))) rfl ?_
  exact Tf302_b156 hd k103 hk103 a0 ha0 i1 i2 i3 i4 i5 i6 (1 : Int32) s0 I _ h
def f302_b262 (kad : Nat → Nat) (N : Nat) (Z : AZ) (a0 : Nat) (i5 : Int32) (I : AI) : Option (Int32 × AI) :=
  some (i5, I)
set_option maxRecDepth 20000 in
theorem Tf302_b262 {kad : Nat → Nat} {N : Nat} {Z : AZ} {d : Nat} {t : Option Nat × (Nat × Nat)} (hd : 8 ≤ d) : ∀ (a0 : Nat) (ha0 : sh11 kad Z a0) (i5 : Int32) (I : AI) (r : Int32 × AI), f302_b262 kad N Z a0 i5 I = some r → aGo kad d 302 (262, ([(5, .int i5)], [])) (aMem Z I, t) (qI Z t r) := by
  intro a0 ha0 i5 I r h
  unfold f302_b262 at h
  refine go_ops aMi302 1 _ (f1 := (264, ([(5, .int i5)], [.int i5]))) rfl ?_
  cases h
  exact go_ret aMi302 rfl aRetI ⟨rfl, rfl⟩
def f302_b192 (kad : Nat → Nat) (N : Nat) (Z : AZ) : Nat → Nat → Int32 → Int32 → Int32 → Int32 → Int32 → AI → Option (Int32 × AI)
  | 0, _, _, _, _, _, _, _ => none
  | F + 1, a0, i1, i2, i3, i5, i6, I =>
    if (20 : Int32) ≤ i6 then
      (f223 kad N Z a0 I).bind fun r234_1 =>
      (f255 kad N Z (a0 + 40) (a0 + 24) r234_1.2).bind fun r245_2 =>
      (wI r245_2.2 a0 52 i3).bind fun I250_3 =>
      if i1 = 0 then
        f302_b262 kad N Z a0 i5 I250_3
      else
        (f256 kad N Z a0 i2 I250_3).bind fun r259_4 =>
        f302_b262 kad N Z a0 i5 r259_4.2
    else
      (ixA 20 i6).bind fun j211_5 =>
      (ixA 20 i6).bind fun j212_7 =>
      (wI I (a0 + 18) j212_7 (I (a0 + 41) j211_5)).bind fun I212_6 =>
      (ixA 20 i6).bind fun j225_8 =>
      (ixA 20 i6).bind fun j226_10 =>
      (wI I212_6 (a0 + 19) j226_10 (I212_6 (a0 + 42) j225_8)).bind fun I226_9 =>
      f302_b192 kad N Z F a0 i1 i2 i3 i5 (i6 + (1 : Int32)) I226_9
set_option maxRecDepth 20000 in
theorem Tf302_b192 {kad : Nat → Nat} {N : Nat} {Z : AZ} {d : Nat} {t : Option Nat × (Nat × Nat)} (hd : 8 ≤ d) : ∀ (F : Nat) (a0 : Nat) (ha0 : sh11 kad Z a0) (i1 : Int32) (i2 : Int32) (i3 : Int32) (i5 : Int32) (i6 : Int32) (I : AI) (r : Int32 × AI), f302_b192 kad N Z F a0 i1 i2 i3 i5 i6 I = some r → aGo kad d 302 (192, ([(0, .ref a0), (1, .int i1), (2, .int i2), (3, .int i3), (5, .int i5), (6, .int i6)], [])) (aMem Z I, t) (qI Z t r) := by
  intro F
  induction F with
  | zero => intro a0 ha0 i1 i2 i3 i5 i6 I r h; cases h
  | succ F ih =>
    intro a0 ha0 i1 i2 i3 i5 i6 I r h
    unfold f302_b192 at h
    refine go_ops aMi302 2 _ (f1 := (196, ([(0, .ref a0), (1, .int i1), (2, .int i2), (3, .int i3), (5, .int i5), (6, .int i6)], [.int (20 : Int32), .int i6]))) rfl ?_
    refine gg_br (b := decide ((20 : Int32) ≤ i6)) (tg := 233) (off := 37) aMi302 rfl rfl rfl rfl (fun hb => ?_) (fun hb => ?_)
    · rw [if_pos (of_decide_eq_true hb)] at h
      refine go_ops aMi302 1 _ (f1 := (234, ([(0, .ref a0), (1, .int i1), (2, .int i2), (3, .int i3), (5, .int i5), (6, .int i6)], [.ref a0]))) rfl ?_
      obtain ⟨r234_1, hxr234_1, h⟩ := Option.bind_eq_some_iff.mp h
      refine gg_cv (as := []) (r := []) aMi302 rfl rfl rfl aMi223 (Nat.le_of_ble_eq_true rfl) rfl (Nat.le_of_ble_eq_true rfl) (Nat.le_of_ble_eq_true rfl) (by omega) (isK_of (sh11_z ha0)) (Tf223 (by omega) a0 ha0 I _ hxr234_1) ?_
      show aGo kad d 302 (237, ([(0, .ref a0), (1, .int i1), (2, .int i2), (3, .int i3), (5, .int i5), (6, .int i6)], [])) (aMem Z r234_1.2, t) _
      refine go_ops aMi302 1 _ (f1 := (238, ([(0, .ref a0), (1, .int i1), (2, .int i2), (3, .int i3), (5, .int i5), (6, .int i6)], [.ref a0]))) rfl ?_
      refine gg_gR (b := (a0 + 40)) aMi302 rfl rfl rfl (gR_of (sh11_z ha0) (sh11_r71 ha0)) ?_
      refine go_ops aMi302 1 _ (f1 := (242, ([(0, .ref a0), (1, .int i1), (2, .int i2), (3, .int i3), (5, .int i5), (6, .int i6)], [.ref a0, .ref (a0 + 40)]))) rfl ?_
      refine gg_gR (b := (a0 + 24)) aMi302 rfl rfl rfl (gR_of (sh11_z ha0) (sh11_r50 ha0)) ?_
      obtain ⟨r245_2, hxr245_2, h⟩ := Option.bind_eq_some_iff.mp h
      refine gg_cs (as := [.ref (a0 + 40), .ref (a0 + 24)]) (r := []) aMi302 rfl rfl rfl aMi255 rfl (Nat.le_of_ble_eq_true rfl) (Nat.le_of_ble_eq_true rfl) (by omega) (Tf255 (by omega) (a0 + 40) (a0 + 24) r234_1.2 _ hxr245_2) ?_
      show aGo kad d 302 (248, ([(0, .ref a0), (1, .int i1), (2, .int i2), (3, .int i3), (5, .int i5), (6, .int i6)], [])) (aMem Z r245_2.2, t) _
      refine go_ops aMi302 2 _ (f1 := (250, ([(0, .ref a0), (1, .int i1), (2, .int i2), (3, .int i3), (5, .int i5), (6, .int i6)], [.int i3, .ref a0]))) rfl ?_
      obtain ⟨I250_3, hxI250_3, h⟩ := Option.bind_eq_some_iff.mp h
      refine gg_pI aMi302 rfl rfl rfl rfl (by decide) (pI_of (sh11_z ha0) hxI250_3) ?_
      refine go_ops aMi302 1 _ (f1 := (254, ([(0, .ref a0), (1, .int i1), (2, .int i2), (3, .int i3), (5, .int i5), (6, .int i6)], [.int i1]))) rfl ?_
      refine gg_br (b := decide (i1 = 0)) (tg := 262) (off := 8) aMi302 rfl rfl rfl rfl (fun hb => ?_) (fun hb => ?_)
      · rw [if_pos (of_decide_eq_true hb)] at h
        refine go_le (lv1 := [(5, .int i5)]) (aLe_of (show (List.map (fun q => q.1) ([(5, .int i5)] : ALv)).Nodup from (by show ([5] : List Nat).Nodup; decide)) (aSubL_cons rfl aSubL_nil)) ?_
        exact Tf302_b262 hd a0 ha0 i5 I250_3 _ h
      · rw [if_neg (of_decide_eq_false hb)] at h
        refine go_ops aMi302 2 _ (f1 := (259, ([(0, .ref a0), (1, .int i1), (2, .int i2), (3, .int i3), (5, .int i5), (6, .int i6)], [.int i2, .ref a0]))) rfl ?_
        obtain ⟨r259_4, hxr259_4, h⟩ := Option.bind_eq_some_iff.mp h
        refine gg_cv (as := [.int i2]) (r := []) aMi302 rfl rfl rfl aMi256 (Nat.le_of_ble_eq_true rfl) rfl (Nat.le_of_ble_eq_true rfl) (Nat.le_of_ble_eq_true rfl) (by omega) (isK_of (sh11_z ha0)) (Tf256 (by omega) a0 ha0 i2 I250_3 _ hxr259_4) ?_
        show aGo kad d 302 (262, ([(0, .ref a0), (1, .int i1), (2, .int i2), (3, .int i3), (5, .int i5), (6, .int i6)], [])) (aMem Z r259_4.2, t) _
        refine go_le (lv1 := [(5, .int i5)]) (aLe_of (show (List.map (fun q => q.1) ([(5, .int i5)] : ALv)).Nodup from (by show ([5] : List Nat).Nodup; decide)) (aSubL_cons rfl aSubL_nil)) ?_
        exact Tf302_b262 hd a0 ha0 i5 r259_4.2 _ h
    · rw [if_neg (of_decide_eq_false hb)] at h
      refine go_ops aMi302 1 _ (f1 := (200, ([(0, .ref a0), (1, .int i1), (2, .int i2), (3, .int i3), (5, .int i5), (6, .int i6)], [.ref a0]))) rfl ?_
      refine gg_gR (b := (a0 + 18)) aMi302 rfl rfl rfl (gR_of (sh11_z ha0) (sh11_r41 ha0)) ?_
      refine go_ops aMi302 2 _ (f1 := (206, ([(0, .ref a0), (1, .int i1), (2, .int i2), (3, .int i3), (5, .int i5), (6, .int i6)], [.ref a0, .int i6, .ref (a0 + 18)]))) rfl ?_
      refine gg_gR (b := (a0 + 41)) aMi302 rfl rfl rfl (gR_of (sh11_z ha0) (sh11_r72 ha0)) ?_
      refine go_ops aMi302 1 _ (f1 := (211, ([(0, .ref a0), (1, .int i1), (2, .int i2), (3, .int i3), (5, .int i5), (6, .int i6)], [.int i6, .ref (a0 + 41), .int i6, .ref (a0 + 18)]))) rfl ?_
      obtain ⟨j211_5, hxj211_5, h⟩ := Option.bind_eq_some_iff.mp h
      refine gg_lI (Or.inl ⟨rfl, rfl⟩) aMi302 rfl (lI_of (sh11_a72 ha0) hxj211_5) ?_
      obtain ⟨j212_7, hxj212_7, h⟩ := Option.bind_eq_some_iff.mp h
      obtain ⟨I212_6, hxI212_6, h⟩ := Option.bind_eq_some_iff.mp h
      refine gg_sI (Or.inl ⟨rfl, rfl⟩) aMi302 rfl (sI_of (sh11_a41 ha0) hxj212_7 hxI212_6) ?_
      refine go_ops aMi302 1 _ (f1 := (214, ([(0, .ref a0), (1, .int i1), (2, .int i2), (3, .int i3), (5, .int i5), (6, .int i6)], [.ref a0]))) rfl ?_
      refine gg_gR (b := (a0 + 19)) aMi302 rfl rfl rfl (gR_of (sh11_z ha0) (sh11_r42 ha0)) ?_
      refine go_ops aMi302 2 _ (f1 := (220, ([(0, .ref a0), (1, .int i1), (2, .int i2), (3, .int i3), (5, .int i5), (6, .int i6)], [.ref a0, .int i6, .ref (a0 + 19)]))) rfl ?_
      refine gg_gR (b := (a0 + 42)) aMi302 rfl rfl rfl (gR_of (sh11_z ha0) (sh11_r73 ha0)) ?_
      refine go_ops aMi302 1 _ (f1 := (225, ([(0, .ref a0), (1, .int i1), (2, .int i2), (3, .int i3), (5, .int i5), (6, .int i6)], [.int i6, .ref (a0 + 42), .int i6, .ref (a0 + 19)]))) rfl ?_
      obtain ⟨j225_8, hxj225_8, h⟩ := Option.bind_eq_some_iff.mp h
      refine gg_lI (Or.inl ⟨rfl, rfl⟩) aMi302 rfl (lI_of (sh11_a73 ha0) hxj225_8) ?_
      obtain ⟨j226_10, hxj226_10, h⟩ := Option.bind_eq_some_iff.mp h
      obtain ⟨I226_9, hxI226_9, h⟩ := Option.bind_eq_some_iff.mp h
      refine gg_sI (Or.inl ⟨rfl, rfl⟩) aMi302 rfl (sI_of (sh11_a42 ha0) hxj226_10 hxI226_9) ?_
      refine go_ops aMi302 2 _ (f1 := (192, ([(6, .int (i6 + (1 : Int32))), (0, .ref a0), (1, .int i1), (2, .int i2), (3, .int i3), (5, .int i5)], []))) rfl ?_
      refine go_le (lv1 := [(0, .ref a0), (1, .int i1), (2, .int i2), (3, .int i3), (5, .int i5), (6, .int (i6 + (1 : Int32)))]) (aLe_of (show (List.map (fun q => q.1) ([(0, .ref a0), (1, .int i1), (2, .int i2), (3, .int i3), (5, .int i5), (6, .int (i6 + (1 : Int32)))] : ALv)).Nodup from (by show ([0, 1, 2, 3, 5, 6] : List Nat).Nodup; decide)) (aSubL_cons rfl (aSubL_cons rfl (aSubL_cons rfl (aSubL_cons rfl (aSubL_cons rfl (aSubL_cons rfl aSubL_nil))))))) ?_
      exact ih a0 ha0 i1 i2 i3 i5 (i6 + (1 : Int32)) I226_9 _ h
def f302_b103 (kad : Nat → Nat) (N : Nat) (Z : AZ) : Nat → Nat → Int32 → Int32 → Int32 → Int32 → Int32 → Int32 → AI → Option (Int32 × AI)
  | 0, _, _, _, _, _, _, _, _ => none
  | F + 1, a0, i1, i2, i3, i4, i5, i6, I =>
    if (I a0 60) ≤ i6 then
      (wI I a0 43 i4).bind fun I186_1 =>
      f302_b192 kad N Z N a0 i1 i2 i3 i5 (0 : Int32) I186_1
    else
      (f301 kad N Z a0 i6 I).bind fun r121_2 =>
      (ixA 5 i6).bind fun j124_4 =>
      (wI r121_2.2 (a0 + 38) j124_4 r121_2.1).bind fun I124_3 =>
      (ixA 5 i6).bind fun j137_5 =>
      if ¬ (I124_3 (a0 + 39) j137_5) = 0 then
        f302_b151 kad N Z (fun p0 p1 p2 p3 p4 p5 p6 I => f302_b103 kad N Z F p0 p1 p2 p3 p4 p5 p6 I) a0 i1 i2 i3 i4 i5 i6 i6 I124_3
      else
        (ixA 5 i6).bind fun j147_6 =>
        if ¬ (I124_3 (a0 + 38) j147_6) = 0 then
          f302_b156 kad N Z (fun p0 p1 p2 p3 p4 p5 p6 I => f302_b103 kad N Z F p0 p1 p2 p3 p4 p5 p6 I) a0 i1 i2 i3 i4 i5 i6 (0 : Int32) i6 I124_3
        else
          f302_b151 kad N Z (fun p0 p1 p2 p3 p4 p5 p6 I => f302_b103 kad N Z F p0 p1 p2 p3 p4 p5 p6 I) a0 i1 i2 i3 i4 i5 i6 i6 I124_3
set_option maxRecDepth 20000 in
theorem Tf302_b103 {kad : Nat → Nat} {N : Nat} {Z : AZ} {d : Nat} {t : Option Nat × (Nat × Nat)} (hd : 8 ≤ d) : ∀ (F : Nat) (a0 : Nat) (ha0 : sh11 kad Z a0) (i1 : Int32) (i2 : Int32) (i3 : Int32) (i4 : Int32) (i5 : Int32) (i6 : Int32) (I : AI) (r : Int32 × AI), f302_b103 kad N Z F a0 i1 i2 i3 i4 i5 i6 I = some r → aGo kad d 302 (103, ([(0, .ref a0), (1, .int i1), (2, .int i2), (3, .int i3), (4, .int i4), (5, .int i5), (6, .int i6)], [])) (aMem Z I, t) (qI Z t r) := by
  intro F
  induction F with
  | zero => intro a0 ha0 i1 i2 i3 i4 i5 i6 I r h; cases h
  | succ F ih =>
    intro a0 ha0 i1 i2 i3 i4 i5 i6 I r h
    unfold f302_b103 at h
    refine go_ops aMi302 2 _ (f1 := (106, ([(0, .ref a0), (1, .int i1), (2, .int i2), (3, .int i3), (4, .int i4), (5, .int i5), (6, .int i6)], [.ref a0, .int i6]))) rfl ?_
    refine gg_gI aMi302 rfl rfl rfl (gI_of (sh11_z ha0)) ?_
    refine gg_br (b := decide ((I a0 60) ≤ i6)) (tg := 183) (off := 74) aMi302 rfl rfl rfl rfl (fun hb => ?_) (fun hb => ?_)
    · rw [if_pos (of_decide_eq_true hb)] at h
      refine go_ops aMi302 2 _ (f1 := (186, ([(0, .ref a0), (1, .int i1), (2, .int i2), (3, .int i3), (4, .int i4), (5, .int i5), (6, .int i6)], [.int i4, .ref a0]))) rfl ?_
      obtain ⟨I186_1, hxI186_1, h⟩ := Option.bind_eq_some_iff.mp h
      refine gg_pI aMi302 rfl rfl rfl rfl (by decide) (pI_of (sh11_z ha0) hxI186_1) ?_
      refine go_ops aMi302 2 _ (f1 := (192, ([(6, .int (0 : Int32)), (0, .ref a0), (1, .int i1), (2, .int i2), (3, .int i3), (4, .int i4), (5, .int i5)], []))) rfl ?_
      refine go_le (lv1 := [(0, .ref a0), (1, .int i1), (2, .int i2), (3, .int i3), (5, .int i5), (6, .int (0 : Int32))]) (aLe_of (show (List.map (fun q => q.1) ([(0, .ref a0), (1, .int i1), (2, .int i2), (3, .int i3), (5, .int i5), (6, .int (0 : Int32))] : ALv)).Nodup from (by show ([0, 1, 2, 3, 5, 6] : List Nat).Nodup; decide)) (aSubL_cons rfl (aSubL_cons rfl (aSubL_cons rfl (aSubL_cons rfl (aSubL_cons rfl (aSubL_cons rfl aSubL_nil))))))) ?_
      exact Tf302_b192 hd N a0 ha0 i1 i2 i3 i5 (0 : Int32) I186_1 _ h
    · rw [if_neg (of_decide_eq_false hb)] at h
      refine go_ops aMi302 1 _ (f1 := (113, ([(0, .ref a0), (1, .int i1), (2, .int i2), (3, .int i3), (4, .int i4), (5, .int i5), (6, .int i6)], [.ref a0]))) rfl ?_
      refine gg_gR (b := (a0 + 38)) aMi302 rfl rfl rfl (gR_of (sh11_z ha0) (sh11_r69 ha0)) ?_
      refine go_ops aMi302 3 _ (f1 := (121, ([(0, .ref a0), (1, .int i1), (2, .int i2), (3, .int i3), (4, .int i4), (5, .int i5), (6, .int i6)], [.int i6, .ref a0, .int i6, .ref (a0 + 38)]))) rfl ?_
      obtain ⟨r121_2, hxr121_2, h⟩ := Option.bind_eq_some_iff.mp h
      refine gg_cv (as := [.int i6]) (r := [.int i6, .ref (a0 + 38)]) aMi302 rfl rfl rfl aMi301 (Nat.le_of_ble_eq_true rfl) rfl (Nat.le_of_ble_eq_true rfl) (Nat.le_of_ble_eq_true rfl) (by omega) (isK_of (sh11_z ha0)) (Tf301 (by omega) a0 ha0 i6 I _ hxr121_2) ?_
      show aGo kad d 302 (124, ([(0, .ref a0), (1, .int i1), (2, .int i2), (3, .int i3), (4, .int i4), (5, .int i5), (6, .int i6)], [.int r121_2.1, .int i6, .ref (a0 + 38)])) (aMem Z r121_2.2, t) _
      obtain ⟨j124_4, hxj124_4, h⟩ := Option.bind_eq_some_iff.mp h
      obtain ⟨I124_3, hxI124_3, h⟩ := Option.bind_eq_some_iff.mp h
      refine gg_sI (Or.inl ⟨rfl, rfl⟩) aMi302 rfl (sI_of (sh11_a69 ha0) hxj124_4 hxI124_3) ?_
      refine go_ops aMi302 1 _ (f1 := (126, ([(0, .ref a0), (1, .int i1), (2, .int i2), (3, .int i3), (4, .int i4), (5, .int i5), (6, .int i6)], [.ref a0]))) rfl ?_
      refine gg_gR (b := (a0 + 39)) aMi302 rfl rfl rfl (gR_of (sh11_z ha0) (sh11_r70 ha0)) ?_
      refine go_ops aMi302 2 _ (f1 := (132, ([(0, .ref a0), (1, .int i1), (2, .int i2), (3, .int i3), (4, .int i4), (5, .int i5), (6, .int i6)], [.ref a0, .int i6, .ref (a0 + 39)]))) rfl ?_
      refine gg_gR (b := (a0 + 39)) aMi302 rfl rfl rfl (gR_of (sh11_z ha0) (sh11_r70 ha0)) ?_
      refine go_ops aMi302 1 _ (f1 := (137, ([(0, .ref a0), (1, .int i1), (2, .int i2), (3, .int i3), (4, .int i4), (5, .int i5), (6, .int i6)], [.int i6, .ref (a0 + 39), .int i6, .ref (a0 + 39)]))) rfl ?_
      obtain ⟨j137_5, hxj137_5, h⟩ := Option.bind_eq_some_iff.mp h
      refine gg_lI (Or.inr ⟨rfl, rfl⟩) aMi302 rfl (lI_of (sh11_a70 ha0) hxj137_5) ?_
      refine gg_br (b := decide (¬ (I124_3 (a0 + 39) j137_5) = 0)) (tg := 151) (off := 13) aMi302 rfl rfl rfl rfl (fun hb => ?_) (fun hb => ?_)
      · rw [if_pos (of_decide_eq_true hb)] at h
        exact Tf302_b151 hd (fun p0 p1 p2 p3 p4 p5 p6 I => f302_b103 kad N Z F p0 p1 p2 p3 p4 p5 p6 I) (fun p0 q0 p1 p2 p3 p4 p5 p6 I r hh => ih p0 q0 p1 p2 p3 p4 p5 p6 I r hh) a0 ha0 i1 i2 i3 i4 i5 i6 i6 I124_3 _ h
      · rw [if_neg (of_decide_eq_false hb)] at h
        refine go_ops aMi302 1 _ (f1 := (142, ([(0, .ref a0), (1, .int i1), (2, .int i2), (3, .int i3), (4, .int i4), (5, .int i5), (6, .int i6)], [.ref a0, .int i6, .ref (a0 + 39)]))) rfl ?_
        refine gg_gR (b := (a0 + 38)) aMi302 rfl rfl rfl (gR_of (sh11_z ha0) (sh11_r69 ha0)) ?_
        refine go_ops aMi302 1 _ (f1 := (147, ([(0, .ref a0), (1, .int i1), (2, .int i2), (3, .int i3), (4, .int i4), (5, .int i5), (6, .int i6)], [.int i6, .ref (a0 + 38), .int i6, .ref (a0 + 39)]))) rfl ?_
        obtain ⟨j147_6, hxj147_6, h⟩ := Option.bind_eq_some_iff.mp h
        refine gg_lI (Or.inl ⟨rfl, rfl⟩) aMi302 rfl (lI_of (sh11_a69 ha0) hxj147_6) ?_
        refine gg_br (b := decide (¬ (I124_3 (a0 + 38) j147_6) = 0)) (tg := 155) (off := 7) aMi302 rfl rfl rfl rfl (fun hb => ?_) (fun hb => ?_)
        · rw [if_pos (of_decide_eq_true hb)] at h
          refine go_ops aMi302 1 _ (f1 := (156, ([(0, .ref a0), (1, .int i1), (2, .int i2), (3, .int i3), (4, .int i4), (5, .int i5), (6, .int i6)], [.int (0 : Int32), .int i6, .ref (a0 + 39)]))) rfl ?_
          exact Tf302_b156 hd (fun p0 p1 p2 p3 p4 p5 p6 I => f302_b103 kad N Z F p0 p1 p2 p3 p4 p5 p6 I) (fun p0 q0 p1 p2 p3 p4 p5 p6 I r hh => ih p0 q0 p1 p2 p3 p4 p5 p6 I r hh) a0 ha0 i1 i2 i3 i4 i5 i6 (0 : Int32) i6 I124_3 _ h
        · rw [if_neg (of_decide_eq_false hb)] at h
          exact Tf302_b151 hd (fun p0 p1 p2 p3 p4 p5 p6 I => f302_b103 kad N Z F p0 p1 p2 p3 p4 p5 p6 I) (fun p0 q0 p1 p2 p3 p4 p5 p6 I r hh => ih p0 q0 p1 p2 p3 p4 p5 p6 I r hh) a0 ha0 i1 i2 i3 i4 i5 i6 i6 I124_3 _ h
def f302_b56 (kad : Nat → Nat) (N : Nat) (Z : AZ) : Nat → Nat → Int32 → Int32 → Int32 → Int32 → Int32 → AI → Option (Int32 × AI)
  | 0, _, _, _, _, _, _, _ => none
  | F + 1, a0, i1, i2, i3, i4, i5, I =>
    if (20 : Int32) ≤ i5 then
      f302_b103 kad N Z N a0 i1 i2 i3 i4 (0 : Int32) (0 : Int32) I
    else
      (ixA 20 i5).bind fun j75_1 =>
      (ixA 20 i5).bind fun j76_3 =>
      (wI I (a0 + 41) j76_3 (I (a0 + 18) j75_1)).bind fun I76_2 =>
      (ixA 20 i5).bind fun j89_4 =>
      (ixA 20 i5).bind fun j90_6 =>
      (wI I76_2 (a0 + 42) j90_6 (I76_2 (a0 + 19) j89_4)).bind fun I90_5 =>
      f302_b56 kad N Z F a0 i1 i2 i3 i4 (i5 + (1 : Int32)) I90_5
set_option maxRecDepth 20000 in
theorem Tf302_b56 {kad : Nat → Nat} {N : Nat} {Z : AZ} {d : Nat} {t : Option Nat × (Nat × Nat)} (hd : 8 ≤ d) : ∀ (F : Nat) (a0 : Nat) (ha0 : sh11 kad Z a0) (i1 : Int32) (i2 : Int32) (i3 : Int32) (i4 : Int32) (i5 : Int32) (I : AI) (r : Int32 × AI), f302_b56 kad N Z F a0 i1 i2 i3 i4 i5 I = some r → aGo kad d 302 (56, ([(0, .ref a0), (1, .int i1), (2, .int i2), (3, .int i3), (4, .int i4), (5, .int i5)], [])) (aMem Z I, t) (qI Z t r) := by
  intro F
  induction F with
  | zero => intro a0 ha0 i1 i2 i3 i4 i5 I r h; cases h
  | succ F ih =>
    intro a0 ha0 i1 i2 i3 i4 i5 I r h
    unfold f302_b56 at h
    refine go_ops aMi302 2 _ (f1 := (60, ([(0, .ref a0), (1, .int i1), (2, .int i2), (3, .int i3), (4, .int i4), (5, .int i5)], [.int (20 : Int32), .int i5]))) rfl ?_
    refine gg_br (b := decide ((20 : Int32) ≤ i5)) (tg := 97) (off := 37) aMi302 rfl rfl rfl rfl (fun hb => ?_) (fun hb => ?_)
    · rw [if_pos (of_decide_eq_true hb)] at h
      refine go_ops aMi302 4 _ (f1 := (103, ([(6, .int (0 : Int32)), (5, .int (0 : Int32)), (0, .ref a0), (1, .int i1), (2, .int i2), (3, .int i3), (4, .int i4)], []))) rfl ?_
      refine go_le (lv1 := [(0, .ref a0), (1, .int i1), (2, .int i2), (3, .int i3), (4, .int i4), (5, .int (0 : Int32)), (6, .int (0 : Int32))]) (aLe_of (show (List.map (fun q => q.1) ([(0, .ref a0), (1, .int i1), (2, .int i2), (3, .int i3), (4, .int i4), (5, .int (0 : Int32)), (6, .int (0 : Int32))] : ALv)).Nodup from (by show ([0, 1, 2, 3, 4, 5, 6] : List Nat).Nodup; decide)) (aSubL_cons rfl (aSubL_cons rfl (aSubL_cons rfl (aSubL_cons rfl (aSubL_cons rfl (aSubL_cons rfl (aSubL_cons rfl aSubL_nil)))))))) ?_
      exact Tf302_b103 hd N a0 ha0 i1 i2 i3 i4 (0 : Int32) (0 : Int32) I _ h
    · rw [if_neg (of_decide_eq_false hb)] at h
      refine go_ops aMi302 1 _ (f1 := (64, ([(0, .ref a0), (1, .int i1), (2, .int i2), (3, .int i3), (4, .int i4), (5, .int i5)], [.ref a0]))) rfl ?_
      refine gg_gR (b := (a0 + 41)) aMi302 rfl rfl rfl (gR_of (sh11_z ha0) (sh11_r72 ha0)) ?_
      refine go_ops aMi302 2 _ (f1 := (70, ([(0, .ref a0), (1, .int i1), (2, .int i2), (3, .int i3), (4, .int i4), (5, .int i5)], [.ref a0, .int i5, .ref (a0 + 41)]))) rfl ?_
      refine gg_gR (b := (a0 + 18)) aMi302 rfl rfl rfl (gR_of (sh11_z ha0) (sh11_r41 ha0)) ?_
      refine go_ops aMi302 1 _ (f1 := (75, ([(0, .ref a0), (1, .int i1), (2, .int i2), (3, .int i3), (4, .int i4), (5, .int i5)], [.int i5, .ref (a0 + 18), .int i5, .ref (a0 + 41)]))) rfl ?_
      obtain ⟨j75_1, hxj75_1, h⟩ := Option.bind_eq_some_iff.mp h
      refine gg_lI (Or.inl ⟨rfl, rfl⟩) aMi302 rfl (lI_of (sh11_a41 ha0) hxj75_1) ?_
      obtain ⟨j76_3, hxj76_3, h⟩ := Option.bind_eq_some_iff.mp h
      obtain ⟨I76_2, hxI76_2, h⟩ := Option.bind_eq_some_iff.mp h
      refine gg_sI (Or.inl ⟨rfl, rfl⟩) aMi302 rfl (sI_of (sh11_a72 ha0) hxj76_3 hxI76_2) ?_
      refine go_ops aMi302 1 _ (f1 := (78, ([(0, .ref a0), (1, .int i1), (2, .int i2), (3, .int i3), (4, .int i4), (5, .int i5)], [.ref a0]))) rfl ?_
      refine gg_gR (b := (a0 + 42)) aMi302 rfl rfl rfl (gR_of (sh11_z ha0) (sh11_r73 ha0)) ?_
      refine go_ops aMi302 2 _ (f1 := (84, ([(0, .ref a0), (1, .int i1), (2, .int i2), (3, .int i3), (4, .int i4), (5, .int i5)], [.ref a0, .int i5, .ref (a0 + 42)]))) rfl ?_
      refine gg_gR (b := (a0 + 19)) aMi302 rfl rfl rfl (gR_of (sh11_z ha0) (sh11_r42 ha0)) ?_
      refine go_ops aMi302 1 _ (f1 := (89, ([(0, .ref a0), (1, .int i1), (2, .int i2), (3, .int i3), (4, .int i4), (5, .int i5)], [.int i5, .ref (a0 + 19), .int i5, .ref (a0 + 42)]))) rfl ?_
      obtain ⟨j89_4, hxj89_4, h⟩ := Option.bind_eq_some_iff.mp h
      refine gg_lI (Or.inl ⟨rfl, rfl⟩) aMi302 rfl (lI_of (sh11_a42 ha0) hxj89_4) ?_
      obtain ⟨j90_6, hxj90_6, h⟩ := Option.bind_eq_some_iff.mp h
      obtain ⟨I90_5, hxI90_5, h⟩ := Option.bind_eq_some_iff.mp h
      refine gg_sI (Or.inl ⟨rfl, rfl⟩) aMi302 rfl (sI_of (sh11_a73 ha0) hxj90_6 hxI90_5) ?_
      refine go_ops aMi302 2 _ (f1 := (56, ([(5, .int (i5 + (1 : Int32))), (0, .ref a0), (1, .int i1), (2, .int i2), (3, .int i3), (4, .int i4)], []))) rfl ?_
      refine go_le (lv1 := [(0, .ref a0), (1, .int i1), (2, .int i2), (3, .int i3), (4, .int i4), (5, .int (i5 + (1 : Int32)))]) (aLe_of (show (List.map (fun q => q.1) ([(0, .ref a0), (1, .int i1), (2, .int i2), (3, .int i3), (4, .int i4), (5, .int (i5 + (1 : Int32)))] : ALv)).Nodup from (by show ([0, 1, 2, 3, 4, 5] : List Nat).Nodup; decide)) (aSubL_cons rfl (aSubL_cons rfl (aSubL_cons rfl (aSubL_cons rfl (aSubL_cons rfl (aSubL_cons rfl aSubL_nil))))))) ?_
      exact ih a0 ha0 i1 i2 i3 i4 (i5 + (1 : Int32)) I90_5 _ h
def f302_b13 (kad : Nat → Nat) (N : Nat) (Z : AZ) (a0 : Nat) (s0 : Int32) (I : AI) : Option (Int32 × AI) :=
  (f185 kad N Z a0 s0 I).bind fun r13_1 =>
  if ¬ r13_1.1 = 0 then
    (f216 kad N Z a0 r13_1.2).bind fun r22_2 =>
    (f255 kad N Z (a0 + 24) (a0 + 40) r22_2.2).bind fun r50_3 =>
    f302_b56 kad N Z N a0 r22_2.1 ((r22_2.2) a0 38) ((r22_2.2) a0 52) ((r22_2.2) a0 43) (0 : Int32) r50_3.2
  else
    some ((0 : Int32), r13_1.2)
set_option maxRecDepth 20000 in
theorem Tf302_b13 {kad : Nat → Nat} {N : Nat} {Z : AZ} {d : Nat} {t : Option Nat × (Nat × Nat)} (hd : 8 ≤ d) : ∀ (a0 : Nat) (ha0 : sh11 kad Z a0) (s0 : Int32) (I : AI) (r : Int32 × AI), f302_b13 kad N Z a0 s0 I = some r → aGo kad d 302 (13, ([(0, .ref a0)], [.int s0, .ref a0])) (aMem Z I, t) (qI Z t r) := by
  intro a0 ha0 s0 I r h
  unfold f302_b13 at h
  obtain ⟨r13_1, hxr13_1, h⟩ := Option.bind_eq_some_iff.mp h
  refine gg_cv (as := [.int s0]) (r := []) aMi302 rfl rfl rfl aMi185 (Nat.le_of_ble_eq_true rfl) rfl (Nat.le_of_ble_eq_true rfl) (Nat.le_of_ble_eq_true rfl) (by omega) (isK_of (sh11_z ha0)) (Tf185 (by omega) a0 ha0 s0 I _ hxr13_1) ?_
  show aGo kad d 302 (16, ([(0, .ref a0)], [.int r13_1.1])) (aMem Z r13_1.2, t) _
  refine gg_br (b := decide (¬ r13_1.1 = 0)) (tg := 21) (off := 5) aMi302 rfl rfl rfl rfl (fun hb => ?_) (fun hb => ?_)
  · rw [if_pos (of_decide_eq_true hb)] at h
    refine go_ops aMi302 1 _ (f1 := (22, ([(0, .ref a0)], [.ref a0]))) rfl ?_
    obtain ⟨r22_2, hxr22_2, h⟩ := Option.bind_eq_some_iff.mp h
    refine gg_cv (as := []) (r := []) aMi302 rfl rfl rfl aMi216 (Nat.le_of_ble_eq_true rfl) rfl (Nat.le_of_ble_eq_true rfl) (Nat.le_of_ble_eq_true rfl) (by omega) (isK_of (sh11_z ha0)) (Tf216 (by omega) a0 ha0 r13_1.2 _ hxr22_2) ?_
    show aGo kad d 302 (25, ([(0, .ref a0)], [.int r22_2.1])) (aMem Z r22_2.2, t) _
    refine go_ops aMi302 2 _ (f1 := (27, ([(1, .int r22_2.1), (0, .ref a0)], [.ref a0]))) rfl ?_
    refine gg_gI aMi302 rfl rfl rfl (gI_of (sh11_z ha0)) ?_
    refine go_ops aMi302 2 _ (f1 := (32, ([(2, .int ((r22_2.2) a0 38)), (1, .int r22_2.1), (0, .ref a0)], [.ref a0]))) rfl ?_
    refine gg_gI aMi302 rfl rfl rfl (gI_of (sh11_z ha0)) ?_
    refine go_ops aMi302 2 _ (f1 := (37, ([(3, .int ((r22_2.2) a0 52)), (2, .int ((r22_2.2) a0 38)), (1, .int r22_2.1), (0, .ref a0)], [.ref a0]))) rfl ?_
    refine gg_gI aMi302 rfl rfl rfl (gI_of (sh11_z ha0)) ?_
    refine go_ops aMi302 2 _ (f1 := (43, ([(4, .int ((r22_2.2) a0 43)), (3, .int ((r22_2.2) a0 52)), (2, .int ((r22_2.2) a0 38)), (1, .int r22_2.1), (0, .ref a0)], [.ref a0]))) rfl ?_
    refine gg_gR (b := (a0 + 24)) aMi302 rfl rfl rfl (gR_of (sh11_z ha0) (sh11_r50 ha0)) ?_
    refine go_ops aMi302 1 _ (f1 := (47, ([(4, .int ((r22_2.2) a0 43)), (3, .int ((r22_2.2) a0 52)), (2, .int ((r22_2.2) a0 38)), (1, .int r22_2.1), (0, .ref a0)], [.ref a0, .ref (a0 + 24)]))) rfl ?_
    refine gg_gR (b := (a0 + 40)) aMi302 rfl rfl rfl (gR_of (sh11_z ha0) (sh11_r71 ha0)) ?_
    obtain ⟨r50_3, hxr50_3, h⟩ := Option.bind_eq_some_iff.mp h
    refine gg_cs (as := [.ref (a0 + 24), .ref (a0 + 40)]) (r := []) aMi302 rfl rfl rfl aMi255 rfl (Nat.le_of_ble_eq_true rfl) (Nat.le_of_ble_eq_true rfl) (by omega) (Tf255 (by omega) (a0 + 24) (a0 + 40) r22_2.2 _ hxr50_3) ?_
    show aGo kad d 302 (53, ([(4, .int ((r22_2.2) a0 43)), (3, .int ((r22_2.2) a0 52)), (2, .int ((r22_2.2) a0 38)), (1, .int r22_2.1), (0, .ref a0)], [])) (aMem Z r50_3.2, t) _
    refine go_ops aMi302 2 _ (f1 := (56, ([(5, .int (0 : Int32)), (4, .int ((r22_2.2) a0 43)), (3, .int ((r22_2.2) a0 52)), (2, .int ((r22_2.2) a0 38)), (1, .int r22_2.1), (0, .ref a0)], []))) rfl ?_
    refine go_le (lv1 := [(0, .ref a0), (1, .int r22_2.1), (2, .int ((r22_2.2) a0 38)), (3, .int ((r22_2.2) a0 52)), (4, .int ((r22_2.2) a0 43)), (5, .int (0 : Int32))]) (aLe_of (show (List.map (fun q => q.1) ([(0, .ref a0), (1, .int r22_2.1), (2, .int ((r22_2.2) a0 38)), (3, .int ((r22_2.2) a0 52)), (4, .int ((r22_2.2) a0 43)), (5, .int (0 : Int32))] : ALv)).Nodup from (by show ([0, 1, 2, 3, 4, 5] : List Nat).Nodup; decide)) (aSubL_cons rfl (aSubL_cons rfl (aSubL_cons rfl (aSubL_cons rfl (aSubL_cons rfl (aSubL_cons rfl aSubL_nil))))))) ?_
    exact Tf302_b56 hd N a0 ha0 r22_2.1 ((r22_2.2) a0 38) ((r22_2.2) a0 52) ((r22_2.2) a0 43) (0 : Int32) r50_3.2 _ h
  · rw [if_neg (of_decide_eq_false hb)] at h
    refine go_ops aMi302 1 _ (f1 := (20, ([(0, .ref a0)], [.int (0 : Int32)]))) rfl ?_
    cases h
    exact go_ret aMi302 rfl aRetI ⟨rfl, rfl⟩
def f302 (kad : Nat → Nat) (N : Nat) (Z : AZ) (a0 : Nat) (I : AI) : Option (Int32 × AI) :=
  if (I a0 22) = 0 then
    f302_b13 kad N Z a0 (1 : Int32) I
  else
    f302_b13 kad N Z a0 (0 : Int32) I
set_option maxRecDepth 20000 in
theorem Tf302 {kad : Nat → Nat} {N : Nat} {Z : AZ} {d : Nat} {t : Option Nat × (Nat × Nat)} (hd : 8 ≤ d) : ∀ (a0 : Nat) (ha0 : sh11 kad Z a0) (I : AI) (r : Int32 × AI), f302 kad N Z a0 I = some r → aGo kad d 302 (0, ([(0, .ref a0)], [])) (aMem Z I, t) (qI Z t r) := by
  intro a0 ha0 I r h
  unfold f302 at h
  refine go_ops aMi302 2 _ (f1 := (2, ([(0, .ref a0)], [.ref a0, .ref a0]))) rfl ?_
  refine gg_gI aMi302 rfl rfl rfl (gI_of (sh11_z ha0)) ?_
  refine gg_br (b := decide ((I a0 22) = 0)) (tg := 12) (off := 7) aMi302 rfl rfl rfl rfl (fun hb => ?_) (fun hb => ?_)
  · rw [if_pos (of_decide_eq_true hb)] at h
    refine go_ops aMi302 1 _ (f1 := (13, ([(0, .ref a0)], [.int (1 : Int32), .ref a0]))) rfl ?_
    exact Tf302_b13 hd a0 ha0 (1 : Int32) I _ h
  · rw [if_neg (of_decide_eq_false hb)] at h
    refine go_ops aMi302 2 _ (f1 := (13, ([(0, .ref a0)], [.int (0 : Int32), .ref a0]))) rfl ?_
    exact Tf302_b13 hd a0 ha0 (0 : Int32) I _ h
-- KernelGymModel.result (I)I
def f303_b36 (kad : Nat → Nat) (N : Nat) (Z : AZ) (a0 : Nat) (s0 : Int32) (I : AI) : Option (Int32 × AI) :=
  some (s0, I)
set_option maxRecDepth 20000 in
theorem Tf303_b36 {kad : Nat → Nat} {N : Nat} {Z : AZ} {d : Nat} {t : Option Nat × (Nat × Nat)} (hd : 1 ≤ d) : ∀ (a0 : Nat) (ha0 : sh11 kad Z a0) (s0 : Int32) (I : AI) (r : Int32 × AI), f303_b36 kad N Z a0 s0 I = some r → aGo kad d 303 (36, ([], [.int s0])) (aMem Z I, t) (qI Z t r) := by
  intro a0 ha0 s0 I r h
  unfold f303_b36 at h
  cases h
  exact go_ret aMi303 rfl aRetI ⟨rfl, rfl⟩
def f303_b20 (kad : Nat → Nat) (N : Nat) (Z : AZ) (a0 : Nat) (i1 : Int32) (s0 : Int32) (I : AI) : Option (Int32 × AI) :=
  (f185 kad N Z a0 s0 I).bind fun r20_1 =>
  if r20_1.1 = 0 then
    f303_b36 kad N Z a0 (0 : Int32) r20_1.2
  else
    (ixA 5 i1).bind fun j31_2 =>
    f303_b36 kad N Z a0 (r20_1.2 (a0 + 38) j31_2) r20_1.2
set_option maxRecDepth 20000 in
theorem Tf303_b20 {kad : Nat → Nat} {N : Nat} {Z : AZ} {d : Nat} {t : Option Nat × (Nat × Nat)} (hd : 1 ≤ d) : ∀ (a0 : Nat) (ha0 : sh11 kad Z a0) (i1 : Int32) (s0 : Int32) (I : AI) (r : Int32 × AI), f303_b20 kad N Z a0 i1 s0 I = some r → aGo kad d 303 (20, ([(0, .ref a0), (1, .int i1)], [.int s0, .ref a0])) (aMem Z I, t) (qI Z t r) := by
  intro a0 ha0 i1 s0 I r h
  unfold f303_b20 at h
  obtain ⟨r20_1, hxr20_1, h⟩ := Option.bind_eq_some_iff.mp h
  refine gg_cv (as := [.int s0]) (r := []) aMi303 rfl rfl rfl aMi185 (Nat.le_of_ble_eq_true rfl) rfl (Nat.le_of_ble_eq_true rfl) (Nat.le_of_ble_eq_true rfl) (by omega) (isK_of (sh11_z ha0)) (Tf185 (by omega) a0 ha0 s0 I _ hxr20_1) ?_
  show aGo kad d 303 (23, ([(0, .ref a0), (1, .int i1)], [.int r20_1.1])) (aMem Z r20_1.2, t) _
  refine gg_br (b := decide (r20_1.1 = 0)) (tg := 35) (off := 12) aMi303 rfl rfl rfl rfl (fun hb => ?_) (fun hb => ?_)
  · rw [if_pos (of_decide_eq_true hb)] at h
    refine go_ops aMi303 1 _ (f1 := (36, ([(0, .ref a0), (1, .int i1)], [.int (0 : Int32)]))) rfl ?_
    refine go_le (lv1 := []) (aLe_of (show (List.map (fun q => q.1) ([] : ALv)).Nodup from (by show ([] : List Nat).Nodup; decide)) aSubL_nil) ?_
    exact Tf303_b36 hd a0 ha0 (0 : Int32) r20_1.2 _ h
  · rw [if_neg (of_decide_eq_false hb)] at h
    refine go_ops aMi303 1 _ (f1 := (27, ([(0, .ref a0), (1, .int i1)], [.ref a0]))) rfl ?_
    refine gg_gR (b := (a0 + 38)) aMi303 rfl rfl rfl (gR_of (sh11_z ha0) (sh11_r69 ha0)) ?_
    refine go_ops aMi303 1 _ (f1 := (31, ([(0, .ref a0), (1, .int i1)], [.int i1, .ref (a0 + 38)]))) rfl ?_
    obtain ⟨j31_2, hxj31_2, h⟩ := Option.bind_eq_some_iff.mp h
    refine gg_lI (Or.inl ⟨rfl, rfl⟩) aMi303 rfl (lI_of (sh11_a69 ha0) hxj31_2) ?_
    refine go_ops aMi303 1 _ (f1 := (36, ([(0, .ref a0), (1, .int i1)], [.int (r20_1.2 (a0 + 38) j31_2)]))) rfl ?_
    refine go_le (lv1 := []) (aLe_of (show (List.map (fun q => q.1) ([] : ALv)).Nodup from (by show ([] : List Nat).Nodup; decide)) aSubL_nil) ?_
    exact Tf303_b36 hd a0 ha0 (r20_1.2 (a0 + 38) j31_2) r20_1.2 _ h
def f303 (kad : Nat → Nat) (N : Nat) (Z : AZ) (a0 : Nat) (i1 : Int32) (I : AI) : Option (Int32 × AI) :=
  (f186 kad N Z i1 (0 : Int32) ((I a0 60) - (1 : Int32)) I).bind fun r9_1 =>
  if r9_1.1 = 0 then
    f303_b20 kad N Z a0 i1 (1 : Int32) r9_1.2
  else
    f303_b20 kad N Z a0 i1 (0 : Int32) r9_1.2
set_option maxRecDepth 20000 in
theorem Tf303 {kad : Nat → Nat} {N : Nat} {Z : AZ} {d : Nat} {t : Option Nat × (Nat × Nat)} (hd : 1 ≤ d) : ∀ (a0 : Nat) (ha0 : sh11 kad Z a0) (i1 : Int32) (I : AI) (r : Int32 × AI), f303 kad N Z a0 i1 I = some r → aGo kad d 303 (0, ([(0, .ref a0), (1, .int i1)], [])) (aMem Z I, t) (qI Z t r) := by
  intro a0 ha0 i1 I r h
  unfold f303 at h
  refine go_ops aMi303 4 _ (f1 := (4, ([(0, .ref a0), (1, .int i1)], [.ref a0, .int (0 : Int32), .int i1, .ref a0]))) rfl ?_
  refine gg_gI aMi303 rfl rfl rfl (gI_of (sh11_z ha0)) ?_
  refine go_ops aMi303 2 _ (f1 := (9, ([(0, .ref a0), (1, .int i1)], [.int ((I a0 60) - (1 : Int32)), .int (0 : Int32), .int i1, .ref a0]))) rfl ?_
  obtain ⟨r9_1, hxr9_1, h⟩ := Option.bind_eq_some_iff.mp h
  refine gg_cs (as := [.int i1, .int (0 : Int32), .int ((I a0 60) - (1 : Int32))]) (r := [.ref a0]) aMi303 rfl rfl rfl aMi186 rfl (Nat.le_of_ble_eq_true rfl) (Nat.le_of_ble_eq_true rfl) (by omega) (Tf186 (by omega) i1 (0 : Int32) ((I a0 60) - (1 : Int32)) I _ hxr9_1) ?_
  show aGo kad d 303 (12, ([(0, .ref a0), (1, .int i1)], [.int r9_1.1, .ref a0])) (aMem Z r9_1.2, t) _
  refine gg_br (b := decide (r9_1.1 = 0)) (tg := 19) (off := 7) aMi303 rfl rfl rfl rfl (fun hb => ?_) (fun hb => ?_)
  · rw [if_pos (of_decide_eq_true hb)] at h
    refine go_ops aMi303 1 _ (f1 := (20, ([(0, .ref a0), (1, .int i1)], [.int (1 : Int32), .ref a0]))) rfl ?_
    exact Tf303_b20 hd a0 ha0 i1 (1 : Int32) r9_1.2 _ h
  · rw [if_neg (of_decide_eq_false hb)] at h
    refine go_ops aMi303 2 _ (f1 := (20, ([(0, .ref a0), (1, .int i1)], [.int (0 : Int32), .ref a0]))) rfl ?_
    exact Tf303_b20 hd a0 ha0 i1 (0 : Int32) r9_1.2 _ h
-- KernelGymModel.mark ()I
def f304_b70 (kad : Nat → Nat) (N : Nat) (Z : AZ) (k9 : Nat → Int32 → Int32 → AI → Option (Int32 × AI)) (a0 : Nat) (i2 : Int32) (s0 : Int32) (s1 : Int32) (I : AI) : Option (Int32 × AI) :=
  k9 a0 (s1 + s0) (i2 + (1 : Int32)) I
set_option maxRecDepth 20000 in
theorem Tf304_b70 {kad : Nat → Nat} {N : Nat} {Z : AZ} {d : Nat} {t : Option Nat × (Nat × Nat)} (hd : 0 ≤ d) (k9 : Nat → Int32 → Int32 → AI → Option (Int32 × AI))  (hk9 : ∀ (a0 : Nat) (ha0 : sh11 kad Z a0) (i1 : Int32) (i2 : Int32) (I : AI) (r : Int32 × AI), k9 a0 i1 i2 I = some r → aGo kad d 304 (9, ([(0, .ref a0), (1, .int i1), (2, .int i2)], [])) (aMem Z I, t) (qI Z t r)) : ∀ (a0 : Nat) (ha0 : sh11 kad Z a0) (i2 : Int32) (s0 : Int32) (s1 : Int32) (I : AI) (r : Int32 × AI), f304_b70 kad N Z k9 a0 i2 s0 s1 I = some r → aGo kad d 304 (70, ([(0, .ref a0), (2, .int i2)], [.int s0, .int s1])) (aMem Z I, t) (qI Z t r) := by
  intro a0 ha0 i2 s0 s1 I r h
  unfold f304_b70 at h
  refine go_ops aMi304 4 _ (f1 := (9, ([(2, .int (i2 + (1 : Int32))), (1, .int (s1 + s0)), (0, .ref a0)], []))) rfl ?_
  refine go_le (lv1 := [(0, .ref a0), (1, .int (s1 + s0)), (2, .int (i2 + (1 : Int32)))]) (aLe_of (show (List.map (fun q => q.1) ([(0, .ref a0), (1, .int (s1 + s0)), (2, .int (i2 + (1 : Int32)))] : ALv)).Nodup from (by show ([0, 1, 2] : List Nat).Nodup; decide)) (aSubL_cons rfl (aSubL_cons rfl (aSubL_cons rfl aSubL_nil)))) ?_
  exact hk9 a0 ha0 (s1 + s0) (i2 + (1 : Int32)) I _ h
def f304_b69 (kad : Nat → Nat) (N : Nat) (Z : AZ) (k9 : Nat → Int32 → Int32 → AI → Option (Int32 × AI)) (a0 : Nat) (i2 : Int32) (s0 : Int32) (I : AI) : Option (Int32 × AI) :=
  f304_b70 kad N Z k9 a0 i2 (0 : Int32) s0 I
set_option maxRecDepth 20000 in
theorem Tf304_b69 {kad : Nat → Nat} {N : Nat} {Z : AZ} {d : Nat} {t : Option Nat × (Nat × Nat)} (hd : 0 ≤ d) (k9 : Nat → Int32 → Int32 → AI → Option (Int32 × AI))  (hk9 : ∀ (a0 : Nat) (ha0 : sh11 kad Z a0) (i1 : Int32) (i2 : Int32) (I : AI) (r : Int32 × AI), k9 a0 i1 i2 I = some r → aGo kad d 304 (9, ([(0, .ref a0), (1, .int i1), (2, .int i2)], [])) (aMem Z I, t) (qI Z t r)) : ∀ (a0 : Nat) (ha0 : sh11 kad Z a0) (i2 : Int32) (s0 : Int32) (I : AI) (r : Int32 × AI), f304_b69 kad N Z k9 a0 i2 s0 I = some r → aGo kad d 304 (69, ([(0, .ref a0), (2, .int i2)], [.int s0])) (aMem Z I, t) (qI Z t r) := by
  intro a0 ha0 i2 s0 I r h
  unfold f304_b69 at h
  refine go_ops aMi304 1 _ (f1 := (70, ([(0, .ref a0), (2, .int i2)], [.int (0 : Int32), .int s0]))) rfl ?_
  exact Tf304_b70 hd k9 hk9 a0 ha0 i2 (0 : Int32) s0 I _ h
def f304_b87 (kad : Nat → Nat) (N : Nat) (Z : AZ) (a0 : Nat) (s0 : Int32) (I : AI) : Option (Int32 × AI) :=
  some (s0, I)
set_option maxRecDepth 20000 in
theorem Tf304_b87 {kad : Nat → Nat} {N : Nat} {Z : AZ} {d : Nat} {t : Option Nat × (Nat × Nat)} (hd : 0 ≤ d) : ∀ (a0 : Nat) (ha0 : sh11 kad Z a0) (s0 : Int32) (I : AI) (r : Int32 × AI), f304_b87 kad N Z a0 s0 I = some r → aGo kad d 304 (87, ([], [.int s0])) (aMem Z I, t) (qI Z t r) := by
  intro a0 ha0 s0 I r h
  unfold f304_b87 at h
  cases h
  exact go_ret aMi304 rfl aRetI ⟨rfl, rfl⟩
def f304_b9 (kad : Nat → Nat) (N : Nat) (Z : AZ) : Nat → Nat → Int32 → Int32 → AI → Option (Int32 × AI)
  | 0, _, _, _, _ => none
  | F + 1, a0, i1, i2, I =>
    if (I a0 60) ≤ i2 then
      if 0 ≤ i1 then
        f304_b87 kad N Z a0 i1 I
      else
        f304_b87 kad N Z a0 (0 : Int32) I
    else
      (ixA 5 i2).bind fun j23_1 =>
      if ¬ (I (a0 + 38) j23_1) = 0 then
        (ixA 5 i2).bind fun j41_2 =>
        if (I (a0 + 38) j41_2) = (Int32.ofInt (-1)) then
          f304_b69 kad N Z (fun p0 p1 p2 I => f304_b9 kad N Z F p0 p1 p2 I) a0 i2 i1 I
        else
          (ixA 5 i2).bind fun j51_3 =>
          if (I (a0 + 39) j51_3) = 0 then
            f304_b69 kad N Z (fun p0 p1 p2 I => f304_b9 kad N Z F p0 p1 p2 I) a0 i2 i1 I
          else
            (ixA 5 i2).bind fun j60_4 =>
            f304_b70 kad N Z (fun p0 p1 p2 I => f304_b9 kad N Z F p0 p1 p2 I) a0 i2 (-(((I (a0 + 36) j60_4) + (1 : Int32)) / (2 : Int32))) i1 I
      else
        (ixA 5 i2).bind fun j32_5 =>
        f304_b70 kad N Z (fun p0 p1 p2 I => f304_b9 kad N Z F p0 p1 p2 I) a0 i2 (I (a0 + 36) j32_5) i1 I
set_option maxRecDepth 20000 in
theorem Tf304_b9 {kad : Nat → Nat} {N : Nat} {Z : AZ} {d : Nat} {t : Option Nat × (Nat × Nat)} (hd : 0 ≤ d) : ∀ (F : Nat) (a0 : Nat) (ha0 : sh11 kad Z a0) (i1 : Int32) (i2 : Int32) (I : AI) (r : Int32 × AI), f304_b9 kad N Z F a0 i1 i2 I = some r → aGo kad d 304 (9, ([(0, .ref a0), (1, .int i1), (2, .int i2)], [])) (aMem Z I, t) (qI Z t r) := by
  intro F
  induction F with
  | zero => intro a0 ha0 i1 i2 I r h; cases h
  | succ F ih =>
    intro a0 ha0 i1 i2 I r h
    unfold f304_b9 at h
    refine go_ops aMi304 2 _ (f1 := (11, ([(0, .ref a0), (1, .int i1), (2, .int i2)], [.ref a0, .int i2]))) rfl ?_
    refine gg_gI aMi304 rfl rfl rfl (gI_of (sh11_z ha0)) ?_
    refine gg_br (b := decide ((I a0 60) ≤ i2)) (tg := 78) (off := 64) aMi304 rfl rfl rfl rfl (fun hb => ?_) (fun hb => ?_)
    · rw [if_pos (of_decide_eq_true hb)] at h
      refine go_ops aMi304 1 _ (f1 := (79, ([(0, .ref a0), (1, .int i1), (2, .int i2)], [.int i1]))) rfl ?_
      refine gg_br (b := decide (0 ≤ i1)) (tg := 86) (off := 7) aMi304 rfl rfl rfl rfl (fun hb => ?_) (fun hb => ?_)
      · rw [if_pos (of_decide_eq_true hb)] at h
        refine go_ops aMi304 1 _ (f1 := (87, ([(0, .ref a0), (1, .int i1), (2, .int i2)], [.int i1]))) rfl ?_
        refine go_le (lv1 := []) (aLe_of (show (List.map (fun q => q.1) ([] : ALv)).Nodup from (by show ([] : List Nat).Nodup; decide)) aSubL_nil) ?_
        exact Tf304_b87 hd a0 ha0 i1 I _ h
      · rw [if_neg (of_decide_eq_false hb)] at h
        refine go_ops aMi304 2 _ (f1 := (87, ([(0, .ref a0), (1, .int i1), (2, .int i2)], [.int (0 : Int32)]))) rfl ?_
        refine go_le (lv1 := []) (aLe_of (show (List.map (fun q => q.1) ([] : ALv)).Nodup from (by show ([] : List Nat).Nodup; decide)) aSubL_nil) ?_
        exact Tf304_b87 hd a0 ha0 (0 : Int32) I _ h
    · rw [if_neg (of_decide_eq_false hb)] at h
      refine go_ops aMi304 2 _ (f1 := (19, ([(0, .ref a0), (1, .int i1), (2, .int i2)], [.ref a0, .int i1]))) rfl ?_
      refine gg_gR (b := (a0 + 38)) aMi304 rfl rfl rfl (gR_of (sh11_z ha0) (sh11_r69 ha0)) ?_
      refine go_ops aMi304 1 _ (f1 := (23, ([(0, .ref a0), (1, .int i1), (2, .int i2)], [.int i2, .ref (a0 + 38), .int i1]))) rfl ?_
      obtain ⟨j23_1, hxj23_1, h⟩ := Option.bind_eq_some_iff.mp h
      refine gg_lI (Or.inl ⟨rfl, rfl⟩) aMi304 rfl (lI_of (sh11_a69 ha0) hxj23_1) ?_
      refine gg_br (b := decide (¬ (I (a0 + 38) j23_1) = 0)) (tg := 36) (off := 12) aMi304 rfl rfl rfl rfl (fun hb => ?_) (fun hb => ?_)
      · rw [if_pos (of_decide_eq_true hb)] at h
        refine go_ops aMi304 1 _ (f1 := (37, ([(0, .ref a0), (1, .int i1), (2, .int i2)], [.ref a0, .int i1]))) rfl ?_
        refine gg_gR (b := (a0 + 38)) aMi304 rfl rfl rfl (gR_of (sh11_z ha0) (sh11_r69 ha0)) ?_
        refine go_ops aMi304 1 _ (f1 := (41, ([(0, .ref a0), (1, .int i1), (2, .int i2)], [.int i2, .ref (a0 + 38), .int i1]))) rfl ?_
        obtain ⟨j41_2, hxj41_2, h⟩ := Option.bind_eq_some_iff.mp h
        refine gg_lI (Or.inl ⟨rfl, rfl⟩) aMi304 rfl (lI_of (sh11_a69 ha0) hxj41_2) ?_
        refine go_ops aMi304 1 _ (f1 := (43, ([(0, .ref a0), (1, .int i1), (2, .int i2)], [.int (Int32.ofInt (-1)), .int (I (a0 + 38) j41_2), .int i1]))) rfl ?_
        refine gg_br (b := decide ((I (a0 + 38) j41_2) = (Int32.ofInt (-1)))) (tg := 69) (off := 26) aMi304 rfl rfl rfl rfl (fun hb => ?_) (fun hb => ?_)
        · rw [if_pos (of_decide_eq_true hb)] at h
          refine go_le (lv1 := [(0, .ref a0), (2, .int i2)]) (aLe_of (show (List.map (fun q => q.1) ([(0, .ref a0), (2, .int i2)] : ALv)).Nodup from (by show ([0, 2] : List Nat).Nodup; decide)) (aSubL_cons rfl (aSubL_cons rfl aSubL_nil))) ?_
          exact Tf304_b69 hd (fun p0 p1 p2 I => f304_b9 kad N Z F p0 p1 p2 I) (fun p0 q0 p1 p2 I r hh => ih p0 q0 p1 p2 I r hh) a0 ha0 i2 i1 I _ h
        · rw [if_neg (of_decide_eq_false hb)] at h
          refine go_ops aMi304 1 _ (f1 := (47, ([(0, .ref a0), (1, .int i1), (2, .int i2)], [.ref a0, .int i1]))) rfl ?_
          refine gg_gR (b := (a0 + 39)) aMi304 rfl rfl rfl (gR_of (sh11_z ha0) (sh11_r70 ha0)) ?_
          refine go_ops aMi304 1 _ (f1 := (51, ([(0, .ref a0), (1, .int i1), (2, .int i2)], [.int i2, .ref (a0 + 39), .int i1]))) rfl ?_
          obtain ⟨j51_3, hxj51_3, h⟩ := Option.bind_eq_some_iff.mp h
          refine gg_lI (Or.inr ⟨rfl, rfl⟩) aMi304 rfl (lI_of (sh11_a70 ha0) hxj51_3) ?_
          refine gg_br (b := decide ((I (a0 + 39) j51_3) = 0)) (tg := 69) (off := 17) aMi304 rfl rfl rfl rfl (fun hb => ?_) (fun hb => ?_)
          · rw [if_pos (of_decide_eq_true hb)] at h
            refine go_le (lv1 := [(0, .ref a0), (2, .int i2)]) (aLe_of (show (List.map (fun q => q.1) ([(0, .ref a0), (2, .int i2)] : ALv)).Nodup from (by show ([0, 2] : List Nat).Nodup; decide)) (aSubL_cons rfl (aSubL_cons rfl aSubL_nil))) ?_
            exact Tf304_b69 hd (fun p0 p1 p2 I => f304_b9 kad N Z F p0 p1 p2 I) (fun p0 q0 p1 p2 I r hh => ih p0 q0 p1 p2 I r hh) a0 ha0 i2 i1 I _ h
          · rw [if_neg (of_decide_eq_false hb)] at h
            refine go_ops aMi304 1 _ (f1 := (56, ([(0, .ref a0), (1, .int i1), (2, .int i2)], [.ref a0, .int i1]))) rfl ?_
            refine gg_gR (b := (a0 + 36)) aMi304 rfl rfl rfl (gR_of (sh11_z ha0) (sh11_r67 ha0)) ?_
            refine go_ops aMi304 1 _ (f1 := (60, ([(0, .ref a0), (1, .int i1), (2, .int i2)], [.int i2, .ref (a0 + 36), .int i1]))) rfl ?_
            obtain ⟨j60_4, hxj60_4, h⟩ := Option.bind_eq_some_iff.mp h
            refine gg_lI (Or.inl ⟨rfl, rfl⟩) aMi304 rfl (lI_of (sh11_a67 ha0) hxj60_4) ?_
            refine go_ops aMi304 6 _ (f1 := (70, ([(0, .ref a0), (1, .int i1), (2, .int i2)], [.int (-(((I (a0 + 36) j60_4) + (1 : Int32)) / (2 : Int32))), .int i1]))) rfl ?_
            refine go_le (lv1 := [(0, .ref a0), (2, .int i2)]) (aLe_of (show (List.map (fun q => q.1) ([(0, .ref a0), (2, .int i2)] : ALv)).Nodup from (by show ([0, 2] : List Nat).Nodup; decide)) (aSubL_cons rfl (aSubL_cons rfl aSubL_nil))) ?_
            exact Tf304_b70 hd (fun p0 p1 p2 I => f304_b9 kad N Z F p0 p1 p2 I) (fun p0 q0 p1 p2 I r hh => ih p0 q0 p1 p2 I r hh) a0 ha0 i2 (-(((I (a0 + 36) j60_4) + (1 : Int32)) / (2 : Int32))) i1 I _ h
      · rw [if_neg (of_decide_eq_false hb)] at h
        refine go_ops aMi304 1 _ (f1 := (28, ([(0, .ref a0), (1, .int i1), (2, .int i2)], [.ref a0, .int i1]))) rfl ?_
        refine gg_gR (b := (a0 + 36)) aMi304 rfl rfl rfl (gR_of (sh11_z ha0) (sh11_r67 ha0)) ?_
        refine go_ops aMi304 1 _ (f1 := (32, ([(0, .ref a0), (1, .int i1), (2, .int i2)], [.int i2, .ref (a0 + 36), .int i1]))) rfl ?_
        obtain ⟨j32_5, hxj32_5, h⟩ := Option.bind_eq_some_iff.mp h
        refine gg_lI (Or.inl ⟨rfl, rfl⟩) aMi304 rfl (lI_of (sh11_a67 ha0) hxj32_5) ?_
        refine go_ops aMi304 1 _ (f1 := (70, ([(0, .ref a0), (1, .int i1), (2, .int i2)], [.int (I (a0 + 36) j32_5), .int i1]))) rfl ?_
        refine go_le (lv1 := [(0, .ref a0), (2, .int i2)]) (aLe_of (show (List.map (fun q => q.1) ([(0, .ref a0), (2, .int i2)] : ALv)).Nodup from (by show ([0, 2] : List Nat).Nodup; decide)) (aSubL_cons rfl (aSubL_cons rfl aSubL_nil))) ?_
        exact Tf304_b70 hd (fun p0 p1 p2 I => f304_b9 kad N Z F p0 p1 p2 I) (fun p0 q0 p1 p2 I r hh => ih p0 q0 p1 p2 I r hh) a0 ha0 i2 (I (a0 + 36) j32_5) i1 I _ h
def f304 (kad : Nat → Nat) (N : Nat) (Z : AZ) (a0 : Nat) (I : AI) : Option (Int32 × AI) :=
  (wI I a0 0 (0 : Int32)).bind fun I2_1 =>
  f304_b9 kad N Z N a0 (0 : Int32) (0 : Int32) I2_1
set_option maxRecDepth 20000 in
theorem Tf304 {kad : Nat → Nat} {N : Nat} {Z : AZ} {d : Nat} {t : Option Nat × (Nat × Nat)} (hd : 0 ≤ d) : ∀ (a0 : Nat) (ha0 : sh11 kad Z a0) (I : AI) (r : Int32 × AI), f304 kad N Z a0 I = some r → aGo kad d 304 (0, ([(0, .ref a0)], [])) (aMem Z I, t) (qI Z t r) := by
  intro a0 ha0 I r h
  unfold f304 at h
  refine go_ops aMi304 2 _ (f1 := (2, ([(0, .ref a0)], [.int (0 : Int32), .ref a0]))) rfl ?_
  obtain ⟨I2_1, hxI2_1, h⟩ := Option.bind_eq_some_iff.mp h
  refine gg_pI aMi304 rfl rfl rfl rfl (by decide) (pI_of (sh11_z ha0) hxI2_1) ?_
  refine go_ops aMi304 4 _ (f1 := (9, ([(2, .int (0 : Int32)), (1, .int (0 : Int32)), (0, .ref a0)], []))) rfl ?_
  refine go_le (lv1 := [(0, .ref a0), (1, .int (0 : Int32)), (2, .int (0 : Int32))]) (aLe_of (show (List.map (fun q => q.1) ([(0, .ref a0), (1, .int (0 : Int32)), (2, .int (0 : Int32))] : ALv)).Nodup from (by show ([0, 1, 2] : List Nat).Nodup; decide)) (aSubL_cons rfl (aSubL_cons rfl (aSubL_cons rfl aSubL_nil)))) ?_
  exact Tf304_b9 hd N a0 ha0 (0 : Int32) (0 : Int32) I2_1 _ h
