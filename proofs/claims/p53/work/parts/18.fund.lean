-- KernelGym$Kept.begin (LKernelGym$Core;)V
def f67 (kad : Nat → Nat) (N : Nat) (Z : AZ) (a0 : Nat) (a1 : Nat) (I : AI) : Option (Unit × AI) :=
  (f38 kad N Z (a0 + 1) a1 I).bind fun r5_1 =>
  (wI r5_1.2 a0 1 (0 : Int32)).bind fun I10_2 =>
  (wI I10_2 a0 4 (Int32.ofInt (-1))).bind fun I15_3 =>
  some ((), I15_3)
set_option maxRecDepth 20000 in
theorem Tf67 {kad : Nat → Nat} {N : Nat} {Z : AZ} {d : Nat} {t : Option Nat × (Nat × Nat)} (hd : 2 ≤ d) : ∀ (a0 : Nat) (ha0 : sh5 kad Z a0) (a1 : Nat) (ha1 : sh2 kad Z a1) (I : AI) (r : Unit × AI), f67 kad N Z a0 a1 I = some r → aGo kad d 67 (0, ([(0, .ref a0), (1, .ref a1)], [])) (aMem Z I, t) (qV Z t r) := by
  intro a0 ha0 a1 ha1 I r h
  unfold f67 at h
  refine go_ops aMi67 1 _ (f1 := (1, ([(0, .ref a0), (1, .ref a1)], [.ref a0]))) rfl ?_
  refine gg_gR (b := (a0 + 1)) aMi67 rfl rfl rfl (gR_of (sh5_z ha0) (sh5_r0 ha0)) ?_
  refine go_ops aMi67 1 _ (f1 := (5, ([(0, .ref a0), (1, .ref a1)], [.ref a1, .ref (a0 + 1)]))) rfl ?_
  obtain ⟨r5_1, hxr5_1, h⟩ := Option.bind_eq_some_iff.mp h
  refine gg_cv (as := [.ref a1]) (r := []) aMi67 rfl rfl rfl aMi38 (Nat.le_of_ble_eq_true rfl) rfl (Nat.le_of_ble_eq_true rfl) (Nat.le_of_ble_eq_true rfl) (by omega) (isK_of (sh2_z (sh5_s0 ha0))) (Tf38 (by omega) (a0 + 1) (sh5_s0 ha0) a1 ha1 I _ hxr5_1) ?_
  show aGo kad d 67 (8, ([(0, .ref a0), (1, .ref a1)], [])) (aMem Z r5_1.2, t) _
  refine go_ops aMi67 2 _ (f1 := (10, ([(0, .ref a0), (1, .ref a1)], [.int (0 : Int32), .ref a0]))) rfl ?_
  obtain ⟨I10_2, hxI10_2, h⟩ := Option.bind_eq_some_iff.mp h
  refine gg_pI aMi67 rfl rfl rfl rfl (by decide) (pI_of (sh5_z ha0) hxI10_2) ?_
  refine go_ops aMi67 2 _ (f1 := (15, ([(0, .ref a0), (1, .ref a1)], [.int (Int32.ofInt (-1)), .ref a0]))) rfl ?_
  obtain ⟨I15_3, hxI15_3, h⟩ := Option.bind_eq_some_iff.mp h
  refine gg_pI aMi67 rfl rfl rfl rfl (by decide) (pI_of (sh5_z ha0) hxI15_3) ?_
  cases h
  exact go_ret aMi67 rfl rfl ⟨rfl, rfl⟩
-- KernelGym$Kept.noteWord (II)V
def f68_b45 (kad : Nat → Nat) (N : Nat) (Z : AZ) (a0 : Nat) (I : AI) : Option (Unit × AI) :=
  some ((), I)
set_option maxRecDepth 20000 in
theorem Tf68_b45 {kad : Nat → Nat} {N : Nat} {Z : AZ} {d : Nat} {t : Option Nat × (Nat × Nat)} (hd : 0 ≤ d) : ∀ (a0 : Nat) (ha0 : sh5 kad Z a0) (I : AI) (r : Unit × AI), f68_b45 kad N Z a0 I = some r → aGo kad d 68 (45, ([], [])) (aMem Z I, t) (qV Z t r) := by
  intro a0 ha0 I r h
  unfold f68_b45 at h
  cases h
  exact go_ret aMi68 rfl rfl ⟨rfl, rfl⟩
def f68 (kad : Nat → Nat) (N : Nat) (Z : AZ) (a0 : Nat) (i1 : Int32) (i2 : Int32) (I : AI) : Option (Unit × AI) :=
  if (I a0 1) < 0 then
    f68_b45 kad N Z a0 I
  else
    if (2 : Int32) ≤ (I a0 1) then
      f68_b45 kad N Z a0 I
    else
      (ixA 2 (I a0 1)).bind fun j24_2 =>
      (wI I (a0 + 6) j24_2 i1).bind fun I24_1 =>
      (ixA 2 (I24_1 a0 1)).bind fun j34_4 =>
      (wI I24_1 (a0 + 7) j34_4 i2).bind fun I34_3 =>
      (wI I34_3 a0 1 ((I34_3 a0 1) + (1 : Int32))).bind fun I42_5 =>
      f68_b45 kad N Z a0 I42_5
set_option maxRecDepth 20000 in
theorem Tf68 {kad : Nat → Nat} {N : Nat} {Z : AZ} {d : Nat} {t : Option Nat × (Nat × Nat)} (hd : 0 ≤ d) : ∀ (a0 : Nat) (ha0 : sh5 kad Z a0) (i1 : Int32) (i2 : Int32) (I : AI) (r : Unit × AI), f68 kad N Z a0 i1 i2 I = some r → aGo kad d 68 (0, ([(0, .ref a0), (1, .int i1), (2, .int i2)], [])) (aMem Z I, t) (qV Z t r) := by
  intro a0 ha0 i1 i2 I r h
  unfold f68 at h
  refine go_ops aMi68 1 _ (f1 := (1, ([(0, .ref a0), (1, .int i1), (2, .int i2)], [.ref a0]))) rfl ?_
  refine gg_gI aMi68 rfl rfl rfl (gI_of (sh5_z ha0)) ?_
  refine gg_br (b := decide ((I a0 1) < 0)) (tg := 45) (off := 41) aMi68 rfl rfl rfl rfl (fun hb => ?_) (fun hb => ?_)
  · rw [if_pos (of_decide_eq_true hb)] at h
    refine go_le (lv1 := []) (aLe_of (show (List.map (fun q => q.1) ([] : ALv)).Nodup from (by show ([] : List Nat).Nodup; decide)) aSubL_nil) ?_
    exact Tf68_b45 hd a0 ha0 I _ h
  · rw [if_neg (of_decide_eq_false hb)] at h
    refine go_ops aMi68 1 _ (f1 := (8, ([(0, .ref a0), (1, .int i1), (2, .int i2)], [.ref a0]))) rfl ?_
    refine gg_gI aMi68 rfl rfl rfl (gI_of (sh5_z ha0)) ?_
    refine go_ops aMi68 1 _ (f1 := (12, ([(0, .ref a0), (1, .int i1), (2, .int i2)], [.int (2 : Int32), .int (I a0 1)]))) rfl ?_
    refine gg_br (b := decide ((2 : Int32) ≤ (I a0 1))) (tg := 45) (off := 33) aMi68 rfl rfl rfl rfl (fun hb => ?_) (fun hb => ?_)
    · rw [if_pos (of_decide_eq_true hb)] at h
      refine go_le (lv1 := []) (aLe_of (show (List.map (fun q => q.1) ([] : ALv)).Nodup from (by show ([] : List Nat).Nodup; decide)) aSubL_nil) ?_
      exact Tf68_b45 hd a0 ha0 I _ h
    · rw [if_neg (of_decide_eq_false hb)] at h
      refine go_ops aMi68 1 _ (f1 := (16, ([(0, .ref a0), (1, .int i1), (2, .int i2)], [.ref a0]))) rfl ?_
      refine gg_gR (b := (a0 + 6)) aMi68 rfl rfl rfl (gR_of (sh5_z ha0) (sh5_r2 ha0)) ?_
      refine go_ops aMi68 1 _ (f1 := (20, ([(0, .ref a0), (1, .int i1), (2, .int i2)], [.ref a0, .ref (a0 + 6)]))) rfl ?_
      refine gg_gI aMi68 rfl rfl rfl (gI_of (sh5_z ha0)) ?_
      refine go_ops aMi68 1 _ (f1 := (24, ([(0, .ref a0), (1, .int i1), (2, .int i2)], [.int i1, .int (I a0 1), .ref (a0 + 6)]))) rfl ?_
      obtain ⟨j24_2, hxj24_2, h⟩ := Option.bind_eq_some_iff.mp h
      obtain ⟨I24_1, hxI24_1, h⟩ := Option.bind_eq_some_iff.mp h
      refine gg_sI (Or.inl ⟨rfl, rfl⟩) aMi68 rfl (sI_of (sh5_a2 ha0) hxj24_2 hxI24_1) ?_
      refine go_ops aMi68 1 _ (f1 := (26, ([(0, .ref a0), (1, .int i1), (2, .int i2)], [.ref a0]))) rfl ?_
      refine gg_gR (b := (a0 + 7)) aMi68 rfl rfl rfl (gR_of (sh5_z ha0) (sh5_r3 ha0)) ?_
      refine go_ops aMi68 1 _ (f1 := (30, ([(0, .ref a0), (1, .int i1), (2, .int i2)], [.ref a0, .ref (a0 + 7)]))) rfl ?_
      refine gg_gI aMi68 rfl rfl rfl (gI_of (sh5_z ha0)) ?_
      refine go_ops aMi68 1 _ (f1 := (34, ([(0, .ref a0), (1, .int i1), (2, .int i2)], [.int i2, .int (I24_1 a0 1), .ref (a0 + 7)]))) rfl ?_
      obtain ⟨j34_4, hxj34_4, h⟩ := Option.bind_eq_some_iff.mp h
      obtain ⟨I34_3, hxI34_3, h⟩ := Option.bind_eq_some_iff.mp h
      refine gg_sI (Or.inl ⟨rfl, rfl⟩) aMi68 rfl (sI_of (sh5_a3 ha0) hxj34_4 hxI34_3) ?_
      refine go_ops aMi68 2 _ (f1 := (37, ([(0, .ref a0), (1, .int i1), (2, .int i2)], [.ref a0, .ref a0]))) rfl ?_
      refine gg_gI aMi68 rfl rfl rfl (gI_of (sh5_z ha0)) ?_
      refine go_ops aMi68 2 _ (f1 := (42, ([(0, .ref a0), (1, .int i1), (2, .int i2)], [.int ((I34_3 a0 1) + (1 : Int32)), .ref a0]))) rfl ?_
      obtain ⟨I42_5, hxI42_5, h⟩ := Option.bind_eq_some_iff.mp h
      refine gg_pI aMi68 rfl rfl rfl rfl (by decide) (pI_of (sh5_z ha0) hxI42_5) ?_
      refine go_le (lv1 := []) (aLe_of (show (List.map (fun q => q.1) ([] : ALv)).Nodup from (by show ([] : List Nat).Nodup; decide)) aSubL_nil) ?_
      exact Tf68_b45 hd a0 ha0 I42_5 _ h
-- KernelGym$Kept.noteBlock (ILKernelGym$Disk;)V
def f69_b7 (kad : Nat → Nat) (N : Nat) (Z : AZ) : Nat → Nat → Nat → Int32 → Int32 → AI → Option (Unit × AI)
  | 0, _, _, _, _, _ => none
  | F + 1, a0, a2, i1, i3, I =>
    if (8 : Int32) ≤ i3 then
      some ((), I)
    else
      (f43 kad N Z a2 i1 i3 I).bind fun r21_1 =>
      (ixA 8 i3).bind fun j24_3 =>
      (wI r21_1.2 (a0 + 8) j24_3 r21_1.1).bind fun I24_2 =>
      f69_b7 kad N Z F a0 a2 i1 (i3 + (1 : Int32)) I24_2
set_option maxRecDepth 20000 in
theorem Tf69_b7 {kad : Nat → Nat} {N : Nat} {Z : AZ} {d : Nat} {t : Option Nat × (Nat × Nat)} (hd : 1 ≤ d) : ∀ (F : Nat) (a0 : Nat) (ha0 : sh5 kad Z a0) (a2 : Nat) (ha2 : sh3 kad Z a2) (i1 : Int32) (i3 : Int32) (I : AI) (r : Unit × AI), f69_b7 kad N Z F a0 a2 i1 i3 I = some r → aGo kad d 69 (7, ([(0, .ref a0), (1, .int i1), (2, .ref a2), (3, .int i3)], [])) (aMem Z I, t) (qV Z t r) := by
  intro F
  induction F with
  | zero => intro a0 ha0 a2 ha2 i1 i3 I r h; cases h
  | succ F ih =>
    intro a0 ha0 a2 ha2 i1 i3 I r h
    unfold f69_b7 at h
    refine go_ops aMi69 2 _ (f1 := (10, ([(0, .ref a0), (1, .int i1), (2, .ref a2), (3, .int i3)], [.int (8 : Int32), .int i3]))) rfl ?_
    refine gg_br (b := decide ((8 : Int32) ≤ i3)) (tg := 31) (off := 21) aMi69 rfl rfl rfl rfl (fun hb => ?_) (fun hb => ?_)
    · rw [if_pos (of_decide_eq_true hb)] at h
      cases h
      exact go_ret aMi69 rfl rfl ⟨rfl, rfl⟩
    · rw [if_neg (of_decide_eq_false hb)] at h
      refine go_ops aMi69 1 _ (f1 := (14, ([(0, .ref a0), (1, .int i1), (2, .ref a2), (3, .int i3)], [.ref a0]))) rfl ?_
      refine gg_gR (b := (a0 + 8)) aMi69 rfl rfl rfl (gR_of (sh5_z ha0) (sh5_r5 ha0)) ?_
      refine go_ops aMi69 4 _ (f1 := (21, ([(0, .ref a0), (1, .int i1), (2, .ref a2), (3, .int i3)], [.int i3, .int i1, .ref a2, .int i3, .ref (a0 + 8)]))) rfl ?_
      obtain ⟨r21_1, hxr21_1, h⟩ := Option.bind_eq_some_iff.mp h
      refine gg_cv (as := [.int i1, .int i3]) (r := [.int i3, .ref (a0 + 8)]) aMi69 rfl rfl rfl aMi43 (Nat.le_of_ble_eq_true rfl) rfl (Nat.le_of_ble_eq_true rfl) (Nat.le_of_ble_eq_true rfl) (by omega) (isK_of (sh3_z ha2)) (Tf43 (by omega) a2 ha2 i1 i3 I _ hxr21_1) ?_
      show aGo kad d 69 (24, ([(0, .ref a0), (1, .int i1), (2, .ref a2), (3, .int i3)], [.int r21_1.1, .int i3, .ref (a0 + 8)])) (aMem Z r21_1.2, t) _
      obtain ⟨j24_3, hxj24_3, h⟩ := Option.bind_eq_some_iff.mp h
      obtain ⟨I24_2, hxI24_2, h⟩ := Option.bind_eq_some_iff.mp h
      refine gg_sI (Or.inl ⟨rfl, rfl⟩) aMi69 rfl (sI_of (sh5_a5 ha0) hxj24_3 hxI24_2) ?_
      refine go_ops aMi69 2 _ (f1 := (7, ([(3, .int (i3 + (1 : Int32))), (0, .ref a0), (1, .int i1), (2, .ref a2)], []))) rfl ?_
      refine go_le (lv1 := [(0, .ref a0), (1, .int i1), (2, .ref a2), (3, .int (i3 + (1 : Int32)))]) (aLe_of (show (List.map (fun q => q.1) ([(0, .ref a0), (1, .int i1), (2, .ref a2), (3, .int (i3 + (1 : Int32)))] : ALv)).Nodup from (by show ([0, 1, 2, 3] : List Nat).Nodup; decide)) (aSubL_cons rfl (aSubL_cons rfl (aSubL_cons rfl (aSubL_cons rfl aSubL_nil))))) ?_
      exact ih a0 ha0 a2 ha2 i1 (i3 + (1 : Int32)) I24_2 _ h
def f69 (kad : Nat → Nat) (N : Nat) (Z : AZ) (a0 : Nat) (i1 : Int32) (a2 : Nat) (I : AI) : Option (Unit × AI) :=
  (wI I a0 4 i1).bind fun I2_1 =>
  f69_b7 kad N Z N a0 a2 i1 (0 : Int32) I2_1
set_option maxRecDepth 20000 in
theorem Tf69 {kad : Nat → Nat} {N : Nat} {Z : AZ} {d : Nat} {t : Option Nat × (Nat × Nat)} (hd : 1 ≤ d) : ∀ (a0 : Nat) (ha0 : sh5 kad Z a0) (i1 : Int32) (a2 : Nat) (ha2 : sh3 kad Z a2) (I : AI) (r : Unit × AI), f69 kad N Z a0 i1 a2 I = some r → aGo kad d 69 (0, ([(0, .ref a0), (1, .int i1), (2, .ref a2)], [])) (aMem Z I, t) (qV Z t r) := by
  intro a0 ha0 i1 a2 ha2 I r h
  unfold f69 at h
  refine go_ops aMi69 2 _ (f1 := (2, ([(0, .ref a0), (1, .int i1), (2, .ref a2)], [.int i1, .ref a0]))) rfl ?_
  obtain ⟨I2_1, hxI2_1, h⟩ := Option.bind_eq_some_iff.mp h
  refine gg_pI aMi69 rfl rfl rfl rfl (by decide) (pI_of (sh5_z ha0) hxI2_1) ?_
  refine go_ops aMi69 2 _ (f1 := (7, ([(3, .int (0 : Int32)), (0, .ref a0), (1, .int i1), (2, .ref a2)], []))) rfl ?_
  refine go_le (lv1 := [(0, .ref a0), (1, .int i1), (2, .ref a2), (3, .int (0 : Int32))]) (aLe_of (show (List.map (fun q => q.1) ([(0, .ref a0), (1, .int i1), (2, .ref a2), (3, .int (0 : Int32))] : ALv)).Nodup from (by show ([0, 1, 2, 3] : List Nat).Nodup; decide)) (aSubL_cons rfl (aSubL_cons rfl (aSubL_cons rfl (aSubL_cons rfl aSubL_nil))))) ?_
  exact Tf69_b7 hd N a0 ha0 a2 ha2 i1 (0 : Int32) I2_1 _ h
-- KernelGym$Kept.hasWritten (I)Z
def f70_b33 (kad : Nat → Nat) (N : Nat) (Z : AZ) (a0 : Nat) (I : AI) : Option (Int32 × AI) :=
  some ((0 : Int32), I)
set_option maxRecDepth 20000 in
theorem Tf70_b33 {kad : Nat → Nat} {N : Nat} {Z : AZ} {d : Nat} {t : Option Nat × (Nat × Nat)} (hd : 0 ≤ d) : ∀ (a0 : Nat) (ha0 : sh5 kad Z a0) (I : AI) (r : Int32 × AI), f70_b33 kad N Z a0 I = some r → aGo kad d 70 (33, ([], [])) (aMem Z I, t) (qI Z t r) := by
  intro a0 ha0 I r h
  unfold f70_b33 at h
  refine go_ops aMi70 1 _ (f1 := (34, ([], [.int (0 : Int32)]))) rfl ?_
  cases h
  exact go_ret aMi70 rfl (aRetZ (Or.inl rfl)) ⟨rfl, rfl⟩
def f70_b2 (kad : Nat → Nat) (N : Nat) (Z : AZ) : Nat → Nat → Int32 → Int32 → AI → Option (Int32 × AI)
  | 0, _, _, _, _ => none
  | F + 1, a0, i1, i2, I =>
    if (I a0 1) ≤ i2 then
      f70_b33 kad N Z a0 I
    else
      if (2 : Int32) ≤ i2 then
        f70_b33 kad N Z a0 I
      else
        (ixA 2 i2).bind fun j20_1 =>
        if ¬ (I (a0 + 6) j20_1) = i1 then
          f70_b2 kad N Z F a0 i1 (i2 + (1 : Int32)) I
        else
          some ((1 : Int32), I)
set_option maxRecDepth 20000 in
theorem Tf70_b2 {kad : Nat → Nat} {N : Nat} {Z : AZ} {d : Nat} {t : Option Nat × (Nat × Nat)} (hd : 0 ≤ d) : ∀ (F : Nat) (a0 : Nat) (ha0 : sh5 kad Z a0) (i1 : Int32) (i2 : Int32) (I : AI) (r : Int32 × AI), f70_b2 kad N Z F a0 i1 i2 I = some r → aGo kad d 70 (2, ([(0, .ref a0), (1, .int i1), (2, .int i2)], [])) (aMem Z I, t) (qI Z t r) := by
  intro F
  induction F with
  | zero => intro a0 ha0 i1 i2 I r h; cases h
  | succ F ih =>
    intro a0 ha0 i1 i2 I r h
    unfold f70_b2 at h
    refine go_ops aMi70 2 _ (f1 := (4, ([(0, .ref a0), (1, .int i1), (2, .int i2)], [.ref a0, .int i2]))) rfl ?_
    refine gg_gI aMi70 rfl rfl rfl (gI_of (sh5_z ha0)) ?_
    refine gg_br (b := decide ((I a0 1) ≤ i2)) (tg := 33) (off := 26) aMi70 rfl rfl rfl rfl (fun hb => ?_) (fun hb => ?_)
    · rw [if_pos (of_decide_eq_true hb)] at h
      refine go_le (lv1 := []) (aLe_of (show (List.map (fun q => q.1) ([] : ALv)).Nodup from (by show ([] : List Nat).Nodup; decide)) aSubL_nil) ?_
      exact Tf70_b33 hd a0 ha0 I _ h
    · rw [if_neg (of_decide_eq_false hb)] at h
      refine go_ops aMi70 2 _ (f1 := (12, ([(0, .ref a0), (1, .int i1), (2, .int i2)], [.int (2 : Int32), .int i2]))) rfl ?_
      refine gg_br (b := decide ((2 : Int32) ≤ i2)) (tg := 33) (off := 21) aMi70 rfl rfl rfl rfl (fun hb => ?_) (fun hb => ?_)
      · rw [if_pos (of_decide_eq_true hb)] at h
        refine go_le (lv1 := []) (aLe_of (show (List.map (fun q => q.1) ([] : ALv)).Nodup from (by show ([] : List Nat).Nodup; decide)) aSubL_nil) ?_
        exact Tf70_b33 hd a0 ha0 I _ h
      · rw [if_neg (of_decide_eq_false hb)] at h
        refine go_ops aMi70 1 _ (f1 := (16, ([(0, .ref a0), (1, .int i1), (2, .int i2)], [.ref a0]))) rfl ?_
        refine gg_gR (b := (a0 + 6)) aMi70 rfl rfl rfl (gR_of (sh5_z ha0) (sh5_r2 ha0)) ?_
        refine go_ops aMi70 1 _ (f1 := (20, ([(0, .ref a0), (1, .int i1), (2, .int i2)], [.int i2, .ref (a0 + 6)]))) rfl ?_
        obtain ⟨j20_1, hxj20_1, h⟩ := Option.bind_eq_some_iff.mp h
        refine gg_lI (Or.inl ⟨rfl, rfl⟩) aMi70 rfl (lI_of (sh5_a2 ha0) hxj20_1) ?_
        refine go_ops aMi70 1 _ (f1 := (22, ([(0, .ref a0), (1, .int i1), (2, .int i2)], [.int i1, .int (I (a0 + 6) j20_1)]))) rfl ?_
        refine gg_br (b := decide (¬ (I (a0 + 6) j20_1) = i1)) (tg := 27) (off := 5) aMi70 rfl rfl rfl rfl (fun hb => ?_) (fun hb => ?_)
        · rw [if_pos (of_decide_eq_true hb)] at h
          refine go_ops aMi70 2 _ (f1 := (2, ([(2, .int (i2 + (1 : Int32))), (0, .ref a0), (1, .int i1)], []))) rfl ?_
          refine go_le (lv1 := [(0, .ref a0), (1, .int i1), (2, .int (i2 + (1 : Int32)))]) (aLe_of (show (List.map (fun q => q.1) ([(0, .ref a0), (1, .int i1), (2, .int (i2 + (1 : Int32)))] : ALv)).Nodup from (by show ([0, 1, 2] : List Nat).Nodup; decide)) (aSubL_cons rfl (aSubL_cons rfl (aSubL_cons rfl aSubL_nil)))) ?_
          exact ih a0 ha0 i1 (i2 + (1 : Int32)) I _ h
        · rw [if_neg (of_decide_eq_false hb)] at h
          refine go_ops aMi70 1 _ (f1 := (26, ([(0, .ref a0), (1, .int i1), (2, .int i2)], [.int (1 : Int32)]))) rfl ?_
          cases h
          exact go_ret aMi70 rfl (aRetZ (Or.inr rfl)) ⟨rfl, rfl⟩
def f70 (kad : Nat → Nat) (N : Nat) (Z : AZ) (a0 : Nat) (i1 : Int32) (I : AI) : Option (Int32 × AI) :=
  f70_b2 kad N Z N a0 i1 (0 : Int32) I
set_option maxRecDepth 20000 in
theorem Tf70 {kad : Nat → Nat} {N : Nat} {Z : AZ} {d : Nat} {t : Option Nat × (Nat × Nat)} (hd : 0 ≤ d) : ∀ (a0 : Nat) (ha0 : sh5 kad Z a0) (i1 : Int32) (I : AI) (r : Int32 × AI), f70 kad N Z a0 i1 I = some r → aGo kad d 70 (0, ([(0, .ref a0), (1, .int i1)], [])) (aMem Z I, t) (qI Z t r) := by
  intro a0 ha0 i1 I r h
  unfold f70 at h
  refine go_ops aMi70 2 _ (f1 := (2, ([(2, .int (0 : Int32)), (0, .ref a0), (1, .int i1)], []))) rfl ?_
  refine go_le (lv1 := [(0, .ref a0), (1, .int i1), (2, .int (0 : Int32))]) (aLe_of (show (List.map (fun q => q.1) ([(0, .ref a0), (1, .int i1), (2, .int (0 : Int32))] : ALv)).Nodup from (by show ([0, 1, 2] : List Nat).Nodup; decide)) (aSubL_cons rfl (aSubL_cons rfl (aSubL_cons rfl aSubL_nil)))) ?_
  exact Tf70_b2 hd N a0 ha0 i1 (0 : Int32) I _ h
-- KernelGym$Keys.forget ()V
def f72 (kad : Nat → Nat) (N : Nat) (Z : AZ) (a0 : Nat) (I : AI) : Option (Unit × AI) :=
  (wI I a0 0 (0 : Int32)).bind fun I2_1 =>
  some ((), I2_1)
set_option maxRecDepth 20000 in
theorem Tf72 {kad : Nat → Nat} {N : Nat} {Z : AZ} {d : Nat} {t : Option Nat × (Nat × Nat)} (hd : 0 ≤ d) : ∀ (a0 : Nat) (ha0 : sh6 kad Z a0) (I : AI) (r : Unit × AI), f72 kad N Z a0 I = some r → aGo kad d 72 (0, ([(0, .ref a0)], [])) (aMem Z I, t) (qV Z t r) := by
  intro a0 ha0 I r h
  unfold f72 at h
  refine go_ops aMi72 2 _ (f1 := (2, ([(0, .ref a0)], [.int (0 : Int32), .ref a0]))) rfl ?_
  obtain ⟨I2_1, hxI2_1, h⟩ := Option.bind_eq_some_iff.mp h
  refine gg_pI aMi72 rfl rfl rfl rfl (by decide) (pI_of (sh6_z ha0) hxI2_1) ?_
  cases h
  exact go_ret aMi72 rfl rfl ⟨rfl, rfl⟩
-- KernelGym$Keys.copyFrom (LKernelGym$Keys;)V
def f73 (kad : Nat → Nat) (N : Nat) (Z : AZ) (a0 : Nat) (a1 : Nat) (I : AI) : Option (Unit × AI) :=
  (wI I a0 0 (I a1 0)).bind fun I5_1 =>
  (cA I5_1 (a1 + 1) 20 (0 : Int32) (a0 + 1) 20 (0 : Int32) (20 : Int32)).bind fun I20_2 =>
  (cA I20_2 (a1 + 2) 20 (0 : Int32) (a0 + 2) 20 (0 : Int32) (20 : Int32)).bind fun I35_3 =>
  some ((), I35_3)
set_option maxRecDepth 20000 in
theorem Tf73 {kad : Nat → Nat} {N : Nat} {Z : AZ} {d : Nat} {t : Option Nat × (Nat × Nat)} (hd : 0 ≤ d) : ∀ (a0 : Nat) (ha0 : sh6 kad Z a0) (a1 : Nat) (ha1 : sh6 kad Z a1) (I : AI) (r : Unit × AI), f73 kad N Z a0 a1 I = some r → aGo kad d 73 (0, ([(0, .ref a0), (1, .ref a1)], [])) (aMem Z I, t) (qV Z t r) := by
  intro a0 ha0 a1 ha1 I r h
  unfold f73 at h
  refine go_ops aMi73 2 _ (f1 := (2, ([(0, .ref a0), (1, .ref a1)], [.ref a1, .ref a0]))) rfl ?_
  refine gg_gI aMi73 rfl rfl rfl (gI_of (sh6_z ha1)) ?_
  obtain ⟨I5_1, hxI5_1, h⟩ := Option.bind_eq_some_iff.mp h
  refine gg_pI aMi73 rfl rfl rfl rfl (by decide) (pI_of (sh6_z ha0) hxI5_1) ?_
  refine go_ops aMi73 1 _ (f1 := (9, ([(0, .ref a0), (1, .ref a1)], [.ref a1]))) rfl ?_
  refine gg_gR (b := (a1 + 1)) aMi73 rfl rfl rfl (gR_of (sh6_z ha1) (sh6_r1 ha1)) ?_
  refine go_ops aMi73 2 _ (f1 := (14, ([(0, .ref a0), (1, .ref a1)], [.ref a0, .int (0 : Int32), .ref (a1 + 1)]))) rfl ?_
  refine gg_gR (b := (a0 + 1)) aMi73 rfl rfl rfl (gR_of (sh6_z ha0) (sh6_r1 ha0)) ?_
  refine go_ops aMi73 2 _ (f1 := (20, ([(0, .ref a0), (1, .ref a1)], [.int (20 : Int32), .int (0 : Int32), .ref (a0 + 1), .int (0 : Int32), .ref (a1 + 1)]))) rfl ?_
  obtain ⟨I20_2, hxI20_2, h⟩ := Option.bind_eq_some_iff.mp h
  refine gg_cp aMi73 rfl rfl (Nat.le_of_ble_eq_true rfl) (cI_of (sh6_a1 ha1) (sh6_a1 ha0) hxI20_2) ?_
  refine go_ops aMi73 1 _ (f1 := (24, ([(0, .ref a0), (1, .ref a1)], [.ref a1]))) rfl ?_
  refine gg_gR (b := (a1 + 2)) aMi73 rfl rfl rfl (gR_of (sh6_z ha1) (sh6_r2 ha1)) ?_
  refine go_ops aMi73 2 _ (f1 := (29, ([(0, .ref a0), (1, .ref a1)], [.ref a0, .int (0 : Int32), .ref (a1 + 2)]))) rfl ?_
  refine gg_gR (b := (a0 + 2)) aMi73 rfl rfl rfl (gR_of (sh6_z ha0) (sh6_r2 ha0)) ?_
  refine go_ops aMi73 2 _ (f1 := (35, ([(0, .ref a0), (1, .ref a1)], [.int (20 : Int32), .int (0 : Int32), .ref (a0 + 2), .int (0 : Int32), .ref (a1 + 2)]))) rfl ?_
  obtain ⟨I35_3, hxI35_3, h⟩ := Option.bind_eq_some_iff.mp h
  refine gg_cp aMi73 rfl rfl (Nat.le_of_ble_eq_true rfl) (cI_of (sh6_a2 ha1) (sh6_a2 ha0) hxI35_3) ?_
  cases h
  exact go_ret aMi73 rfl rfl ⟨rfl, rfl⟩
-- KernelGym$Keys.countCome (I)I
def f75_b32 (kad : Nat → Nat) (N : Nat) (Z : AZ) (a0 : Nat) (i2 : Int32) (I : AI) : Option (Int32 × AI) :=
  some (i2, I)
set_option maxRecDepth 20000 in
theorem Tf75_b32 {kad : Nat → Nat} {N : Nat} {Z : AZ} {d : Nat} {t : Option Nat × (Nat × Nat)} (hd : 0 ≤ d) : ∀ (a0 : Nat) (ha0 : sh6 kad Z a0) (i2 : Int32) (I : AI) (r : Int32 × AI), f75_b32 kad N Z a0 i2 I = some r → aGo kad d 75 (32, ([(2, .int i2)], [])) (aMem Z I, t) (qI Z t r) := by
  intro a0 ha0 i2 I r h
  unfold f75_b32 at h
  refine go_ops aMi75 1 _ (f1 := (33, ([(2, .int i2)], [.int i2]))) rfl ?_
  cases h
  exact go_ret aMi75 rfl aRetI ⟨rfl, rfl⟩
def f75_b2 (kad : Nat → Nat) (N : Nat) (Z : AZ) : Nat → Nat → Int32 → Int32 → AI → Option (Int32 × AI)
  | 0, _, _, _, _ => none
  | F + 1, a0, i1, i2, I =>
    if (I a0 0) ≤ i2 then
      f75_b32 kad N Z a0 i2 I
    else
      if (20 : Int32) ≤ i2 then
        f75_b32 kad N Z a0 i2 I
      else
        (ixA 20 i2).bind fun j21_1 =>
        if i1 < (I (a0 + 2) j21_1) then
          f75_b32 kad N Z a0 i2 I
        else
          f75_b2 kad N Z F a0 i1 (i2 + (1 : Int32)) I
set_option maxRecDepth 20000 in
theorem Tf75_b2 {kad : Nat → Nat} {N : Nat} {Z : AZ} {d : Nat} {t : Option Nat × (Nat × Nat)} (hd : 0 ≤ d) : ∀ (F : Nat) (a0 : Nat) (ha0 : sh6 kad Z a0) (i1 : Int32) (i2 : Int32) (I : AI) (r : Int32 × AI), f75_b2 kad N Z F a0 i1 i2 I = some r → aGo kad d 75 (2, ([(0, .ref a0), (1, .int i1), (2, .int i2)], [])) (aMem Z I, t) (qI Z t r) := by
  intro F
  induction F with
  | zero => intro a0 ha0 i1 i2 I r h; cases h
  | succ F ih =>
    intro a0 ha0 i1 i2 I r h
    unfold f75_b2 at h
    refine go_ops aMi75 2 _ (f1 := (4, ([(0, .ref a0), (1, .int i1), (2, .int i2)], [.ref a0, .int i2]))) rfl ?_
    refine gg_gI aMi75 rfl rfl rfl (gI_of (sh6_z ha0)) ?_
    refine gg_br (b := decide ((I a0 0) ≤ i2)) (tg := 32) (off := 25) aMi75 rfl rfl rfl rfl (fun hb => ?_) (fun hb => ?_)
    · rw [if_pos (of_decide_eq_true hb)] at h
      refine go_le (lv1 := [(2, .int i2)]) (aLe_of (show (List.map (fun q => q.1) ([(2, .int i2)] : ALv)).Nodup from (by show ([2] : List Nat).Nodup; decide)) (aSubL_cons rfl aSubL_nil)) ?_
      exact Tf75_b32 hd a0 ha0 i2 I _ h
    · rw [if_neg (of_decide_eq_false hb)] at h
      refine go_ops aMi75 2 _ (f1 := (13, ([(0, .ref a0), (1, .int i1), (2, .int i2)], [.int (20 : Int32), .int i2]))) rfl ?_
      refine gg_br (b := decide ((20 : Int32) ≤ i2)) (tg := 32) (off := 19) aMi75 rfl rfl rfl rfl (fun hb => ?_) (fun hb => ?_)
      · rw [if_pos (of_decide_eq_true hb)] at h
        refine go_le (lv1 := [(2, .int i2)]) (aLe_of (show (List.map (fun q => q.1) ([(2, .int i2)] : ALv)).Nodup from (by show ([2] : List Nat).Nodup; decide)) (aSubL_cons rfl aSubL_nil)) ?_
        exact Tf75_b32 hd a0 ha0 i2 I _ h
      · rw [if_neg (of_decide_eq_false hb)] at h
        refine go_ops aMi75 1 _ (f1 := (17, ([(0, .ref a0), (1, .int i1), (2, .int i2)], [.ref a0]))) rfl ?_
        refine gg_gR (b := (a0 + 2)) aMi75 rfl rfl rfl (gR_of (sh6_z ha0) (sh6_r2 ha0)) ?_
        refine go_ops aMi75 1 _ (f1 := (21, ([(0, .ref a0), (1, .int i1), (2, .int i2)], [.int i2, .ref (a0 + 2)]))) rfl ?_
        obtain ⟨j21_1, hxj21_1, h⟩ := Option.bind_eq_some_iff.mp h
        refine gg_lI (Or.inl ⟨rfl, rfl⟩) aMi75 rfl (lI_of (sh6_a2 ha0) hxj21_1) ?_
        refine go_ops aMi75 1 _ (f1 := (23, ([(0, .ref a0), (1, .int i1), (2, .int i2)], [.int i1, .int (I (a0 + 2) j21_1)]))) rfl ?_
        refine gg_br (b := decide (i1 < (I (a0 + 2) j21_1))) (tg := 32) (off := 9) aMi75 rfl rfl rfl rfl (fun hb => ?_) (fun hb => ?_)
        · rw [if_pos (of_decide_eq_true hb)] at h
          refine go_le (lv1 := [(2, .int i2)]) (aLe_of (show (List.map (fun q => q.1) ([(2, .int i2)] : ALv)).Nodup from (by show ([2] : List Nat).Nodup; decide)) (aSubL_cons rfl aSubL_nil)) ?_
          exact Tf75_b32 hd a0 ha0 i2 I _ h
        · rw [if_neg (of_decide_eq_false hb)] at h
          refine go_ops aMi75 2 _ (f1 := (2, ([(2, .int (i2 + (1 : Int32))), (0, .ref a0), (1, .int i1)], []))) rfl ?_
          refine go_le (lv1 := [(0, .ref a0), (1, .int i1), (2, .int (i2 + (1 : Int32)))]) (aLe_of (show (List.map (fun q => q.1) ([(0, .ref a0), (1, .int i1), (2, .int (i2 + (1 : Int32)))] : ALv)).Nodup from (by show ([0, 1, 2] : List Nat).Nodup; decide)) (aSubL_cons rfl (aSubL_cons rfl (aSubL_cons rfl aSubL_nil)))) ?_
          exact ih a0 ha0 i1 (i2 + (1 : Int32)) I _ h
def f75 (kad : Nat → Nat) (N : Nat) (Z : AZ) (a0 : Nat) (i1 : Int32) (I : AI) : Option (Int32 × AI) :=
  f75_b2 kad N Z N a0 i1 (0 : Int32) I
set_option maxRecDepth 20000 in
theorem Tf75 {kad : Nat → Nat} {N : Nat} {Z : AZ} {d : Nat} {t : Option Nat × (Nat × Nat)} (hd : 0 ≤ d) : ∀ (a0 : Nat) (ha0 : sh6 kad Z a0) (i1 : Int32) (I : AI) (r : Int32 × AI), f75 kad N Z a0 i1 I = some r → aGo kad d 75 (0, ([(0, .ref a0), (1, .int i1)], [])) (aMem Z I, t) (qI Z t r) := by
  intro a0 ha0 i1 I r h
  unfold f75 at h
  refine go_ops aMi75 2 _ (f1 := (2, ([(2, .int (0 : Int32)), (0, .ref a0), (1, .int i1)], []))) rfl ?_
  refine go_le (lv1 := [(0, .ref a0), (1, .int i1), (2, .int (0 : Int32))]) (aLe_of (show (List.map (fun q => q.1) ([(0, .ref a0), (1, .int i1), (2, .int (0 : Int32))] : ALv)).Nodup from (by show ([0, 1, 2] : List Nat).Nodup; decide)) (aSubL_cons rfl (aSubL_cons rfl (aSubL_cons rfl aSubL_nil)))) ?_
  exact Tf75_b2 hd N a0 ha0 i1 (0 : Int32) I _ h
-- KernelGym$Keys.tell (II)V
def f74_b97 (kad : Nat → Nat) (N : Nat) (Z : AZ) (a0 : Nat) (I : AI) : Option (Unit × AI) :=
  (wI I a0 0 ((I a0 0) + (1 : Int32))).bind fun I104_1 =>
  some ((), I104_1)
set_option maxRecDepth 20000 in
theorem Tf74_b97 {kad : Nat → Nat} {N : Nat} {Z : AZ} {d : Nat} {t : Option Nat × (Nat × Nat)} (hd : 1 ≤ d) : ∀ (a0 : Nat) (ha0 : sh6 kad Z a0) (I : AI) (r : Unit × AI), f74_b97 kad N Z a0 I = some r → aGo kad d 74 (97, ([(0, .ref a0)], [])) (aMem Z I, t) (qV Z t r) := by
  intro a0 ha0 I r h
  unfold f74_b97 at h
  refine go_ops aMi74 2 _ (f1 := (99, ([(0, .ref a0)], [.ref a0, .ref a0]))) rfl ?_
  refine gg_gI aMi74 rfl rfl rfl (gI_of (sh6_z ha0)) ?_
  refine go_ops aMi74 2 _ (f1 := (104, ([(0, .ref a0)], [.int ((I a0 0) + (1 : Int32)), .ref a0]))) rfl ?_
  obtain ⟨I104_1, hxI104_1, h⟩ := Option.bind_eq_some_iff.mp h
  refine gg_pI aMi74 rfl rfl rfl rfl (by decide) (pI_of (sh6_z ha0) hxI104_1) ?_
  cases h
  exact go_ret aMi74 rfl rfl ⟨rfl, rfl⟩
def f74_b73 (kad : Nat → Nat) (N : Nat) (Z : AZ) (a0 : Nat) (i1 : Int32) (i2 : Int32) (i3 : Int32) (I : AI) : Option (Unit × AI) :=
  if i3 < 0 then
    f74_b97 kad N Z a0 I
  else
    if (20 : Int32) ≤ i3 then
      f74_b97 kad N Z a0 I
    else
      (ixA 20 i3).bind fun j89_2 =>
      (wI I (a0 + 1) j89_2 i1).bind fun I89_1 =>
      (ixA 20 i3).bind fun j96_4 =>
      (wI I89_1 (a0 + 2) j96_4 i2).bind fun I96_3 =>
      f74_b97 kad N Z a0 I96_3
set_option maxRecDepth 20000 in
theorem Tf74_b73 {kad : Nat → Nat} {N : Nat} {Z : AZ} {d : Nat} {t : Option Nat × (Nat × Nat)} (hd : 1 ≤ d) : ∀ (a0 : Nat) (ha0 : sh6 kad Z a0) (i1 : Int32) (i2 : Int32) (i3 : Int32) (I : AI) (r : Unit × AI), f74_b73 kad N Z a0 i1 i2 i3 I = some r → aGo kad d 74 (73, ([(0, .ref a0), (1, .int i1), (2, .int i2), (3, .int i3)], [])) (aMem Z I, t) (qV Z t r) := by
  intro a0 ha0 i1 i2 i3 I r h
  unfold f74_b73 at h
  refine go_ops aMi74 1 _ (f1 := (74, ([(0, .ref a0), (1, .int i1), (2, .int i2), (3, .int i3)], [.int i3]))) rfl ?_
  refine gg_br (b := decide (i3 < 0)) (tg := 97) (off := 23) aMi74 rfl rfl rfl rfl (fun hb => ?_) (fun hb => ?_)
  · rw [if_pos (of_decide_eq_true hb)] at h
    refine go_le (lv1 := [(0, .ref a0)]) (aLe_of (show (List.map (fun q => q.1) ([(0, .ref a0)] : ALv)).Nodup from (by show ([0] : List Nat).Nodup; decide)) (aSubL_cons rfl aSubL_nil)) ?_
    exact Tf74_b97 hd a0 ha0 I _ h
  · rw [if_neg (of_decide_eq_false hb)] at h
    refine go_ops aMi74 2 _ (f1 := (80, ([(0, .ref a0), (1, .int i1), (2, .int i2), (3, .int i3)], [.int (20 : Int32), .int i3]))) rfl ?_
    refine gg_br (b := decide ((20 : Int32) ≤ i3)) (tg := 97) (off := 17) aMi74 rfl rfl rfl rfl (fun hb => ?_) (fun hb => ?_)
    · rw [if_pos (of_decide_eq_true hb)] at h
      refine go_le (lv1 := [(0, .ref a0)]) (aLe_of (show (List.map (fun q => q.1) ([(0, .ref a0)] : ALv)).Nodup from (by show ([0] : List Nat).Nodup; decide)) (aSubL_cons rfl aSubL_nil)) ?_
      exact Tf74_b97 hd a0 ha0 I _ h
    · rw [if_neg (of_decide_eq_false hb)] at h
      refine go_ops aMi74 1 _ (f1 := (84, ([(0, .ref a0), (1, .int i1), (2, .int i2), (3, .int i3)], [.ref a0]))) rfl ?_
      refine gg_gR (b := (a0 + 1)) aMi74 rfl rfl rfl (gR_of (sh6_z ha0) (sh6_r1 ha0)) ?_
      refine go_ops aMi74 2 _ (f1 := (89, ([(0, .ref a0), (1, .int i1), (2, .int i2), (3, .int i3)], [.int i1, .int i3, .ref (a0 + 1)]))) rfl ?_
      obtain ⟨j89_2, hxj89_2, h⟩ := Option.bind_eq_some_iff.mp h
      obtain ⟨I89_1, hxI89_1, h⟩ := Option.bind_eq_some_iff.mp h
      refine gg_sI (Or.inl ⟨rfl, rfl⟩) aMi74 rfl (sI_of (sh6_a1 ha0) hxj89_2 hxI89_1) ?_
      refine go_ops aMi74 1 _ (f1 := (91, ([(0, .ref a0), (1, .int i1), (2, .int i2), (3, .int i3)], [.ref a0]))) rfl ?_
      refine gg_gR (b := (a0 + 2)) aMi74 rfl rfl rfl (gR_of (sh6_z ha0) (sh6_r2 ha0)) ?_
      refine go_ops aMi74 2 _ (f1 := (96, ([(0, .ref a0), (1, .int i1), (2, .int i2), (3, .int i3)], [.int i2, .int i3, .ref (a0 + 2)]))) rfl ?_
      obtain ⟨j96_4, hxj96_4, h⟩ := Option.bind_eq_some_iff.mp h
      obtain ⟨I96_3, hxI96_3, h⟩ := Option.bind_eq_some_iff.mp h
      refine gg_sI (Or.inl ⟨rfl, rfl⟩) aMi74 rfl (sI_of (sh6_a2 ha0) hxj96_4 hxI96_3) ?_
      refine go_le (lv1 := [(0, .ref a0)]) (aLe_of (show (List.map (fun q => q.1) ([(0, .ref a0)] : ALv)).Nodup from (by show ([0] : List Nat).Nodup; decide)) (aSubL_cons rfl aSubL_nil)) ?_
      exact Tf74_b97 hd a0 ha0 I96_3 _ h
def f74_b22 (kad : Nat → Nat) (N : Nat) (Z : AZ) : Nat → Nat → Int32 → Int32 → Int32 → Int32 → AI → Option (Unit × AI)
  | 0, _, _, _, _, _, _ => none
  | F + 1, a0, i1, i2, i3, i4, I =>
    if i4 ≤ i3 then
      f74_b73 kad N Z a0 i1 i2 i3 I
    else
      if (20 : Int32) ≤ i4 then
        f74_b73 kad N Z a0 i1 i2 i3 I
      else
        (ixA 20 (i4 - (1 : Int32))).bind fun j49_1 =>
        (ixA 20 i4).bind fun j50_3 =>
        (wI I (a0 + 1) j50_3 (I (a0 + 1) j49_1)).bind fun I50_2 =>
        (ixA 20 (i4 - (1 : Int32))).bind fun j65_4 =>
        (ixA 20 i4).bind fun j66_6 =>
        (wI I50_2 (a0 + 2) j66_6 (I50_2 (a0 + 2) j65_4)).bind fun I66_5 =>
        f74_b22 kad N Z F a0 i1 i2 i3 (i4 + (Int32.ofInt (-1))) I66_5
set_option maxRecDepth 20000 in
theorem Tf74_b22 {kad : Nat → Nat} {N : Nat} {Z : AZ} {d : Nat} {t : Option Nat × (Nat × Nat)} (hd : 1 ≤ d) : ∀ (F : Nat) (a0 : Nat) (ha0 : sh6 kad Z a0) (i1 : Int32) (i2 : Int32) (i3 : Int32) (i4 : Int32) (I : AI) (r : Unit × AI), f74_b22 kad N Z F a0 i1 i2 i3 i4 I = some r → aGo kad d 74 (22, ([(0, .ref a0), (1, .int i1), (2, .int i2), (3, .int i3), (4, .int i4)], [])) (aMem Z I, t) (qV Z t r) := by
  intro F
  induction F with
  | zero => intro a0 ha0 i1 i2 i3 i4 I r h; cases h
  | succ F ih =>
    intro a0 ha0 i1 i2 i3 i4 I r h
    unfold f74_b22 at h
    refine go_ops aMi74 2 _ (f1 := (25, ([(0, .ref a0), (1, .int i1), (2, .int i2), (3, .int i3), (4, .int i4)], [.int i3, .int i4]))) rfl ?_
    refine gg_br (b := decide (i4 ≤ i3)) (tg := 73) (off := 48) aMi74 rfl rfl rfl rfl (fun hb => ?_) (fun hb => ?_)
    · rw [if_pos (of_decide_eq_true hb)] at h
      refine go_le (lv1 := [(0, .ref a0), (1, .int i1), (2, .int i2), (3, .int i3)]) (aLe_of (show (List.map (fun q => q.1) ([(0, .ref a0), (1, .int i1), (2, .int i2), (3, .int i3)] : ALv)).Nodup from (by show ([0, 1, 2, 3] : List Nat).Nodup; decide)) (aSubL_cons rfl (aSubL_cons rfl (aSubL_cons rfl (aSubL_cons rfl aSubL_nil))))) ?_
      exact Tf74_b73 hd a0 ha0 i1 i2 i3 I _ h
    · rw [if_neg (of_decide_eq_false hb)] at h
      refine go_ops aMi74 2 _ (f1 := (32, ([(0, .ref a0), (1, .int i1), (2, .int i2), (3, .int i3), (4, .int i4)], [.int (20 : Int32), .int i4]))) rfl ?_
      refine gg_br (b := decide ((20 : Int32) ≤ i4)) (tg := 73) (off := 41) aMi74 rfl rfl rfl rfl (fun hb => ?_) (fun hb => ?_)
      · rw [if_pos (of_decide_eq_true hb)] at h
        refine go_le (lv1 := [(0, .ref a0), (1, .int i1), (2, .int i2), (3, .int i3)]) (aLe_of (show (List.map (fun q => q.1) ([(0, .ref a0), (1, .int i1), (2, .int i2), (3, .int i3)] : ALv)).Nodup from (by show ([0, 1, 2, 3] : List Nat).Nodup; decide)) (aSubL_cons rfl (aSubL_cons rfl (aSubL_cons rfl (aSubL_cons rfl aSubL_nil))))) ?_
        exact Tf74_b73 hd a0 ha0 i1 i2 i3 I _ h
      · rw [if_neg (of_decide_eq_false hb)] at h
        refine go_ops aMi74 1 _ (f1 := (36, ([(0, .ref a0), (1, .int i1), (2, .int i2), (3, .int i3), (4, .int i4)], [.ref a0]))) rfl ?_
        refine gg_gR (b := (a0 + 1)) aMi74 rfl rfl rfl (gR_of (sh6_z ha0) (sh6_r1 ha0)) ?_
        refine go_ops aMi74 2 _ (f1 := (42, ([(0, .ref a0), (1, .int i1), (2, .int i2), (3, .int i3), (4, .int i4)], [.ref a0, .int i4, .ref (a0 + 1)]))) rfl ?_
        refine gg_gR (b := (a0 + 1)) aMi74 rfl rfl rfl (gR_of (sh6_z ha0) (sh6_r1 ha0)) ?_
        refine go_ops aMi74 3 _ (f1 := (49, ([(0, .ref a0), (1, .int i1), (2, .int i2), (3, .int i3), (4, .int i4)], [.int (i4 - (1 : Int32)), .ref (a0 + 1), .int i4, .ref (a0 + 1)]))) rfl ?_
        obtain ⟨j49_1, hxj49_1, h⟩ := Option.bind_eq_some_iff.mp h
        refine gg_lI (Or.inl ⟨rfl, rfl⟩) aMi74 rfl (lI_of (sh6_a1 ha0) hxj49_1) ?_
        obtain ⟨j50_3, hxj50_3, h⟩ := Option.bind_eq_some_iff.mp h
        obtain ⟨I50_2, hxI50_2, h⟩ := Option.bind_eq_some_iff.mp h
        refine gg_sI (Or.inl ⟨rfl, rfl⟩) aMi74 rfl (sI_of (sh6_a1 ha0) hxj50_3 hxI50_2) ?_
        refine go_ops aMi74 1 _ (f1 := (52, ([(0, .ref a0), (1, .int i1), (2, .int i2), (3, .int i3), (4, .int i4)], [.ref a0]))) rfl ?_
        refine gg_gR (b := (a0 + 2)) aMi74 rfl rfl rfl (gR_of (sh6_z ha0) (sh6_r2 ha0)) ?_
        refine go_ops aMi74 2 _ (f1 := (58, ([(0, .ref a0), (1, .int i1), (2, .int i2), (3, .int i3), (4, .int i4)], [.ref a0, .int i4, .ref (a0 + 2)]))) rfl ?_
        refine gg_gR (b := (a0 + 2)) aMi74 rfl rfl rfl (gR_of (sh6_z ha0) (sh6_r2 ha0)) ?_
        refine go_ops aMi74 3 _ (f1 := (65, ([(0, .ref a0), (1, .int i1), (2, .int i2), (3, .int i3), (4, .int i4)], [.int (i4 - (1 : Int32)), .ref (a0 + 2), .int i4, .ref (a0 + 2)]))) rfl ?_
        obtain ⟨j65_4, hxj65_4, h⟩ := Option.bind_eq_some_iff.mp h
        refine gg_lI (Or.inl ⟨rfl, rfl⟩) aMi74 rfl (lI_of (sh6_a2 ha0) hxj65_4) ?_
        obtain ⟨j66_6, hxj66_6, h⟩ := Option.bind_eq_some_iff.mp h
        obtain ⟨I66_5, hxI66_5, h⟩ := Option.bind_eq_some_iff.mp h
        refine gg_sI (Or.inl ⟨rfl, rfl⟩) aMi74 rfl (sI_of (sh6_a2 ha0) hxj66_6 hxI66_5) ?_
        refine go_ops aMi74 2 _ (f1 := (22, ([(4, .int (i4 + (Int32.ofInt (-1)))), (0, .ref a0), (1, .int i1), (2, .int i2), (3, .int i3)], []))) rfl ?_
        refine go_le (lv1 := [(0, .ref a0), (1, .int i1), (2, .int i2), (3, .int i3), (4, .int (i4 + (Int32.ofInt (-1))))]) (aLe_of (show (List.map (fun q => q.1) ([(0, .ref a0), (1, .int i1), (2, .int i2), (3, .int i3), (4, .int (i4 + (Int32.ofInt (-1))))] : ALv)).Nodup from (by show ([0, 1, 2, 3, 4] : List Nat).Nodup; decide)) (aSubL_cons rfl (aSubL_cons rfl (aSubL_cons rfl (aSubL_cons rfl (aSubL_cons rfl aSubL_nil)))))) ?_
        exact ih a0 ha0 i1 i2 i3 (i4 + (Int32.ofInt (-1))) I66_5 _ h
def f74 (kad : Nat → Nat) (N : Nat) (Z : AZ) (a0 : Nat) (i1 : Int32) (i2 : Int32) (I : AI) : Option (Unit × AI) :=
  if (I a0 0) < (20 : Int32) then
    (f75 kad N Z a0 i2 I).bind fun r12_1 =>
    f74_b22 kad N Z N a0 i1 i2 r12_1.1 ((r12_1.2) a0 0) r12_1.2
  else
    some ((), I)
set_option maxRecDepth 20000 in
theorem Tf74 {kad : Nat → Nat} {N : Nat} {Z : AZ} {d : Nat} {t : Option Nat × (Nat × Nat)} (hd : 1 ≤ d) : ∀ (a0 : Nat) (ha0 : sh6 kad Z a0) (i1 : Int32) (i2 : Int32) (I : AI) (r : Unit × AI), f74 kad N Z a0 i1 i2 I = some r → aGo kad d 74 (0, ([(0, .ref a0), (1, .int i1), (2, .int i2)], [])) (aMem Z I, t) (qV Z t r) := by
  intro a0 ha0 i1 i2 I r h
  unfold f74 at h
  refine go_ops aMi74 1 _ (f1 := (1, ([(0, .ref a0), (1, .int i1), (2, .int i2)], [.ref a0]))) rfl ?_
  refine gg_gI aMi74 rfl rfl rfl (gI_of (sh6_z ha0)) ?_
  refine go_ops aMi74 1 _ (f1 := (6, ([(0, .ref a0), (1, .int i1), (2, .int i2)], [.int (20 : Int32), .int (I a0 0)]))) rfl ?_
  refine gg_br (b := decide ((I a0 0) < (20 : Int32))) (tg := 10) (off := 4) aMi74 rfl rfl rfl rfl (fun hb => ?_) (fun hb => ?_)
  · rw [if_pos (of_decide_eq_true hb)] at h
    refine go_ops aMi74 2 _ (f1 := (12, ([(0, .ref a0), (1, .int i1), (2, .int i2)], [.int i2, .ref a0]))) rfl ?_
    obtain ⟨r12_1, hxr12_1, h⟩ := Option.bind_eq_some_iff.mp h
    refine gg_cv (as := [.int i2]) (r := []) aMi74 rfl rfl rfl aMi75 (Nat.le_of_ble_eq_true rfl) rfl (Nat.le_of_ble_eq_true rfl) (Nat.le_of_ble_eq_true rfl) (by omega) (isK_of (sh6_z ha0)) (Tf75 (by omega) a0 ha0 i2 I _ hxr12_1) ?_
    show aGo kad d 74 (15, ([(0, .ref a0), (1, .int i1), (2, .int i2)], [.int r12_1.1])) (aMem Z r12_1.2, t) _
    refine go_ops aMi74 2 _ (f1 := (17, ([(3, .int r12_1.1), (0, .ref a0), (1, .int i1), (2, .int i2)], [.ref a0]))) rfl ?_
    refine gg_gI aMi74 rfl rfl rfl (gI_of (sh6_z ha0)) ?_
    refine go_ops aMi74 1 _ (f1 := (22, ([(4, .int ((r12_1.2) a0 0)), (3, .int r12_1.1), (0, .ref a0), (1, .int i1), (2, .int i2)], []))) rfl ?_
    refine go_le (lv1 := [(0, .ref a0), (1, .int i1), (2, .int i2), (3, .int r12_1.1), (4, .int ((r12_1.2) a0 0))]) (aLe_of (show (List.map (fun q => q.1) ([(0, .ref a0), (1, .int i1), (2, .int i2), (3, .int r12_1.1), (4, .int ((r12_1.2) a0 0))] : ALv)).Nodup from (by show ([0, 1, 2, 3, 4] : List Nat).Nodup; decide)) (aSubL_cons rfl (aSubL_cons rfl (aSubL_cons rfl (aSubL_cons rfl (aSubL_cons rfl aSubL_nil)))))) ?_
    exact Tf74_b22 hd N a0 ha0 i1 i2 r12_1.1 ((r12_1.2) a0 0) r12_1.2 _ h
  · rw [if_neg (of_decide_eq_false hb)] at h
    cases h
    exact go_ret aMi74 rfl rfl ⟨rfl, rfl⟩
-- KernelGym$Keys.isOneToldFor (I)Z
def f76_b34 (kad : Nat → Nat) (N : Nat) (Z : AZ) (a0 : Nat) (I : AI) : Option (Int32 × AI) :=
  some ((0 : Int32), I)
set_option maxRecDepth 20000 in
theorem Tf76_b34 {kad : Nat → Nat} {N : Nat} {Z : AZ} {d : Nat} {t : Option Nat × (Nat × Nat)} (hd : 0 ≤ d) : ∀ (a0 : Nat) (ha0 : sh6 kad Z a0) (I : AI) (r : Int32 × AI), f76_b34 kad N Z a0 I = some r → aGo kad d 76 (34, ([], [])) (aMem Z I, t) (qI Z t r) := by
  intro a0 ha0 I r h
  unfold f76_b34 at h
  refine go_ops aMi76 1 _ (f1 := (35, ([], [.int (0 : Int32)]))) rfl ?_
  cases h
  exact go_ret aMi76 rfl (aRetZ (Or.inl rfl)) ⟨rfl, rfl⟩
def f76_b2 (kad : Nat → Nat) (N : Nat) (Z : AZ) : Nat → Nat → Int32 → Int32 → AI → Option (Int32 × AI)
  | 0, _, _, _, _ => none
  | F + 1, a0, i1, i2, I =>
    if (I a0 0) ≤ i2 then
      f76_b34 kad N Z a0 I
    else
      if (20 : Int32) ≤ i2 then
        f76_b34 kad N Z a0 I
      else
        (ixA 20 i2).bind fun j21_1 =>
        if ¬ (I (a0 + 2) j21_1) = i1 then
          f76_b2 kad N Z F a0 i1 (i2 + (1 : Int32)) I
        else
          some ((1 : Int32), I)
set_option maxRecDepth 20000 in
theorem Tf76_b2 {kad : Nat → Nat} {N : Nat} {Z : AZ} {d : Nat} {t : Option Nat × (Nat × Nat)} (hd : 0 ≤ d) : ∀ (F : Nat) (a0 : Nat) (ha0 : sh6 kad Z a0) (i1 : Int32) (i2 : Int32) (I : AI) (r : Int32 × AI), f76_b2 kad N Z F a0 i1 i2 I = some r → aGo kad d 76 (2, ([(0, .ref a0), (1, .int i1), (2, .int i2)], [])) (aMem Z I, t) (qI Z t r) := by
  intro F
  induction F with
  | zero => intro a0 ha0 i1 i2 I r h; cases h
  | succ F ih =>
    intro a0 ha0 i1 i2 I r h
    unfold f76_b2 at h
    refine go_ops aMi76 2 _ (f1 := (4, ([(0, .ref a0), (1, .int i1), (2, .int i2)], [.ref a0, .int i2]))) rfl ?_
    refine gg_gI aMi76 rfl rfl rfl (gI_of (sh6_z ha0)) ?_
    refine gg_br (b := decide ((I a0 0) ≤ i2)) (tg := 34) (off := 27) aMi76 rfl rfl rfl rfl (fun hb => ?_) (fun hb => ?_)
    · rw [if_pos (of_decide_eq_true hb)] at h
      refine go_le (lv1 := []) (aLe_of (show (List.map (fun q => q.1) ([] : ALv)).Nodup from (by show ([] : List Nat).Nodup; decide)) aSubL_nil) ?_
      exact Tf76_b34 hd a0 ha0 I _ h
    · rw [if_neg (of_decide_eq_false hb)] at h
      refine go_ops aMi76 2 _ (f1 := (13, ([(0, .ref a0), (1, .int i1), (2, .int i2)], [.int (20 : Int32), .int i2]))) rfl ?_
      refine gg_br (b := decide ((20 : Int32) ≤ i2)) (tg := 34) (off := 21) aMi76 rfl rfl rfl rfl (fun hb => ?_) (fun hb => ?_)
      · rw [if_pos (of_decide_eq_true hb)] at h
        refine go_le (lv1 := []) (aLe_of (show (List.map (fun q => q.1) ([] : ALv)).Nodup from (by show ([] : List Nat).Nodup; decide)) aSubL_nil) ?_
        exact Tf76_b34 hd a0 ha0 I _ h
      · rw [if_neg (of_decide_eq_false hb)] at h
        refine go_ops aMi76 1 _ (f1 := (17, ([(0, .ref a0), (1, .int i1), (2, .int i2)], [.ref a0]))) rfl ?_
        refine gg_gR (b := (a0 + 2)) aMi76 rfl rfl rfl (gR_of (sh6_z ha0) (sh6_r2 ha0)) ?_
        refine go_ops aMi76 1 _ (f1 := (21, ([(0, .ref a0), (1, .int i1), (2, .int i2)], [.int i2, .ref (a0 + 2)]))) rfl ?_
        obtain ⟨j21_1, hxj21_1, h⟩ := Option.bind_eq_some_iff.mp h
        refine gg_lI (Or.inl ⟨rfl, rfl⟩) aMi76 rfl (lI_of (sh6_a2 ha0) hxj21_1) ?_
        refine go_ops aMi76 1 _ (f1 := (23, ([(0, .ref a0), (1, .int i1), (2, .int i2)], [.int i1, .int (I (a0 + 2) j21_1)]))) rfl ?_
        refine gg_br (b := decide (¬ (I (a0 + 2) j21_1) = i1)) (tg := 28) (off := 5) aMi76 rfl rfl rfl rfl (fun hb => ?_) (fun hb => ?_)
        · rw [if_pos (of_decide_eq_true hb)] at h
          refine go_ops aMi76 2 _ (f1 := (2, ([(2, .int (i2 + (1 : Int32))), (0, .ref a0), (1, .int i1)], []))) rfl ?_
          refine go_le (lv1 := [(0, .ref a0), (1, .int i1), (2, .int (i2 + (1 : Int32)))]) (aLe_of (show (List.map (fun q => q.1) ([(0, .ref a0), (1, .int i1), (2, .int (i2 + (1 : Int32)))] : ALv)).Nodup from (by show ([0, 1, 2] : List Nat).Nodup; decide)) (aSubL_cons rfl (aSubL_cons rfl (aSubL_cons rfl aSubL_nil)))) ?_
          exact ih a0 ha0 i1 (i2 + (1 : Int32)) I _ h
        · rw [if_neg (of_decide_eq_false hb)] at h
          refine go_ops aMi76 1 _ (f1 := (27, ([(0, .ref a0), (1, .int i1), (2, .int i2)], [.int (1 : Int32)]))) rfl ?_
          cases h
          exact go_ret aMi76 rfl (aRetZ (Or.inr rfl)) ⟨rfl, rfl⟩
def f76 (kad : Nat → Nat) (N : Nat) (Z : AZ) (a0 : Nat) (i1 : Int32) (I : AI) : Option (Int32 × AI) :=
  f76_b2 kad N Z N a0 i1 (0 : Int32) I
set_option maxRecDepth 20000 in
theorem Tf76 {kad : Nat → Nat} {N : Nat} {Z : AZ} {d : Nat} {t : Option Nat × (Nat × Nat)} (hd : 0 ≤ d) : ∀ (a0 : Nat) (ha0 : sh6 kad Z a0) (i1 : Int32) (I : AI) (r : Int32 × AI), f76 kad N Z a0 i1 I = some r → aGo kad d 76 (0, ([(0, .ref a0), (1, .int i1)], [])) (aMem Z I, t) (qI Z t r) := by
  intro a0 ha0 i1 I r h
  unfold f76 at h
  refine go_ops aMi76 2 _ (f1 := (2, ([(2, .int (0 : Int32)), (0, .ref a0), (1, .int i1)], []))) rfl ?_
  refine go_le (lv1 := [(0, .ref a0), (1, .int i1), (2, .int (0 : Int32))]) (aLe_of (show (List.map (fun q => q.1) ([(0, .ref a0), (1, .int i1), (2, .int (0 : Int32))] : ALv)).Nodup from (by show ([0, 1, 2] : List Nat).Nodup; decide)) (aSubL_cons rfl (aSubL_cons rfl (aSubL_cons rfl aSubL_nil)))) ?_
  exact Tf76_b2 hd N a0 ha0 i1 (0 : Int32) I _ h
-- KernelGym$Keys.keyAt (I)I
def f77_b20 (kad : Nat → Nat) (N : Nat) (Z : AZ) (a0 : Nat) (s0 : Int32) (I : AI) : Option (Int32 × AI) :=
  some (s0, I)
set_option maxRecDepth 20000 in
theorem Tf77_b20 {kad : Nat → Nat} {N : Nat} {Z : AZ} {d : Nat} {t : Option Nat × (Nat × Nat)} (hd : 0 ≤ d) : ∀ (a0 : Nat) (ha0 : sh6 kad Z a0) (s0 : Int32) (I : AI) (r : Int32 × AI), f77_b20 kad N Z a0 s0 I = some r → aGo kad d 77 (20, ([], [.int s0])) (aMem Z I, t) (qI Z t r) := by
  intro a0 ha0 s0 I r h
  unfold f77_b20 at h
  cases h
  exact go_ret aMi77 rfl aRetI ⟨rfl, rfl⟩
def f77_b19 (kad : Nat → Nat) (N : Nat) (Z : AZ) (a0 : Nat) (I : AI) : Option (Int32 × AI) :=
  f77_b20 kad N Z a0 (0 : Int32) I
set_option maxRecDepth 20000 in
theorem Tf77_b19 {kad : Nat → Nat} {N : Nat} {Z : AZ} {d : Nat} {t : Option Nat × (Nat × Nat)} (hd : 0 ≤ d) : ∀ (a0 : Nat) (ha0 : sh6 kad Z a0) (I : AI) (r : Int32 × AI), f77_b19 kad N Z a0 I = some r → aGo kad d 77 (19, ([], [])) (aMem Z I, t) (qI Z t r) := by
  intro a0 ha0 I r h
  unfold f77_b19 at h
  refine go_ops aMi77 1 _ (f1 := (20, ([], [.int (0 : Int32)]))) rfl ?_
  exact Tf77_b20 hd a0 ha0 (0 : Int32) I _ h
def f77 (kad : Nat → Nat) (N : Nat) (Z : AZ) (a0 : Nat) (i1 : Int32) (I : AI) : Option (Int32 × AI) :=
  if i1 < 0 then
    f77_b19 kad N Z a0 I
  else
    if (20 : Int32) ≤ i1 then
      f77_b19 kad N Z a0 I
    else
      (ixA 20 i1).bind fun j15_1 =>
      f77_b20 kad N Z a0 (I (a0 + 1) j15_1) I
set_option maxRecDepth 20000 in
theorem Tf77 {kad : Nat → Nat} {N : Nat} {Z : AZ} {d : Nat} {t : Option Nat × (Nat × Nat)} (hd : 0 ≤ d) : ∀ (a0 : Nat) (ha0 : sh6 kad Z a0) (i1 : Int32) (I : AI) (r : Int32 × AI), f77 kad N Z a0 i1 I = some r → aGo kad d 77 (0, ([(0, .ref a0), (1, .int i1)], [])) (aMem Z I, t) (qI Z t r) := by
  intro a0 ha0 i1 I r h
  unfold f77 at h
  refine go_ops aMi77 1 _ (f1 := (1, ([(0, .ref a0), (1, .int i1)], [.int i1]))) rfl ?_
  refine gg_br (b := decide (i1 < 0)) (tg := 19) (off := 18) aMi77 rfl rfl rfl rfl (fun hb => ?_) (fun hb => ?_)
  · rw [if_pos (of_decide_eq_true hb)] at h
    refine go_le (lv1 := []) (aLe_of (show (List.map (fun q => q.1) ([] : ALv)).Nodup from (by show ([] : List Nat).Nodup; decide)) aSubL_nil) ?_
    exact Tf77_b19 hd a0 ha0 I _ h
  · rw [if_neg (of_decide_eq_false hb)] at h
    refine go_ops aMi77 2 _ (f1 := (7, ([(0, .ref a0), (1, .int i1)], [.int (20 : Int32), .int i1]))) rfl ?_
    refine gg_br (b := decide ((20 : Int32) ≤ i1)) (tg := 19) (off := 12) aMi77 rfl rfl rfl rfl (fun hb => ?_) (fun hb => ?_)
    · rw [if_pos (of_decide_eq_true hb)] at h
      refine go_le (lv1 := []) (aLe_of (show (List.map (fun q => q.1) ([] : ALv)).Nodup from (by show ([] : List Nat).Nodup; decide)) aSubL_nil) ?_
      exact Tf77_b19 hd a0 ha0 I _ h
    · rw [if_neg (of_decide_eq_false hb)] at h
      refine go_ops aMi77 1 _ (f1 := (11, ([(0, .ref a0), (1, .int i1)], [.ref a0]))) rfl ?_
      refine gg_gR (b := (a0 + 1)) aMi77 rfl rfl rfl (gR_of (sh6_z ha0) (sh6_r1 ha0)) ?_
      refine go_ops aMi77 1 _ (f1 := (15, ([(0, .ref a0), (1, .int i1)], [.int i1, .ref (a0 + 1)]))) rfl ?_
      obtain ⟨j15_1, hxj15_1, h⟩ := Option.bind_eq_some_iff.mp h
      refine gg_lI (Or.inl ⟨rfl, rfl⟩) aMi77 rfl (lI_of (sh6_a1 ha0) hxj15_1) ?_
      refine go_ops aMi77 1 _ (f1 := (20, ([(0, .ref a0), (1, .int i1)], [.int (I (a0 + 1) j15_1)]))) rfl ?_
      refine go_le (lv1 := []) (aLe_of (show (List.map (fun q => q.1) ([] : ALv)).Nodup from (by show ([] : List Nat).Nodup; decide)) aSubL_nil) ?_
      exact Tf77_b20 hd a0 ha0 (I (a0 + 1) j15_1) I _ h
-- KernelGym$Machine.letKeysCome ()V
def f85_b25 (kad : Nat → Nat) (N : Nat) (Z : AZ) (a0 : Nat) (I : AI) : Option (Unit × AI) :=
  some ((), I)
set_option maxRecDepth 20000 in
theorem Tf85_b25 {kad : Nat → Nat} {N : Nat} {Z : AZ} {d : Nat} {t : Option Nat × (Nat × Nat)} (hd : 1 ≤ d) : ∀ (a0 : Nat) (ha0 : sh8 kad Z a0) (I : AI) (r : Unit × AI), f85_b25 kad N Z a0 I = some r → aGo kad d 85 (25, ([], [])) (aMem Z I, t) (qV Z t r) := by
  intro a0 ha0 I r h
  unfold f85_b25 at h
  cases h
  exact go_ret aMi85 rfl rfl ⟨rfl, rfl⟩
def f85 (kad : Nat → Nat) (N : Nat) (Z : AZ) (a0 : Nat) (I : AI) : Option (Unit × AI) :=
  (f76 kad N Z (a0 + 10) (I (a0 + 1) 2) I).bind fun r11_1 =>
  if r11_1.1 = 0 then
    f85_b25 kad N Z a0 r11_1.2
  else
    (wI r11_1.2 (a0 + 1) 9 (1 : Int32)).bind fun I22_2 =>
    f85_b25 kad N Z a0 I22_2
set_option maxRecDepth 20000 in
theorem Tf85 {kad : Nat → Nat} {N : Nat} {Z : AZ} {d : Nat} {t : Option Nat × (Nat × Nat)} (hd : 1 ≤ d) : ∀ (a0 : Nat) (ha0 : sh8 kad Z a0) (I : AI) (r : Unit × AI), f85 kad N Z a0 I = some r → aGo kad d 85 (0, ([(0, .ref a0)], [])) (aMem Z I, t) (qV Z t r) := by
  intro a0 ha0 I r h
  unfold f85 at h
  refine go_ops aMi85 1 _ (f1 := (1, ([(0, .ref a0)], [.ref a0]))) rfl ?_
  refine gg_gR (b := (a0 + 10)) aMi85 rfl rfl rfl (gR_of (sh8_z ha0) (sh8_r4 ha0)) ?_
  refine go_ops aMi85 1 _ (f1 := (5, ([(0, .ref a0)], [.ref a0, .ref (a0 + 10)]))) rfl ?_
  refine gg_gR (b := (a0 + 1)) aMi85 rfl rfl rfl (gR_of (sh8_z ha0) (sh8_r0 ha0)) ?_
  refine gg_gI aMi85 rfl rfl rfl (gI_of (sh2_z (sh8_s0 ha0))) ?_
  obtain ⟨r11_1, hxr11_1, h⟩ := Option.bind_eq_some_iff.mp h
  refine gg_cv (as := [.int (I (a0 + 1) 2)]) (r := []) aMi85 rfl rfl rfl aMi76 (Nat.le_of_ble_eq_true rfl) rfl (Nat.le_of_ble_eq_true rfl) (Nat.le_of_ble_eq_true rfl) (by omega) (isK_of (sh6_z (sh8_s4 ha0))) (Tf76 (by omega) (a0 + 10) (sh8_s4 ha0) (I (a0 + 1) 2) I _ hxr11_1) ?_
  show aGo kad d 85 (14, ([(0, .ref a0)], [.int r11_1.1])) (aMem Z r11_1.2, t) _
  refine gg_br (b := decide (r11_1.1 = 0)) (tg := 25) (off := 11) aMi85 rfl rfl rfl rfl (fun hb => ?_) (fun hb => ?_)
  · rw [if_pos (of_decide_eq_true hb)] at h
    refine go_le (lv1 := []) (aLe_of (show (List.map (fun q => q.1) ([] : ALv)).Nodup from (by show ([] : List Nat).Nodup; decide)) aSubL_nil) ?_
    exact Tf85_b25 hd a0 ha0 r11_1.2 _ h
  · rw [if_neg (of_decide_eq_false hb)] at h
    refine go_ops aMi85 1 _ (f1 := (18, ([(0, .ref a0)], [.ref a0]))) rfl ?_
    refine gg_gR (b := (a0 + 1)) aMi85 rfl rfl rfl (gR_of (sh8_z ha0) (sh8_r0 ha0)) ?_
    refine go_ops aMi85 1 _ (f1 := (22, ([(0, .ref a0)], [.int (1 : Int32), .ref (a0 + 1)]))) rfl ?_
    obtain ⟨I22_2, hxI22_2, h⟩ := Option.bind_eq_some_iff.mp h
    refine gg_pB aMi85 rfl rfl rfl rfl (by decide) (pB_lit (sh2_z (sh8_s0 ha0)) (Or.inr rfl) hxI22_2) ?_
    refine go_le (lv1 := []) (aLe_of (show (List.map (fun q => q.1) ([] : ALv)).Nodup from (by show ([] : List Nat).Nodup; decide)) aSubL_nil) ?_
    exact Tf85_b25 hd a0 ha0 I22_2 _ h
-- KernelGym$Machine.turnOn ([I)I
def f80_b63 (kad : Nat → Nat) (N : Nat) (Z : AZ) (a0 : Nat) (i2 : Int32) (I : AI) : Option (Int32 × AI) :=
  (f85 kad N Z a0 I).bind fun r64_1 =>
  some (i2, r64_1.2)
set_option maxRecDepth 20000 in
theorem Tf80_b63 {kad : Nat → Nat} {N : Nat} {Z : AZ} {d : Nat} {t : Option Nat × (Nat × Nat)} (hd : 3 ≤ d) : ∀ (a0 : Nat) (ha0 : sh8 kad Z a0) (i2 : Int32) (I : AI) (r : Int32 × AI), f80_b63 kad N Z a0 i2 I = some r → aGo kad d 80 (63, ([(0, .ref a0), (2, .int i2)], [])) (aMem Z I, t) (qI Z t r) := by
  intro a0 ha0 i2 I r h
  unfold f80_b63 at h
  refine go_ops aMi80 1 _ (f1 := (64, ([(0, .ref a0), (2, .int i2)], [.ref a0]))) rfl ?_
  obtain ⟨r64_1, hxr64_1, h⟩ := Option.bind_eq_some_iff.mp h
  refine gg_cv (as := []) (r := []) aMi80 rfl rfl rfl aMi85 (Nat.le_of_ble_eq_true rfl) rfl (Nat.le_of_ble_eq_true rfl) (Nat.le_of_ble_eq_true rfl) (by omega) (isK_of (sh8_z ha0)) (Tf85 (by omega) a0 ha0 I _ hxr64_1) ?_
  show aGo kad d 80 (67, ([(0, .ref a0), (2, .int i2)], [])) (aMem Z r64_1.2, t) _
  refine go_ops aMi80 1 _ (f1 := (68, ([(0, .ref a0), (2, .int i2)], [.int i2]))) rfl ?_
  cases h
  exact go_ret aMi80 rfl aRetI ⟨rfl, rfl⟩
def f80 (kad : Nat → Nat) (N : Nat) (Z : AZ) (a0 : Nat) (b1 : Nat) (I : AI) : Option (Int32 × AI) :=
  (f46 kad N Z (a0 + 8) I).bind fun r4_1 =>
  (f37 kad N Z (a0 + 1) r4_1.2).bind fun r12_2 =>
  (wI r12_2.2 (a0 + 1) 0 (1 : Int32)).bind fun I20_3 =>
  (wI I20_3 (a0 + 1) 3 (8 : Int32)).bind fun I29_4 =>
  (wI I29_4 (a0 + 1) 4 (256 : Int32)).bind fun I39_5 =>
  (nL Z b1).bind fun x43_6 =>
  if ¬ x43_6 = (256 : Int32) then
    f80_b63 kad N Z a0 r4_1.1 I39_5
  else
    (cI Z I39_5 b1 (0 : Int32) (a0 + 6) (0 : Int32) (256 : Int32)).bind fun I60_7 =>
    f80_b63 kad N Z a0 r4_1.1 I60_7
set_option maxRecDepth 20000 in
theorem Tf80 {kad : Nat → Nat} {N : Nat} {Z : AZ} {d : Nat} {t : Option Nat × (Nat × Nat)} (hd : 3 ≤ d) : ∀ (a0 : Nat) (ha0 : sh8 kad Z a0) (b1 : Nat) (I : AI) (r : Int32 × AI), f80 kad N Z a0 b1 I = some r → aGo kad d 80 (0, ([(0, .ref a0), (1, .ref b1)], [])) (aMem Z I, t) (qI Z t r) := by
  intro a0 ha0 b1 I r h
  unfold f80 at h
  refine go_ops aMi80 1 _ (f1 := (1, ([(0, .ref a0), (1, .ref b1)], [.ref a0]))) rfl ?_
  refine gg_gR (b := (a0 + 8)) aMi80 rfl rfl rfl (gR_of (sh8_z ha0) (sh8_r3 ha0)) ?_
  obtain ⟨r4_1, hxr4_1, h⟩ := Option.bind_eq_some_iff.mp h
  refine gg_cv (as := []) (r := []) aMi80 rfl rfl rfl aMi46 (Nat.le_of_ble_eq_true rfl) rfl (Nat.le_of_ble_eq_true rfl) (Nat.le_of_ble_eq_true rfl) (by omega) (isK_of (sh3_z (sh8_s3 ha0))) (Tf46 (by omega) (a0 + 8) (sh8_s3 ha0) I _ hxr4_1) ?_
  show aGo kad d 80 (7, ([(0, .ref a0), (1, .ref b1)], [.int r4_1.1])) (aMem Z r4_1.2, t) _
  refine go_ops aMi80 2 _ (f1 := (9, ([(2, .int r4_1.1), (0, .ref a0), (1, .ref b1)], [.ref a0]))) rfl ?_
  refine gg_gR (b := (a0 + 1)) aMi80 rfl rfl rfl (gR_of (sh8_z ha0) (sh8_r0 ha0)) ?_
  obtain ⟨r12_2, hxr12_2, h⟩ := Option.bind_eq_some_iff.mp h
  refine gg_cv (as := []) (r := []) aMi80 rfl rfl rfl aMi37 (Nat.le_of_ble_eq_true rfl) rfl (Nat.le_of_ble_eq_true rfl) (Nat.le_of_ble_eq_true rfl) (by omega) (isK_of (sh2_z (sh8_s0 ha0))) (Tf37 (by omega) (a0 + 1) (sh8_s0 ha0) r4_1.2 _ hxr12_2) ?_
  show aGo kad d 80 (15, ([(2, .int r4_1.1), (0, .ref a0), (1, .ref b1)], [])) (aMem Z r12_2.2, t) _
  refine go_ops aMi80 1 _ (f1 := (16, ([(2, .int r4_1.1), (0, .ref a0), (1, .ref b1)], [.ref a0]))) rfl ?_
  refine gg_gR (b := (a0 + 1)) aMi80 rfl rfl rfl (gR_of (sh8_z ha0) (sh8_r0 ha0)) ?_
  refine go_ops aMi80 1 _ (f1 := (20, ([(2, .int r4_1.1), (0, .ref a0), (1, .ref b1)], [.int (1 : Int32), .ref (a0 + 1)]))) rfl ?_
  obtain ⟨I20_3, hxI20_3, h⟩ := Option.bind_eq_some_iff.mp h
  refine gg_pI aMi80 rfl rfl rfl rfl (by decide) (pI_of (sh2_z (sh8_s0 ha0)) hxI20_3) ?_
  refine go_ops aMi80 1 _ (f1 := (24, ([(2, .int r4_1.1), (0, .ref a0), (1, .ref b1)], [.ref a0]))) rfl ?_
  refine gg_gR (b := (a0 + 1)) aMi80 rfl rfl rfl (gR_of (sh8_z ha0) (sh8_r0 ha0)) ?_
  refine go_ops aMi80 1 _ (f1 := (29, ([(2, .int r4_1.1), (0, .ref a0), (1, .ref b1)], [.int (8 : Int32), .ref (a0 + 1)]))) rfl ?_
  obtain ⟨I29_4, hxI29_4, h⟩ := Option.bind_eq_some_iff.mp h
  refine gg_pI aMi80 rfl rfl rfl rfl (by decide) (pI_of (sh2_z (sh8_s0 ha0)) hxI29_4) ?_
  refine go_ops aMi80 1 _ (f1 := (33, ([(2, .int r4_1.1), (0, .ref a0), (1, .ref b1)], [.ref a0]))) rfl ?_
  refine gg_gR (b := (a0 + 1)) aMi80 rfl rfl rfl (gR_of (sh8_z ha0) (sh8_r0 ha0)) ?_
  refine go_ops aMi80 1 _ (f1 := (39, ([(2, .int r4_1.1), (0, .ref a0), (1, .ref b1)], [.int (256 : Int32), .ref (a0 + 1)]))) rfl ?_
  obtain ⟨I39_5, hxI39_5, h⟩ := Option.bind_eq_some_iff.mp h
  refine gg_pI aMi80 rfl rfl rfl rfl (by decide) (pI_of (sh2_z (sh8_s0 ha0)) hxI39_5) ?_
  refine go_ops aMi80 1 _ (f1 := (43, ([(2, .int r4_1.1), (0, .ref a0), (1, .ref b1)], [.ref b1]))) rfl ?_
  obtain ⟨x43_6, hxx43_6, h⟩ := Option.bind_eq_some_iff.mp h
  refine gg_len aMi80 rfl hxx43_6 ?_
  refine go_ops aMi80 1 _ (f1 := (47, ([(2, .int r4_1.1), (0, .ref a0), (1, .ref b1)], [.int (256 : Int32), .int x43_6]))) rfl ?_
  refine gg_br (b := decide (¬ x43_6 = (256 : Int32))) (tg := 63) (off := 16) aMi80 rfl rfl rfl rfl (fun hb => ?_) (fun hb => ?_)
  · rw [if_pos (of_decide_eq_true hb)] at h
    refine go_le (lv1 := [(0, .ref a0), (2, .int r4_1.1)]) (aLe_of (show (List.map (fun q => q.1) ([(0, .ref a0), (2, .int r4_1.1)] : ALv)).Nodup from (by show ([0, 2] : List Nat).Nodup; decide)) (aSubL_cons rfl (aSubL_cons rfl aSubL_nil))) ?_
    exact Tf80_b63 hd a0 ha0 r4_1.1 I39_5 _ h
  · rw [if_neg (of_decide_eq_false hb)] at h
    refine go_ops aMi80 3 _ (f1 := (53, ([(2, .int r4_1.1), (0, .ref a0), (1, .ref b1)], [.ref a0, .int (0 : Int32), .ref b1]))) rfl ?_
    refine gg_gR (b := (a0 + 6)) aMi80 rfl rfl rfl (gR_of (sh8_z ha0) (sh8_r1 ha0)) ?_
    refine go_ops aMi80 2 _ (f1 := (60, ([(2, .int r4_1.1), (0, .ref a0), (1, .ref b1)], [.int (256 : Int32), .int (0 : Int32), .ref (a0 + 6), .int (0 : Int32), .ref b1]))) rfl ?_
    obtain ⟨I60_7, hxI60_7, h⟩ := Option.bind_eq_some_iff.mp h
    refine gg_cp aMi80 rfl rfl (Nat.le_of_ble_eq_true rfl) hxI60_7 ?_
    refine go_le (lv1 := [(0, .ref a0), (2, .int r4_1.1)]) (aLe_of (show (List.map (fun q => q.1) ([(0, .ref a0), (2, .int r4_1.1)] : ALv)).Nodup from (by show ([0, 2] : List Nat).Nodup; decide)) (aSubL_cons rfl (aSubL_cons rfl aSubL_nil))) ?_
    exact Tf80_b63 hd a0 ha0 r4_1.1 I60_7 _ h
-- KernelGym$Machine.turnOff ()V
def f81 (kad : Nat → Nat) (N : Nat) (Z : AZ) (a0 : Nat) (I : AI) : Option (Unit × AI) :=
  (f37 kad N Z (a0 + 1) I).bind fun r4_1 =>
  (f53 kad N Z (a0 + 6) (0 : Int32) r4_1.2).bind fun r12_2 =>
  some ((), r12_2.2)
set_option maxRecDepth 20000 in
theorem Tf81 {kad : Nat → Nat} {N : Nat} {Z : AZ} {d : Nat} {t : Option Nat × (Nat × Nat)} (hd : 2 ≤ d) : ∀ (a0 : Nat) (ha0 : sh8 kad Z a0) (I : AI) (r : Unit × AI), f81 kad N Z a0 I = some r → aGo kad d 81 (0, ([(0, .ref a0)], [])) (aMem Z I, t) (qV Z t r) := by
  intro a0 ha0 I r h
  unfold f81 at h
  refine go_ops aMi81 1 _ (f1 := (1, ([(0, .ref a0)], [.ref a0]))) rfl ?_
  refine gg_gR (b := (a0 + 1)) aMi81 rfl rfl rfl (gR_of (sh8_z ha0) (sh8_r0 ha0)) ?_
  obtain ⟨r4_1, hxr4_1, h⟩ := Option.bind_eq_some_iff.mp h
  refine gg_cv (as := []) (r := []) aMi81 rfl rfl rfl aMi37 (Nat.le_of_ble_eq_true rfl) rfl (Nat.le_of_ble_eq_true rfl) (Nat.le_of_ble_eq_true rfl) (by omega) (isK_of (sh2_z (sh8_s0 ha0))) (Tf37 (by omega) (a0 + 1) (sh8_s0 ha0) I _ hxr4_1) ?_
  show aGo kad d 81 (7, ([(0, .ref a0)], [])) (aMem Z r4_1.2, t) _
  refine go_ops aMi81 1 _ (f1 := (8, ([(0, .ref a0)], [.ref a0]))) rfl ?_
  refine gg_gR (b := (a0 + 6)) aMi81 rfl rfl rfl (gR_of (sh8_z ha0) (sh8_r1 ha0)) ?_
  refine go_ops aMi81 1 _ (f1 := (12, ([(0, .ref a0)], [.int (0 : Int32), .ref (a0 + 6)]))) rfl ?_
  obtain ⟨r12_2, hxr12_2, h⟩ := Option.bind_eq_some_iff.mp h
  refine gg_cs (as := [.ref (a0 + 6), .int (0 : Int32)]) (r := []) aMi81 rfl rfl rfl aMi53 rfl (Nat.le_of_ble_eq_true rfl) (Nat.le_of_ble_eq_true rfl) (by omega) (Tf53 (by omega) (a0 + 6) (0 : Int32) r4_1.2 _ hxr12_2) ?_
  show aGo kad d 81 (15, ([(0, .ref a0)], [])) (aMem Z r12_2.2, t) _
  cases h
  exact go_ret aMi81 rfl rfl ⟨rfl, rfl⟩
-- KernelGym$Machine.canStep ()Z
def f82_b29 (kad : Nat → Nat) (N : Nat) (Z : AZ) (a0 : Nat) (s0 : Int32) (I : AI) : Option (Int32 × AI) :=
  if s0 = 0 ∨ s0 = 1 then some (s0, I) else none
set_option maxRecDepth 20000 in
theorem Tf82_b29 {kad : Nat → Nat} {N : Nat} {Z : AZ} {d : Nat} {t : Option Nat × (Nat × Nat)} (hd : 0 ≤ d) : ∀ (a0 : Nat) (ha0 : sh8 kad Z a0) (s0 : Int32) (I : AI) (r : Int32 × AI), f82_b29 kad N Z a0 s0 I = some r → aGo kad d 82 (29, ([], [.int s0])) (aMem Z I, t) (qI Z t r) := by
  intro a0 ha0 s0 I r h
  unfold f82_b29 at h
  split at h
  · rename_i hz
    cases h
    exact go_ret aMi82 rfl (aRetZ hz) ⟨rfl, rfl⟩
  · cases h
def f82_b28 (kad : Nat → Nat) (N : Nat) (Z : AZ) (a0 : Nat) (I : AI) : Option (Int32 × AI) :=
  f82_b29 kad N Z a0 (0 : Int32) I
set_option maxRecDepth 20000 in
theorem Tf82_b28 {kad : Nat → Nat} {N : Nat} {Z : AZ} {d : Nat} {t : Option Nat × (Nat × Nat)} (hd : 0 ≤ d) : ∀ (a0 : Nat) (ha0 : sh8 kad Z a0) (I : AI) (r : Int32 × AI), f82_b28 kad N Z a0 I = some r → aGo kad d 82 (28, ([], [])) (aMem Z I, t) (qI Z t r) := by
  intro a0 ha0 I r h
  unfold f82_b28 at h
  refine go_ops aMi82 1 _ (f1 := (29, ([], [.int (0 : Int32)]))) rfl ?_
  exact Tf82_b29 hd a0 ha0 (0 : Int32) I _ h
def f82 (kad : Nat → Nat) (N : Nat) (Z : AZ) (a0 : Nat) (I : AI) : Option (Int32 × AI) :=
  if ¬ (I (a0 + 1) 0) = (1 : Int32) then
    f82_b28 kad N Z a0 I
  else
    if (1000 : Int32) ≤ (I (a0 + 1) 2) then
      f82_b28 kad N Z a0 I
    else
      f82_b29 kad N Z a0 (1 : Int32) I
set_option maxRecDepth 20000 in
theorem Tf82 {kad : Nat → Nat} {N : Nat} {Z : AZ} {d : Nat} {t : Option Nat × (Nat × Nat)} (hd : 0 ≤ d) : ∀ (a0 : Nat) (ha0 : sh8 kad Z a0) (I : AI) (r : Int32 × AI), f82 kad N Z a0 I = some r → aGo kad d 82 (0, ([(0, .ref a0)], [])) (aMem Z I, t) (qI Z t r) := by
  intro a0 ha0 I r h
  unfold f82 at h
  refine go_ops aMi82 1 _ (f1 := (1, ([(0, .ref a0)], [.ref a0]))) rfl ?_
  refine gg_gR (b := (a0 + 1)) aMi82 rfl rfl rfl (gR_of (sh8_z ha0) (sh8_r0 ha0)) ?_
  refine gg_gI aMi82 rfl rfl rfl (gI_of (sh2_z (sh8_s0 ha0))) ?_
  refine go_ops aMi82 1 _ (f1 := (8, ([(0, .ref a0)], [.int (1 : Int32), .int (I (a0 + 1) 0)]))) rfl ?_
  refine gg_br (b := decide (¬ (I (a0 + 1) 0) = (1 : Int32))) (tg := 28) (off := 20) aMi82 rfl rfl rfl rfl (fun hb => ?_) (fun hb => ?_)
  · rw [if_pos (of_decide_eq_true hb)] at h
    refine go_le (lv1 := []) (aLe_of (show (List.map (fun q => q.1) ([] : ALv)).Nodup from (by show ([] : List Nat).Nodup; decide)) aSubL_nil) ?_
    exact Tf82_b28 hd a0 ha0 I _ h
  · rw [if_neg (of_decide_eq_false hb)] at h
    refine go_ops aMi82 1 _ (f1 := (12, ([(0, .ref a0)], [.ref a0]))) rfl ?_
    refine gg_gR (b := (a0 + 1)) aMi82 rfl rfl rfl (gR_of (sh8_z ha0) (sh8_r0 ha0)) ?_
    refine gg_gI aMi82 rfl rfl rfl (gI_of (sh2_z (sh8_s0 ha0))) ?_
    refine go_ops aMi82 1 _ (f1 := (21, ([(0, .ref a0)], [.int (1000 : Int32), .int (I (a0 + 1) 2)]))) rfl ?_
    refine gg_br (b := decide ((1000 : Int32) ≤ (I (a0 + 1) 2))) (tg := 28) (off := 7) aMi82 rfl rfl rfl rfl (fun hb => ?_) (fun hb => ?_)
    · rw [if_pos (of_decide_eq_true hb)] at h
      refine go_le (lv1 := []) (aLe_of (show (List.map (fun q => q.1) ([] : ALv)).Nodup from (by show ([] : List Nat).Nodup; decide)) aSubL_nil) ?_
      exact Tf82_b28 hd a0 ha0 I _ h
    · rw [if_neg (of_decide_eq_false hb)] at h
      refine go_ops aMi82 2 _ (f1 := (29, ([(0, .ref a0)], [.int (1 : Int32)]))) rfl ?_
      refine go_le (lv1 := []) (aLe_of (show (List.map (fun q => q.1) ([] : ALv)).Nodup from (by show ([] : List Nat).Nodup; decide)) aSubL_nil) ?_
      exact Tf82_b29 hd a0 ha0 (1 : Int32) I _ h
-- KernelGym$Machine.writeBlock (I[II)V
def f110 (kad : Nat → Nat) (N : Nat) (Z : AZ) (a0 : Nat) (i1 : Int32) (b2 : Nat) (i3 : Int32) (I : AI) : Option (Unit × AI) :=
  (f69 kad N Z (Z.2.1 a0 7 (I a0 7)) i1 (a0 + 8) I).bind fun r9_1 =>
  (f44 kad N Z (a0 + 8) i1 b2 i3 r9_1.2).bind fun r19_2 =>
  some ((), r19_2.2)
set_option maxRecDepth 20000 in
theorem Tf110 {kad : Nat → Nat} {N : Nat} {Z : AZ} {d : Nat} {t : Option Nat × (Nat × Nat)} (hd : 2 ≤ d) : ∀ (a0 : Nat) (ha0 : sh8 kad Z a0) (i1 : Int32) (b2 : Nat) (i3 : Int32) (I : AI) (r : Unit × AI), f110 kad N Z a0 i1 b2 i3 I = some r → aGo kad d 110 (0, ([(0, .ref a0), (1, .int i1), (2, .ref b2), (3, .int i3)], [])) (aMem Z I, t) (qV Z t r) := by
  intro a0 ha0 i1 b2 i3 I r h
  unfold f110 at h
  refine go_ops aMi110 1 _ (f1 := (1, ([(0, .ref a0), (1, .int i1), (2, .ref b2), (3, .int i3)], [.ref a0]))) rfl ?_
  refine gg_gR (b := (Z.2.1 a0 7 (I a0 7))) aMi110 rfl rfl rfl (gR_of2 (sh8_z ha0) rfl) ?_
  refine go_ops aMi110 2 _ (f1 := (6, ([(0, .ref a0), (1, .int i1), (2, .ref b2), (3, .int i3)], [.ref a0, .int i1, .ref (Z.2.1 a0 7 (I a0 7))]))) rfl ?_
  refine gg_gR (b := (a0 + 8)) aMi110 rfl rfl rfl (gR_of (sh8_z ha0) (sh8_r3 ha0)) ?_
  obtain ⟨r9_1, hxr9_1, h⟩ := Option.bind_eq_some_iff.mp h
  refine gg_cv (as := [.int i1, .ref (a0 + 8)]) (r := []) aMi110 rfl rfl rfl aMi69 (Nat.le_of_ble_eq_true rfl) rfl (Nat.le_of_ble_eq_true rfl) (Nat.le_of_ble_eq_true rfl) (by omega) (isK_of (sh5_z (sh8_k ha0 _))) (Tf69 (by omega) (Z.2.1 a0 7 (I a0 7)) (sh8_k ha0 _) i1 (a0 + 8) (sh8_s3 ha0) I _ hxr9_1) ?_
  show aGo kad d 110 (12, ([(0, .ref a0), (1, .int i1), (2, .ref b2), (3, .int i3)], [])) (aMem Z r9_1.2, t) _
  refine go_ops aMi110 1 _ (f1 := (13, ([(0, .ref a0), (1, .int i1), (2, .ref b2), (3, .int i3)], [.ref a0]))) rfl ?_
  refine gg_gR (b := (a0 + 8)) aMi110 rfl rfl rfl (gR_of (sh8_z ha0) (sh8_r3 ha0)) ?_
  refine go_ops aMi110 3 _ (f1 := (19, ([(0, .ref a0), (1, .int i1), (2, .ref b2), (3, .int i3)], [.int i3, .ref b2, .int i1, .ref (a0 + 8)]))) rfl ?_
  obtain ⟨r19_2, hxr19_2, h⟩ := Option.bind_eq_some_iff.mp h
  refine gg_cv (as := [.int i1, .ref b2, .int i3]) (r := []) aMi110 rfl rfl rfl aMi44 (Nat.le_of_ble_eq_true rfl) rfl (Nat.le_of_ble_eq_true rfl) (Nat.le_of_ble_eq_true rfl) (by omega) (isK_of (sh3_z (sh8_s3 ha0))) (Tf44 (by omega) (a0 + 8) (sh8_s3 ha0) i1 b2 i3 r9_1.2 _ hxr19_2) ?_
  show aGo kad d 110 (22, ([(0, .ref a0), (1, .int i1), (2, .ref b2), (3, .int i3)], [])) (aMem Z r19_2.2, t) _
  cases h
  exact go_ret aMi110 rfl rfl ⟨rfl, rfl⟩
-- KernelGym$Machine.goOn ()V
def f88 (kad : Nat → Nat) (N : Nat) (Z : AZ) (a0 : Nat) (I : AI) : Option (Unit × AI) :=
  (wI I (a0 + 1) 3 ((I (a0 + 1) 3) + (2 : Int32))).bind fun I10_1 =>
  some ((), I10_1)
set_option maxRecDepth 20000 in
theorem Tf88 {kad : Nat → Nat} {N : Nat} {Z : AZ} {d : Nat} {t : Option Nat × (Nat × Nat)} (hd : 0 ≤ d) : ∀ (a0 : Nat) (ha0 : sh8 kad Z a0) (I : AI) (r : Unit × AI), f88 kad N Z a0 I = some r → aGo kad d 88 (0, ([(0, .ref a0)], [])) (aMem Z I, t) (qV Z t r) := by
  intro a0 ha0 I r h
  unfold f88 at h
  refine go_ops aMi88 1 _ (f1 := (1, ([(0, .ref a0)], [.ref a0]))) rfl ?_
  refine gg_gR (b := (a0 + 1)) aMi88 rfl rfl rfl (gR_of (sh8_z ha0) (sh8_r0 ha0)) ?_
  refine go_ops aMi88 1 _ (f1 := (5, ([(0, .ref a0)], [.ref (a0 + 1), .ref (a0 + 1)]))) rfl ?_
  refine gg_gI aMi88 rfl rfl rfl (gI_of (sh2_z (sh8_s0 ha0))) ?_
  refine go_ops aMi88 2 _ (f1 := (10, ([(0, .ref a0)], [.int ((I (a0 + 1) 3) + (2 : Int32)), .ref (a0 + 1)]))) rfl ?_
  obtain ⟨I10_1, hxI10_1, h⟩ := Option.bind_eq_some_iff.mp h
  refine gg_pI aMi88 rfl rfl rfl rfl (by decide) (pI_of (sh2_z (sh8_s0 ha0)) hxI10_1) ?_
  cases h
  exact go_ret aMi88 rfl rfl ⟨rfl, rfl⟩
-- KernelGym$Machine.writeNextBlock ()V
def f109_b170 (kad : Nat → Nat) (N : Nat) (Z : AZ) (a0 : Nat) (I : AI) : Option (Unit × AI) :=
  some ((), I)
set_option maxRecDepth 20000 in
theorem Tf109_b170 {kad : Nat → Nat} {N : Nat} {Z : AZ} {d : Nat} {t : Option Nat × (Nat × Nat)} (hd : 3 ≤ d) : ∀ (a0 : Nat) (ha0 : sh8 kad Z a0) (I : AI) (r : Unit × AI), f109_b170 kad N Z a0 I = some r → aGo kad d 109 (170, ([], [])) (aMem Z I, t) (qV Z t r) := by
  intro a0 ha0 I r h
  unfold f109_b170 at h
  cases h
  exact go_ret aMi109 rfl rfl ⟨rfl, rfl⟩
def f109_b135 (kad : Nat → Nat) (N : Nat) (Z : AZ) (a0 : Nat) (I : AI) : Option (Unit × AI) :=
  (wI I (a0 + 3) 1 ((I (a0 + 3) 1) + (1 : Int32))).bind fun I142_1 =>
  (f63 kad N Z (a0 + 3) I142_1).bind fun r146_2 =>
  if ¬ r146_2.1 = 0 then
    f109_b170 kad N Z a0 r146_2.2
  else
    (f61 kad N Z (a0 + 3) r146_2.2).bind fun r153_3 =>
    (ixA 4 (3 : Int32)).bind fun j165_5 =>
    (wI r153_3.2 (a0 + 2) j165_5 (0 : Int32)).bind fun I165_4 =>
    (f88 kad N Z a0 I165_4).bind fun r167_6 =>
    f109_b170 kad N Z a0 r167_6.2
set_option maxRecDepth 20000 in
theorem Tf109_b135 {kad : Nat → Nat} {N : Nat} {Z : AZ} {d : Nat} {t : Option Nat × (Nat × Nat)} (hd : 3 ≤ d) : ∀ (a0 : Nat) (ha0 : sh8 kad Z a0) (I : AI) (r : Unit × AI), f109_b135 kad N Z a0 I = some r → aGo kad d 109 (135, ([(0, .ref a0), (1, .ref (a0 + 3))], [])) (aMem Z I, t) (qV Z t r) := by
  intro a0 ha0 I r h
  unfold f109_b135 at h
  refine go_ops aMi109 2 _ (f1 := (137, ([(0, .ref a0), (1, .ref (a0 + 3))], [.ref (a0 + 3), .ref (a0 + 3)]))) rfl ?_
  refine gg_gI aMi109 rfl rfl rfl (gI_of (sh4_z (sh2_s15 (sh8_s0 ha0)))) ?_
  refine go_ops aMi109 2 _ (f1 := (142, ([(0, .ref a0), (1, .ref (a0 + 3))], [.int ((I (a0 + 3) 1) + (1 : Int32)), .ref (a0 + 3)]))) rfl ?_
  obtain ⟨I142_1, hxI142_1, h⟩ := Option.bind_eq_some_iff.mp h
  refine gg_pI aMi109 rfl rfl rfl rfl (by decide) (pI_of (sh4_z (sh2_s15 (sh8_s0 ha0))) hxI142_1) ?_
  refine go_ops aMi109 1 _ (f1 := (146, ([(0, .ref a0), (1, .ref (a0 + 3))], [.ref (a0 + 3)]))) rfl ?_
  obtain ⟨r146_2, hxr146_2, h⟩ := Option.bind_eq_some_iff.mp h
  refine gg_cv (as := []) (r := []) aMi109 rfl rfl rfl aMi63 (Nat.le_of_ble_eq_true rfl) rfl (Nat.le_of_ble_eq_true rfl) (Nat.le_of_ble_eq_true rfl) (by omega) (isK_of (sh4_z (sh2_s15 (sh8_s0 ha0)))) (Tf63 (by omega) (a0 + 3) (sh2_s15 (sh8_s0 ha0)) I142_1 _ hxr146_2) ?_
  show aGo kad d 109 (149, ([(0, .ref a0), (1, .ref (a0 + 3))], [.int r146_2.1])) (aMem Z r146_2.2, t) _
  refine gg_br (b := decide (¬ r146_2.1 = 0)) (tg := 170) (off := 21) aMi109 rfl rfl rfl rfl (fun hb => ?_) (fun hb => ?_)
  · rw [if_pos (of_decide_eq_true hb)] at h
    refine go_le (lv1 := []) (aLe_of (show (List.map (fun q => q.1) ([] : ALv)).Nodup from (by show ([] : List Nat).Nodup; decide)) aSubL_nil) ?_
    exact Tf109_b170 hd a0 ha0 r146_2.2 _ h
  · rw [if_neg (of_decide_eq_false hb)] at h
    refine go_ops aMi109 1 _ (f1 := (153, ([(0, .ref a0), (1, .ref (a0 + 3))], [.ref (a0 + 3)]))) rfl ?_
    obtain ⟨r153_3, hxr153_3, h⟩ := Option.bind_eq_some_iff.mp h
    refine gg_cv (as := []) (r := []) aMi109 rfl rfl rfl aMi61 (Nat.le_of_ble_eq_true rfl) rfl (Nat.le_of_ble_eq_true rfl) (Nat.le_of_ble_eq_true rfl) (by omega) (isK_of (sh4_z (sh2_s15 (sh8_s0 ha0)))) (Tf61 (by omega) (a0 + 3) (sh2_s15 (sh8_s0 ha0)) r146_2.2 _ hxr153_3) ?_
    show aGo kad d 109 (156, ([(0, .ref a0), (1, .ref (a0 + 3))], [])) (aMem Z r153_3.2, t) _
    refine go_ops aMi109 1 _ (f1 := (157, ([(0, .ref a0), (1, .ref (a0 + 3))], [.ref a0]))) rfl ?_
    refine gg_gR (b := (a0 + 1)) aMi109 rfl rfl rfl (gR_of (sh8_z ha0) (sh8_r0 ha0)) ?_
    refine gg_gR (b := (a0 + 2)) aMi109 rfl rfl rfl (gR_of (sh2_z (sh8_s0 ha0)) (sh2_r14 (sh8_s0 ha0))) ?_
    refine go_ops aMi109 2 _ (f1 := (165, ([(0, .ref a0), (1, .ref (a0 + 3))], [.int (0 : Int32), .int (3 : Int32), .ref (a0 + 2)]))) rfl ?_
    obtain ⟨j165_5, hxj165_5, h⟩ := Option.bind_eq_some_iff.mp h
    obtain ⟨I165_4, hxI165_4, h⟩ := Option.bind_eq_some_iff.mp h
    refine gg_sI (Or.inl ⟨rfl, rfl⟩) aMi109 rfl (sI_of (sh2_a14 (sh8_s0 ha0)) hxj165_5 hxI165_4) ?_
    refine go_ops aMi109 1 _ (f1 := (167, ([(0, .ref a0), (1, .ref (a0 + 3))], [.ref a0]))) rfl ?_
    obtain ⟨r167_6, hxr167_6, h⟩ := Option.bind_eq_some_iff.mp h
    refine gg_cv (as := []) (r := []) aMi109 rfl rfl rfl aMi88 (Nat.le_of_ble_eq_true rfl) rfl (Nat.le_of_ble_eq_true rfl) (Nat.le_of_ble_eq_true rfl) (by omega) (isK_of (sh8_z ha0)) (Tf88 (by omega) a0 ha0 I165_4 _ hxr167_6) ?_
    show aGo kad d 109 (170, ([(0, .ref a0), (1, .ref (a0 + 3))], [])) (aMem Z r167_6.2, t) _
    refine go_le (lv1 := []) (aLe_of (show (List.map (fun q => q.1) ([] : ALv)).Nodup from (by show ([] : List Nat).Nodup; decide)) aSubL_nil) ?_
    exact Tf109_b170 hd a0 ha0 r167_6.2 _ h
def f109_b114 (kad : Nat → Nat) (N : Nat) (Z : AZ) (a0 : Nat) (I : AI) : Option (Unit × AI) :=
  f109_b135 kad N Z a0 I
set_option maxRecDepth 20000 in
theorem Tf109_b114 {kad : Nat → Nat} {N : Nat} {Z : AZ} {d : Nat} {t : Option Nat × (Nat × Nat)} (hd : 3 ≤ d) : ∀ (a0 : Nat) (ha0 : sh8 kad Z a0) (I : AI) (r : Unit × AI), f109_b114 kad N Z a0 I = some r → aGo kad d 109 (114, ([(0, .ref a0), (1, .ref (a0 + 3))], [])) (aMem Z I, t) (qV Z t r) := by
  intro a0 ha0 I r h
  unfold f109_b114 at h
  refine go_ops aMi109 1 _ (f1 := (135, ([(0, .ref a0), (1, .ref (a0 + 3))], []))) rfl ?_
  exact Tf109_b135 hd a0 ha0 I _ h
def f109 (kad : Nat → Nat) (N : Nat) (Z : AZ) (a0 : Nat) (I : AI) : Option (Unit × AI) :=
  if (I (a0 + 3) 0) ≤ (I (a0 + 3) 1) then
    if ¬ (I (a0 + 3) 1) = (I (a0 + 3) 0) then
      if ((2 : Int32) * (I (a0 + 3) 0)) < (I (a0 + 3) 1) then
        (f53 kad N Z (a0 + 16) (0 : Int32) I).bind fun r122_1 =>
        (f110 kad N Z a0 (0 : Int32) (a0 + 16) (0 : Int32) r122_1.2).bind fun r132_2 =>
        f109_b135 kad N Z a0 r132_2.2
      else
        if (((I (a0 + 3) 1) - (I (a0 + 3) 0)) - (1 : Int32)) < 0 then
          f109_b114 kad N Z a0 I
        else
          if (3 : Int32) ≤ (((I (a0 + 3) 1) - (I (a0 + 3) 0)) - (1 : Int32)) then
            f109_b114 kad N Z a0 I
          else
            (ixA 3 (((I (a0 + 3) 1) - (I (a0 + 3) 0)) - (1 : Int32))).bind fun j102_3 =>
            (f110 kad N Z a0 (I (a0 + 4) j102_3) (a0 + 5) ((((I (a0 + 3) 1) - (I (a0 + 3) 0)) - (1 : Int32)) * (8 : Int32)) I).bind fun r111_4 =>
            f109_b114 kad N Z a0 r111_4.2
    else
      (f65 kad N Z (a0 + 3) (a0 + 16) I).bind fun r52_5 =>
      (f110 kad N Z a0 (0 : Int32) (a0 + 16) (0 : Int32) r52_5.2).bind fun r62_6 =>
      f109_b135 kad N Z a0 r62_6.2
  else
    (f110 kad N Z a0 ((1 : Int32) + (I (a0 + 3) 1)) (a0 + 5) ((I (a0 + 3) 1) * (8 : Int32)) I).bind fun r33_7 =>
    f109_b135 kad N Z a0 r33_7.2
set_option maxRecDepth 20000 in
theorem Tf109 {kad : Nat → Nat} {N : Nat} {Z : AZ} {d : Nat} {t : Option Nat × (Nat × Nat)} (hd : 3 ≤ d) : ∀ (a0 : Nat) (ha0 : sh8 kad Z a0) (I : AI) (r : Unit × AI), f109 kad N Z a0 I = some r → aGo kad d 109 (0, ([(0, .ref a0)], [])) (aMem Z I, t) (qV Z t r) := by
  intro a0 ha0 I r h
  unfold f109 at h
  refine go_ops aMi109 1 _ (f1 := (1, ([(0, .ref a0)], [.ref a0]))) rfl ?_
  refine gg_gR (b := (a0 + 1)) aMi109 rfl rfl rfl (gR_of (sh8_z ha0) (sh8_r0 ha0)) ?_
  refine gg_gR (b := (a0 + 3)) aMi109 rfl rfl rfl (gR_of (sh2_z (sh8_s0 ha0)) (sh2_r15 (sh8_s0 ha0))) ?_
  refine go_ops aMi109 2 _ (f1 := (9, ([(1, .ref (a0 + 3)), (0, .ref a0)], [.ref (a0 + 3)]))) rfl ?_
  refine gg_gI aMi109 rfl rfl rfl (gI_of (sh4_z (sh2_s15 (sh8_s0 ha0)))) ?_
  refine go_ops aMi109 3 _ (f1 := (15, ([(2, .int (I (a0 + 3) 1)), (1, .ref (a0 + 3)), (0, .ref a0)], [.ref (a0 + 3), .int (I (a0 + 3) 1)]))) rfl ?_
  refine gg_gI aMi109 rfl rfl rfl (gI_of (sh4_z (sh2_s15 (sh8_s0 ha0)))) ?_
  refine gg_br (b := decide ((I (a0 + 3) 0) ≤ (I (a0 + 3) 1))) (tg := 39) (off := 21) aMi109 rfl rfl rfl rfl (fun hb => ?_) (fun hb => ?_)
  · rw [if_pos (of_decide_eq_true hb)] at h
    refine go_ops aMi109 2 _ (f1 := (41, ([(2, .int (I (a0 + 3) 1)), (1, .ref (a0 + 3)), (0, .ref a0)], [.ref (a0 + 3), .int (I (a0 + 3) 1)]))) rfl ?_
    refine gg_gI aMi109 rfl rfl rfl (gI_of (sh4_z (sh2_s15 (sh8_s0 ha0)))) ?_
    refine gg_br (b := decide (¬ (I (a0 + 3) 1) = (I (a0 + 3) 0))) (tg := 68) (off := 24) aMi109 rfl rfl rfl rfl (fun hb => ?_) (fun hb => ?_)
    · rw [if_pos (of_decide_eq_true hb)] at h
      refine go_ops aMi109 3 _ (f1 := (71, ([(2, .int (I (a0 + 3) 1)), (1, .ref (a0 + 3)), (0, .ref a0)], [.ref (a0 + 3), .int (2 : Int32), .int (I (a0 + 3) 1)]))) rfl ?_
      refine gg_gI aMi109 rfl rfl rfl (gI_of (sh4_z (sh2_s15 (sh8_s0 ha0)))) ?_
      refine go_ops aMi109 1 _ (f1 := (75, ([(2, .int (I (a0 + 3) 1)), (1, .ref (a0 + 3)), (0, .ref a0)], [.int ((2 : Int32) * (I (a0 + 3) 0)), .int (I (a0 + 3) 1)]))) rfl ?_
      refine gg_br (b := decide (((2 : Int32) * (I (a0 + 3) 0)) < (I (a0 + 3) 1))) (tg := 117) (off := 42) aMi109 rfl rfl rfl rfl (fun hb => ?_) (fun hb => ?_)
      · rw [if_pos (of_decide_eq_true hb)] at h
        refine go_ops aMi109 1 _ (f1 := (118, ([(2, .int (I (a0 + 3) 1)), (1, .ref (a0 + 3)), (0, .ref a0)], [.ref a0]))) rfl ?_
        refine gg_gR (b := (a0 + 16)) aMi109 rfl rfl rfl (gR_of (sh8_z ha0) (sh8_r6 ha0)) ?_
        refine go_ops aMi109 1 _ (f1 := (122, ([(2, .int (I (a0 + 3) 1)), (1, .ref (a0 + 3)), (0, .ref a0)], [.int (0 : Int32), .ref (a0 + 16)]))) rfl ?_
        obtain ⟨r122_1, hxr122_1, h⟩ := Option.bind_eq_some_iff.mp h
        refine gg_cs (as := [.ref (a0 + 16), .int (0 : Int32)]) (r := []) aMi109 rfl rfl rfl aMi53 rfl (Nat.le_of_ble_eq_true rfl) (Nat.le_of_ble_eq_true rfl) (by omega) (Tf53 (by omega) (a0 + 16) (0 : Int32) I _ hxr122_1) ?_
        show aGo kad d 109 (125, ([(2, .int (I (a0 + 3) 1)), (1, .ref (a0 + 3)), (0, .ref a0)], [])) (aMem Z r122_1.2, t) _
        refine go_ops aMi109 3 _ (f1 := (128, ([(2, .int (I (a0 + 3) 1)), (1, .ref (a0 + 3)), (0, .ref a0)], [.ref a0, .int (0 : Int32), .ref a0]))) rfl ?_
        refine gg_gR (b := (a0 + 16)) aMi109 rfl rfl rfl (gR_of (sh8_z ha0) (sh8_r6 ha0)) ?_
        refine go_ops aMi109 1 _ (f1 := (132, ([(2, .int (I (a0 + 3) 1)), (1, .ref (a0 + 3)), (0, .ref a0)], [.int (0 : Int32), .ref (a0 + 16), .int (0 : Int32), .ref a0]))) rfl ?_
        obtain ⟨r132_2, hxr132_2, h⟩ := Option.bind_eq_some_iff.mp h
        refine gg_cv (as := [.int (0 : Int32), .ref (a0 + 16), .int (0 : Int32)]) (r := []) aMi109 rfl rfl rfl aMi110 (Nat.le_of_ble_eq_true rfl) rfl (Nat.le_of_ble_eq_true rfl) (Nat.le_of_ble_eq_true rfl) (by omega) (isK_of (sh8_z ha0)) (Tf110 (by omega) a0 ha0 (0 : Int32) (a0 + 16) (0 : Int32) r122_1.2 _ hxr132_2) ?_
        show aGo kad d 109 (135, ([(2, .int (I (a0 + 3) 1)), (1, .ref (a0 + 3)), (0, .ref a0)], [])) (aMem Z r132_2.2, t) _
        refine go_le (lv1 := [(0, .ref a0), (1, .ref (a0 + 3))]) (aLe_of (show (List.map (fun q => q.1) ([(0, .ref a0), (1, .ref (a0 + 3))] : ALv)).Nodup from (by show ([0, 1] : List Nat).Nodup; decide)) (aSubL_cons rfl (aSubL_cons rfl aSubL_nil))) ?_
        exact Tf109_b135 hd a0 ha0 r132_2.2 _ h
      · rw [if_neg (of_decide_eq_false hb)] at h
        refine go_ops aMi109 2 _ (f1 := (80, ([(2, .int (I (a0 + 3) 1)), (1, .ref (a0 + 3)), (0, .ref a0)], [.ref (a0 + 3), .int (I (a0 + 3) 1)]))) rfl ?_
        refine gg_gI aMi109 rfl rfl rfl (gI_of (sh4_z (sh2_s15 (sh8_s0 ha0)))) ?_
        refine go_ops aMi109 5 _ (f1 := (88, ([(3, .int (((I (a0 + 3) 1) - (I (a0 + 3) 0)) - (1 : Int32))), (2, .int (I (a0 + 3) 1)), (1, .ref (a0 + 3)), (0, .ref a0)], [.int (((I (a0 + 3) 1) - (I (a0 + 3) 0)) - (1 : Int32))]))) rfl ?_
        refine gg_br (b := decide ((((I (a0 + 3) 1) - (I (a0 + 3) 0)) - (1 : Int32)) < 0)) (tg := 114) (off := 26) aMi109 rfl rfl rfl rfl (fun hb => ?_) (fun hb => ?_)
        · rw [if_pos (of_decide_eq_true hb)] at h
          refine go_le (lv1 := [(0, .ref a0), (1, .ref (a0 + 3))]) (aLe_of (show (List.map (fun q => q.1) ([(0, .ref a0), (1, .ref (a0 + 3))] : ALv)).Nodup from (by show ([0, 1] : List Nat).Nodup; decide)) (aSubL_cons rfl (aSubL_cons rfl aSubL_nil))) ?_
          exact Tf109_b114 hd a0 ha0 I _ h
        · rw [if_neg (of_decide_eq_false hb)] at h
          refine go_ops aMi109 2 _ (f1 := (93, ([(3, .int (((I (a0 + 3) 1) - (I (a0 + 3) 0)) - (1 : Int32))), (2, .int (I (a0 + 3) 1)), (1, .ref (a0 + 3)), (0, .ref a0)], [.int (3 : Int32), .int (((I (a0 + 3) 1) - (I (a0 + 3) 0)) - (1 : Int32))]))) rfl ?_
          refine gg_br (b := decide ((3 : Int32) ≤ (((I (a0 + 3) 1) - (I (a0 + 3) 0)) - (1 : Int32)))) (tg := 114) (off := 21) aMi109 rfl rfl rfl rfl (fun hb => ?_) (fun hb => ?_)
          · rw [if_pos (of_decide_eq_true hb)] at h
            refine go_le (lv1 := [(0, .ref a0), (1, .ref (a0 + 3))]) (aLe_of (show (List.map (fun q => q.1) ([(0, .ref a0), (1, .ref (a0 + 3))] : ALv)).Nodup from (by show ([0, 1] : List Nat).Nodup; decide)) (aSubL_cons rfl (aSubL_cons rfl aSubL_nil))) ?_
            exact Tf109_b114 hd a0 ha0 I _ h
          · rw [if_neg (of_decide_eq_false hb)] at h
            refine go_ops aMi109 2 _ (f1 := (98, ([(3, .int (((I (a0 + 3) 1) - (I (a0 + 3) 0)) - (1 : Int32))), (2, .int (I (a0 + 3) 1)), (1, .ref (a0 + 3)), (0, .ref a0)], [.ref (a0 + 3), .ref a0]))) rfl ?_
            refine gg_gR (b := (a0 + 4)) aMi109 rfl rfl rfl (gR_of (sh4_z (sh2_s15 (sh8_s0 ha0))) (sh4_r2 (sh2_s15 (sh8_s0 ha0)))) ?_
            refine go_ops aMi109 1 _ (f1 := (102, ([(3, .int (((I (a0 + 3) 1) - (I (a0 + 3) 0)) - (1 : Int32))), (2, .int (I (a0 + 3) 1)), (1, .ref (a0 + 3)), (0, .ref a0)], [.int (((I (a0 + 3) 1) - (I (a0 + 3) 0)) - (1 : Int32)), .ref (a0 + 4), .ref a0]))) rfl ?_
            obtain ⟨j102_3, hxj102_3, h⟩ := Option.bind_eq_some_iff.mp h
            refine gg_lI (Or.inl ⟨rfl, rfl⟩) aMi109 rfl (lI_of (sh4_a2 (sh2_s15 (sh8_s0 ha0))) hxj102_3) ?_
            refine go_ops aMi109 1 _ (f1 := (104, ([(3, .int (((I (a0 + 3) 1) - (I (a0 + 3) 0)) - (1 : Int32))), (2, .int (I (a0 + 3) 1)), (1, .ref (a0 + 3)), (0, .ref a0)], [.ref (a0 + 3), .int (I (a0 + 4) j102_3), .ref a0]))) rfl ?_
            refine gg_gR (b := (a0 + 5)) aMi109 rfl rfl rfl (gR_of (sh4_z (sh2_s15 (sh8_s0 ha0))) (sh4_r3 (sh2_s15 (sh8_s0 ha0)))) ?_
            refine go_ops aMi109 3 _ (f1 := (111, ([(3, .int (((I (a0 + 3) 1) - (I (a0 + 3) 0)) - (1 : Int32))), (2, .int (I (a0 + 3) 1)), (1, .ref (a0 + 3)), (0, .ref a0)], [.int ((((I (a0 + 3) 1) - (I (a0 + 3) 0)) - (1 : Int32)) * (8 : Int32)), .ref (a0 + 5), .int (I (a0 + 4) j102_3), .ref a0]))) rfl ?_
            obtain ⟨r111_4, hxr111_4, h⟩ := Option.bind_eq_some_iff.mp h
            refine gg_cv (as := [.int (I (a0 + 4) j102_3), .ref (a0 + 5), .int ((((I (a0 + 3) 1) - (I (a0 + 3) 0)) - (1 : Int32)) * (8 : Int32))]) (r := []) aMi109 rfl rfl rfl aMi110 (Nat.le_of_ble_eq_true rfl) rfl (Nat.le_of_ble_eq_true rfl) (Nat.le_of_ble_eq_true rfl) (by omega) (isK_of (sh8_z ha0)) (Tf110 (by omega) a0 ha0 (I (a0 + 4) j102_3) (a0 + 5) ((((I (a0 + 3) 1) - (I (a0 + 3) 0)) - (1 : Int32)) * (8 : Int32)) I _ hxr111_4) ?_
            show aGo kad d 109 (114, ([(3, .int (((I (a0 + 3) 1) - (I (a0 + 3) 0)) - (1 : Int32))), (2, .int (I (a0 + 3) 1)), (1, .ref (a0 + 3)), (0, .ref a0)], [])) (aMem Z r111_4.2, t) _
            refine go_le (lv1 := [(0, .ref a0), (1, .ref (a0 + 3))]) (aLe_of (show (List.map (fun q => q.1) ([(0, .ref a0), (1, .ref (a0 + 3))] : ALv)).Nodup from (by show ([0, 1] : List Nat).Nodup; decide)) (aSubL_cons rfl (aSubL_cons rfl aSubL_nil))) ?_
            exact Tf109_b114 hd a0 ha0 r111_4.2 _ h
    · rw [if_neg (of_decide_eq_false hb)] at h
      refine go_ops aMi109 2 _ (f1 := (49, ([(2, .int (I (a0 + 3) 1)), (1, .ref (a0 + 3)), (0, .ref a0)], [.ref a0, .ref (a0 + 3)]))) rfl ?_
      refine gg_gR (b := (a0 + 16)) aMi109 rfl rfl rfl (gR_of (sh8_z ha0) (sh8_r6 ha0)) ?_
      obtain ⟨r52_5, hxr52_5, h⟩ := Option.bind_eq_some_iff.mp h
      refine gg_cv (as := [.ref (a0 + 16)]) (r := []) aMi109 rfl rfl rfl aMi65 (Nat.le_of_ble_eq_true rfl) rfl (Nat.le_of_ble_eq_true rfl) (Nat.le_of_ble_eq_true rfl) (by omega) (isK_of (sh4_z (sh2_s15 (sh8_s0 ha0)))) (Tf65 (by omega) (a0 + 3) (sh2_s15 (sh8_s0 ha0)) (a0 + 16) I _ hxr52_5) ?_
      show aGo kad d 109 (55, ([(2, .int (I (a0 + 3) 1)), (1, .ref (a0 + 3)), (0, .ref a0)], [])) (aMem Z r52_5.2, t) _
      refine go_ops aMi109 3 _ (f1 := (58, ([(2, .int (I (a0 + 3) 1)), (1, .ref (a0 + 3)), (0, .ref a0)], [.ref a0, .int (0 : Int32), .ref a0]))) rfl ?_
      refine gg_gR (b := (a0 + 16)) aMi109 rfl rfl rfl (gR_of (sh8_z ha0) (sh8_r6 ha0)) ?_
      refine go_ops aMi109 1 _ (f1 := (62, ([(2, .int (I (a0 + 3) 1)), (1, .ref (a0 + 3)), (0, .ref a0)], [.int (0 : Int32), .ref (a0 + 16), .int (0 : Int32), .ref a0]))) rfl ?_
      obtain ⟨r62_6, hxr62_6, h⟩ := Option.bind_eq_some_iff.mp h
      refine gg_cv (as := [.int (0 : Int32), .ref (a0 + 16), .int (0 : Int32)]) (r := []) aMi109 rfl rfl rfl aMi110 (Nat.le_of_ble_eq_true rfl) rfl (Nat.le_of_ble_eq_true rfl) (Nat.le_of_ble_eq_true rfl) (by omega) (isK_of (sh8_z ha0)) (Tf110 (by omega) a0 ha0 (0 : Int32) (a0 + 16) (0 : Int32) r52_5.2 _ hxr62_6) ?_
      show aGo kad d 109 (65, ([(2, .int (I (a0 + 3) 1)), (1, .ref (a0 + 3)), (0, .ref a0)], [])) (aMem Z r62_6.2, t) _
      refine go_ops aMi109 1 _ (f1 := (135, ([(2, .int (I (a0 + 3) 1)), (1, .ref (a0 + 3)), (0, .ref a0)], []))) rfl ?_
      refine go_le (lv1 := [(0, .ref a0), (1, .ref (a0 + 3))]) (aLe_of (show (List.map (fun q => q.1) ([(0, .ref a0), (1, .ref (a0 + 3))] : ALv)).Nodup from (by show ([0, 1] : List Nat).Nodup; decide)) (aSubL_cons rfl (aSubL_cons rfl aSubL_nil))) ?_
      exact Tf109_b135 hd a0 ha0 r62_6.2 _ h
  · rw [if_neg (of_decide_eq_false hb)] at h
    refine go_ops aMi109 5 _ (f1 := (26, ([(2, .int (I (a0 + 3) 1)), (1, .ref (a0 + 3)), (0, .ref a0)], [.ref (a0 + 3), .int ((1 : Int32) + (I (a0 + 3) 1)), .ref a0]))) rfl ?_
    refine gg_gR (b := (a0 + 5)) aMi109 rfl rfl rfl (gR_of (sh4_z (sh2_s15 (sh8_s0 ha0))) (sh4_r3 (sh2_s15 (sh8_s0 ha0)))) ?_
    refine go_ops aMi109 3 _ (f1 := (33, ([(2, .int (I (a0 + 3) 1)), (1, .ref (a0 + 3)), (0, .ref a0)], [.int ((I (a0 + 3) 1) * (8 : Int32)), .ref (a0 + 5), .int ((1 : Int32) + (I (a0 + 3) 1)), .ref a0]))) rfl ?_
    obtain ⟨r33_7, hxr33_7, h⟩ := Option.bind_eq_some_iff.mp h
    refine gg_cv (as := [.int ((1 : Int32) + (I (a0 + 3) 1)), .ref (a0 + 5), .int ((I (a0 + 3) 1) * (8 : Int32))]) (r := []) aMi109 rfl rfl rfl aMi110 (Nat.le_of_ble_eq_true rfl) rfl (Nat.le_of_ble_eq_true rfl) (Nat.le_of_ble_eq_true rfl) (by omega) (isK_of (sh8_z ha0)) (Tf110 (by omega) a0 ha0 ((1 : Int32) + (I (a0 + 3) 1)) (a0 + 5) ((I (a0 + 3) 1) * (8 : Int32)) I _ hxr33_7) ?_
    show aGo kad d 109 (36, ([(2, .int (I (a0 + 3) 1)), (1, .ref (a0 + 3)), (0, .ref a0)], [])) (aMem Z r33_7.2, t) _
    refine go_ops aMi109 1 _ (f1 := (135, ([(2, .int (I (a0 + 3) 1)), (1, .ref (a0 + 3)), (0, .ref a0)], []))) rfl ?_
    refine go_le (lv1 := [(0, .ref a0), (1, .ref (a0 + 3))]) (aLe_of (show (List.map (fun q => q.1) ([(0, .ref a0), (1, .ref (a0 + 3))] : ALv)).Nodup from (by show ([0, 1] : List Nat).Nodup; decide)) (aSubL_cons rfl (aSubL_cons rfl aSubL_nil))) ?_
    exact Tf109_b135 hd a0 ha0 r33_7.2 _ h
-- KernelGym$Machine.fail (I)V
def f87 (kad : Nat → Nat) (N : Nat) (Z : AZ) (a0 : Nat) (i1 : Int32) (I : AI) : Option (Unit × AI) :=
  (wI I (a0 + 1) 0 (3 : Int32)).bind fun I5_1 =>
  (wI I5_1 (a0 + 1) 1 i1).bind fun I13_2 =>
  some ((), I13_2)
set_option maxRecDepth 20000 in
theorem Tf87 {kad : Nat → Nat} {N : Nat} {Z : AZ} {d : Nat} {t : Option Nat × (Nat × Nat)} (hd : 0 ≤ d) : ∀ (a0 : Nat) (ha0 : sh8 kad Z a0) (i1 : Int32) (I : AI) (r : Unit × AI), f87 kad N Z a0 i1 I = some r → aGo kad d 87 (0, ([(0, .ref a0), (1, .int i1)], [])) (aMem Z I, t) (qV Z t r) := by
  intro a0 ha0 i1 I r h
  unfold f87 at h
  refine go_ops aMi87 1 _ (f1 := (1, ([(0, .ref a0), (1, .int i1)], [.ref a0]))) rfl ?_
  refine gg_gR (b := (a0 + 1)) aMi87 rfl rfl rfl (gR_of (sh8_z ha0) (sh8_r0 ha0)) ?_
  refine go_ops aMi87 1 _ (f1 := (5, ([(0, .ref a0), (1, .int i1)], [.int (3 : Int32), .ref (a0 + 1)]))) rfl ?_
  obtain ⟨I5_1, hxI5_1, h⟩ := Option.bind_eq_some_iff.mp h
  refine gg_pI aMi87 rfl rfl rfl rfl (by decide) (pI_of (sh2_z (sh8_s0 ha0)) hxI5_1) ?_
  refine go_ops aMi87 1 _ (f1 := (9, ([(0, .ref a0), (1, .int i1)], [.ref a0]))) rfl ?_
  refine gg_gR (b := (a0 + 1)) aMi87 rfl rfl rfl (gR_of (sh8_z ha0) (sh8_r0 ha0)) ?_
  refine go_ops aMi87 1 _ (f1 := (13, ([(0, .ref a0), (1, .int i1)], [.int i1, .ref (a0 + 1)]))) rfl ?_
  obtain ⟨I13_2, hxI13_2, h⟩ := Option.bind_eq_some_iff.mp h
  refine gg_pI aMi87 rfl rfl rfl rfl (by decide) (pI_of (sh2_z (sh8_s0 ha0)) hxI13_2) ?_
  cases h
  exact go_ret aMi87 rfl rfl ⟨rfl, rfl⟩
-- KernelGym$Machine.hasRoomFor (I)Z
def f93 (kad : Nat → Nat) (N : Nat) (Z : AZ) (a0 : Nat) (i1 : Int32) (I : AI) : Option (Int32 × AI) :=
  if i1 ≤ (I (a0 + 1) 4) then
    some ((1 : Int32), I)
  else
    (f87 kad N Z a0 (3 : Int32) I).bind fun r13_1 =>
    some ((0 : Int32), r13_1.2)
set_option maxRecDepth 20000 in
theorem Tf93 {kad : Nat → Nat} {N : Nat} {Z : AZ} {d : Nat} {t : Option Nat × (Nat × Nat)} (hd : 1 ≤ d) : ∀ (a0 : Nat) (ha0 : sh8 kad Z a0) (i1 : Int32) (I : AI) (r : Int32 × AI), f93 kad N Z a0 i1 I = some r → aGo kad d 93 (0, ([(0, .ref a0), (1, .int i1)], [])) (aMem Z I, t) (qI Z t r) := by
  intro a0 ha0 i1 I r h
  unfold f93 at h
  refine go_ops aMi93 1 _ (f1 := (1, ([(0, .ref a0), (1, .int i1)], [.ref a0]))) rfl ?_
  refine gg_gR (b := (a0 + 1)) aMi93 rfl rfl rfl (gR_of (sh8_z ha0) (sh8_r0 ha0)) ?_
  refine gg_gI aMi93 rfl rfl rfl (gI_of (sh2_z (sh8_s0 ha0))) ?_
  refine go_ops aMi93 1 _ (f1 := (8, ([(0, .ref a0), (1, .int i1)], [.int i1, .int (I (a0 + 1) 4)]))) rfl ?_
  refine gg_br (b := decide (i1 ≤ (I (a0 + 1) 4))) (tg := 18) (off := 10) aMi93 rfl rfl rfl rfl (fun hb => ?_) (fun hb => ?_)
  · rw [if_pos (of_decide_eq_true hb)] at h
    refine go_ops aMi93 1 _ (f1 := (19, ([(0, .ref a0), (1, .int i1)], [.int (1 : Int32)]))) rfl ?_
    cases h
    exact go_ret aMi93 rfl (aRetZ (Or.inr rfl)) ⟨rfl, rfl⟩
  · rw [if_neg (of_decide_eq_false hb)] at h
    refine go_ops aMi93 2 _ (f1 := (13, ([(0, .ref a0), (1, .int i1)], [.int (3 : Int32), .ref a0]))) rfl ?_
    obtain ⟨r13_1, hxr13_1, h⟩ := Option.bind_eq_some_iff.mp h
    refine gg_cv (as := [.int (3 : Int32)]) (r := []) aMi93 rfl rfl rfl aMi87 (Nat.le_of_ble_eq_true rfl) rfl (Nat.le_of_ble_eq_true rfl) (Nat.le_of_ble_eq_true rfl) (by omega) (isK_of (sh8_z ha0)) (Tf87 (by omega) a0 ha0 (3 : Int32) I _ hxr13_1) ?_
    show aGo kad d 93 (16, ([(0, .ref a0), (1, .int i1)], [])) (aMem Z r13_1.2, t) _
    refine go_ops aMi93 1 _ (f1 := (17, ([(0, .ref a0), (1, .int i1)], [.int (0 : Int32)]))) rfl ?_
    cases h
    exact go_ret aMi93 rfl (aRetZ (Or.inl rfl)) ⟨rfl, rfl⟩
-- KernelGym$Machine.writeWord (II)V
def f90_b32 (kad : Nat → Nat) (N : Nat) (Z : AZ) (a0 : Nat) (I : AI) : Option (Unit × AI) :=
  some ((), I)
set_option maxRecDepth 20000 in
theorem Tf90_b32 {kad : Nat → Nat} {N : Nat} {Z : AZ} {d : Nat} {t : Option Nat × (Nat × Nat)} (hd : 1 ≤ d) : ∀ (a0 : Nat) (ha0 : sh8 kad Z a0) (I : AI) (r : Unit × AI), f90_b32 kad N Z a0 I = some r → aGo kad d 90 (32, ([], [])) (aMem Z I, t) (qV Z t r) := by
  intro a0 ha0 I r h
  unfold f90_b32 at h
  cases h
  exact go_ret aMi90 rfl rfl ⟨rfl, rfl⟩
def f90 (kad : Nat → Nat) (N : Nat) (Z : AZ) (a0 : Nat) (i1 : Int32) (i2 : Int32) (I : AI) : Option (Unit × AI) :=
  if i1 < 0 then
    f90_b32 kad N Z a0 I
  else
    if (256 : Int32) ≤ i1 then
      f90_b32 kad N Z a0 I
    else
      (ixA 256 i1).bind fun j21_1 =>
      (f68 kad N Z (Z.2.1 a0 7 (I a0 7)) i1 (I (a0 + 6) j21_1) I).bind fun r22_2 =>
      (ixA 256 i1).bind fun j31_4 =>
      (wI r22_2.2 (a0 + 6) j31_4 i2).bind fun I31_3 =>
      f90_b32 kad N Z a0 I31_3
set_option maxRecDepth 20000 in
theorem Tf90 {kad : Nat → Nat} {N : Nat} {Z : AZ} {d : Nat} {t : Option Nat × (Nat × Nat)} (hd : 1 ≤ d) : ∀ (a0 : Nat) (ha0 : sh8 kad Z a0) (i1 : Int32) (i2 : Int32) (I : AI) (r : Unit × AI), f90 kad N Z a0 i1 i2 I = some r → aGo kad d 90 (0, ([(0, .ref a0), (1, .int i1), (2, .int i2)], [])) (aMem Z I, t) (qV Z t r) := by
  intro a0 ha0 i1 i2 I r h
  unfold f90 at h
  refine go_ops aMi90 1 _ (f1 := (1, ([(0, .ref a0), (1, .int i1), (2, .int i2)], [.int i1]))) rfl ?_
  refine gg_br (b := decide (i1 < 0)) (tg := 32) (off := 31) aMi90 rfl rfl rfl rfl (fun hb => ?_) (fun hb => ?_)
  · rw [if_pos (of_decide_eq_true hb)] at h
    refine go_le (lv1 := []) (aLe_of (show (List.map (fun q => q.1) ([] : ALv)).Nodup from (by show ([] : List Nat).Nodup; decide)) aSubL_nil) ?_
    exact Tf90_b32 hd a0 ha0 I _ h
  · rw [if_neg (of_decide_eq_false hb)] at h
    refine go_ops aMi90 2 _ (f1 := (8, ([(0, .ref a0), (1, .int i1), (2, .int i2)], [.int (256 : Int32), .int i1]))) rfl ?_
    refine gg_br (b := decide ((256 : Int32) ≤ i1)) (tg := 32) (off := 24) aMi90 rfl rfl rfl rfl (fun hb => ?_) (fun hb => ?_)
    · rw [if_pos (of_decide_eq_true hb)] at h
      refine go_le (lv1 := []) (aLe_of (show (List.map (fun q => q.1) ([] : ALv)).Nodup from (by show ([] : List Nat).Nodup; decide)) aSubL_nil) ?_
      exact Tf90_b32 hd a0 ha0 I _ h
    · rw [if_neg (of_decide_eq_false hb)] at h
      refine go_ops aMi90 1 _ (f1 := (12, ([(0, .ref a0), (1, .int i1), (2, .int i2)], [.ref a0]))) rfl ?_
      refine gg_gR (b := (Z.2.1 a0 7 (I a0 7))) aMi90 rfl rfl rfl (gR_of2 (sh8_z ha0) rfl) ?_
      refine go_ops aMi90 2 _ (f1 := (17, ([(0, .ref a0), (1, .int i1), (2, .int i2)], [.ref a0, .int i1, .ref (Z.2.1 a0 7 (I a0 7))]))) rfl ?_
      refine gg_gR (b := (a0 + 6)) aMi90 rfl rfl rfl (gR_of (sh8_z ha0) (sh8_r1 ha0)) ?_
      refine go_ops aMi90 1 _ (f1 := (21, ([(0, .ref a0), (1, .int i1), (2, .int i2)], [.int i1, .ref (a0 + 6), .int i1, .ref (Z.2.1 a0 7 (I a0 7))]))) rfl ?_
      obtain ⟨j21_1, hxj21_1, h⟩ := Option.bind_eq_some_iff.mp h
      refine gg_lI (Or.inl ⟨rfl, rfl⟩) aMi90 rfl (lI_of (sh8_a1 ha0) hxj21_1) ?_
      obtain ⟨r22_2, hxr22_2, h⟩ := Option.bind_eq_some_iff.mp h
      refine gg_cv (as := [.int i1, .int (I (a0 + 6) j21_1)]) (r := []) aMi90 rfl rfl rfl aMi68 (Nat.le_of_ble_eq_true rfl) rfl (Nat.le_of_ble_eq_true rfl) (Nat.le_of_ble_eq_true rfl) (by omega) (isK_of (sh5_z (sh8_k ha0 _))) (Tf68 (by omega) (Z.2.1 a0 7 (I a0 7)) (sh8_k ha0 _) i1 (I (a0 + 6) j21_1) I _ hxr22_2) ?_
      show aGo kad d 90 (25, ([(0, .ref a0), (1, .int i1), (2, .int i2)], [])) (aMem Z r22_2.2, t) _
      refine go_ops aMi90 1 _ (f1 := (26, ([(0, .ref a0), (1, .int i1), (2, .int i2)], [.ref a0]))) rfl ?_
      refine gg_gR (b := (a0 + 6)) aMi90 rfl rfl rfl (gR_of (sh8_z ha0) (sh8_r1 ha0)) ?_
      refine go_ops aMi90 2 _ (f1 := (31, ([(0, .ref a0), (1, .int i1), (2, .int i2)], [.int i2, .int i1, .ref (a0 + 6)]))) rfl ?_
      obtain ⟨j31_4, hxj31_4, h⟩ := Option.bind_eq_some_iff.mp h
      obtain ⟨I31_3, hxI31_3, h⟩ := Option.bind_eq_some_iff.mp h
      refine gg_sI (Or.inl ⟨rfl, rfl⟩) aMi90 rfl (sI_of (sh8_a1 ha0) hxj31_4 hxI31_3) ?_
      refine go_le (lv1 := []) (aLe_of (show (List.map (fun q => q.1) ([] : ALv)).Nodup from (by show ([] : List Nat).Nodup; decide)) aSubL_nil) ?_
      exact Tf90_b32 hd a0 ha0 I31_3 _ h
-- KernelGym$Machine.push (I)V
def f91 (kad : Nat → Nat) (N : Nat) (Z : AZ) (a0 : Nat) (i1 : Int32) (I : AI) : Option (Unit × AI) :=
  (wI I (a0 + 1) 4 ((I (a0 + 1) 4) - (1 : Int32))).bind fun I10_1 =>
  (f90 kad N Z a0 (I10_1 (a0 + 1) 4) i1 I10_1).bind fun r22_2 =>
  some ((), r22_2.2)
set_option maxRecDepth 20000 in
theorem Tf91 {kad : Nat → Nat} {N : Nat} {Z : AZ} {d : Nat} {t : Option Nat × (Nat × Nat)} (hd : 2 ≤ d) : ∀ (a0 : Nat) (ha0 : sh8 kad Z a0) (i1 : Int32) (I : AI) (r : Unit × AI), f91 kad N Z a0 i1 I = some r → aGo kad d 91 (0, ([(0, .ref a0), (1, .int i1)], [])) (aMem Z I, t) (qV Z t r) := by
  intro a0 ha0 i1 I r h
  unfold f91 at h
  refine go_ops aMi91 1 _ (f1 := (1, ([(0, .ref a0), (1, .int i1)], [.ref a0]))) rfl ?_
  refine gg_gR (b := (a0 + 1)) aMi91 rfl rfl rfl (gR_of (sh8_z ha0) (sh8_r0 ha0)) ?_
  refine go_ops aMi91 1 _ (f1 := (5, ([(0, .ref a0), (1, .int i1)], [.ref (a0 + 1), .ref (a0 + 1)]))) rfl ?_
  refine gg_gI aMi91 rfl rfl rfl (gI_of (sh2_z (sh8_s0 ha0))) ?_
  refine go_ops aMi91 2 _ (f1 := (10, ([(0, .ref a0), (1, .int i1)], [.int ((I (a0 + 1) 4) - (1 : Int32)), .ref (a0 + 1)]))) rfl ?_
  obtain ⟨I10_1, hxI10_1, h⟩ := Option.bind_eq_some_iff.mp h
  refine gg_pI aMi91 rfl rfl rfl rfl (by decide) (pI_of (sh2_z (sh8_s0 ha0)) hxI10_1) ?_
  refine go_ops aMi91 2 _ (f1 := (15, ([(0, .ref a0), (1, .int i1)], [.ref a0, .ref a0]))) rfl ?_
  refine gg_gR (b := (a0 + 1)) aMi91 rfl rfl rfl (gR_of (sh8_z ha0) (sh8_r0 ha0)) ?_
  refine gg_gI aMi91 rfl rfl rfl (gI_of (sh2_z (sh8_s0 ha0))) ?_
  refine go_ops aMi91 1 _ (f1 := (22, ([(0, .ref a0), (1, .int i1)], [.int i1, .int (I10_1 (a0 + 1) 4), .ref a0]))) rfl ?_
  obtain ⟨r22_2, hxr22_2, h⟩ := Option.bind_eq_some_iff.mp h
  refine gg_cv (as := [.int (I10_1 (a0 + 1) 4), .int i1]) (r := []) aMi91 rfl rfl rfl aMi90 (Nat.le_of_ble_eq_true rfl) rfl (Nat.le_of_ble_eq_true rfl) (Nat.le_of_ble_eq_true rfl) (by omega) (isK_of (sh8_z ha0)) (Tf90 (by omega) a0 ha0 (I10_1 (a0 + 1) 4) i1 I10_1 _ hxr22_2) ?_
  show aGo kad d 91 (25, ([(0, .ref a0), (1, .int i1)], [])) (aMem Z r22_2.2, t) _
  cases h
  exact go_ret aMi91 rfl rfl ⟨rfl, rfl⟩
-- KernelGym$Machine.wordAt (I)I
def f89_b21 (kad : Nat → Nat) (N : Nat) (Z : AZ) (a0 : Nat) (s0 : Int32) (I : AI) : Option (Int32 × AI) :=
  some (s0, I)
set_option maxRecDepth 20000 in
theorem Tf89_b21 {kad : Nat → Nat} {N : Nat} {Z : AZ} {d : Nat} {t : Option Nat × (Nat × Nat)} (hd : 0 ≤ d) : ∀ (a0 : Nat) (ha0 : sh8 kad Z a0) (s0 : Int32) (I : AI) (r : Int32 × AI), f89_b21 kad N Z a0 s0 I = some r → aGo kad d 89 (21, ([], [.int s0])) (aMem Z I, t) (qI Z t r) := by
  intro a0 ha0 s0 I r h
  unfold f89_b21 at h
  cases h
  exact go_ret aMi89 rfl aRetI ⟨rfl, rfl⟩
def f89_b20 (kad : Nat → Nat) (N : Nat) (Z : AZ) (a0 : Nat) (I : AI) : Option (Int32 × AI) :=
  f89_b21 kad N Z a0 (0 : Int32) I
set_option maxRecDepth 20000 in
theorem Tf89_b20 {kad : Nat → Nat} {N : Nat} {Z : AZ} {d : Nat} {t : Option Nat × (Nat × Nat)} (hd : 0 ≤ d) : ∀ (a0 : Nat) (ha0 : sh8 kad Z a0) (I : AI) (r : Int32 × AI), f89_b20 kad N Z a0 I = some r → aGo kad d 89 (20, ([], [])) (aMem Z I, t) (qI Z t r) := by
  intro a0 ha0 I r h
  unfold f89_b20 at h
  refine go_ops aMi89 1 _ (f1 := (21, ([], [.int (0 : Int32)]))) rfl ?_
  exact Tf89_b21 hd a0 ha0 (0 : Int32) I _ h
def f89 (kad : Nat → Nat) (N : Nat) (Z : AZ) (a0 : Nat) (i1 : Int32) (I : AI) : Option (Int32 × AI) :=
  if i1 < 0 then
    f89_b20 kad N Z a0 I
  else
    if (256 : Int32) ≤ i1 then
      f89_b20 kad N Z a0 I
    else
      (ixA 256 i1).bind fun j16_1 =>
      f89_b21 kad N Z a0 (I (a0 + 6) j16_1) I
set_option maxRecDepth 20000 in
theorem Tf89 {kad : Nat → Nat} {N : Nat} {Z : AZ} {d : Nat} {t : Option Nat × (Nat × Nat)} (hd : 0 ≤ d) : ∀ (a0 : Nat) (ha0 : sh8 kad Z a0) (i1 : Int32) (I : AI) (r : Int32 × AI), f89 kad N Z a0 i1 I = some r → aGo kad d 89 (0, ([(0, .ref a0), (1, .int i1)], [])) (aMem Z I, t) (qI Z t r) := by
  intro a0 ha0 i1 I r h
  unfold f89 at h
  refine go_ops aMi89 1 _ (f1 := (1, ([(0, .ref a0), (1, .int i1)], [.int i1]))) rfl ?_
  refine gg_br (b := decide (i1 < 0)) (tg := 20) (off := 19) aMi89 rfl rfl rfl rfl (fun hb => ?_) (fun hb => ?_)
  · rw [if_pos (of_decide_eq_true hb)] at h
    refine go_le (lv1 := []) (aLe_of (show (List.map (fun q => q.1) ([] : ALv)).Nodup from (by show ([] : List Nat).Nodup; decide)) aSubL_nil) ?_
    exact Tf89_b20 hd a0 ha0 I _ h
  · rw [if_neg (of_decide_eq_false hb)] at h
    refine go_ops aMi89 2 _ (f1 := (8, ([(0, .ref a0), (1, .int i1)], [.int (256 : Int32), .int i1]))) rfl ?_
    refine gg_br (b := decide ((256 : Int32) ≤ i1)) (tg := 20) (off := 12) aMi89 rfl rfl rfl rfl (fun hb => ?_) (fun hb => ?_)
    · rw [if_pos (of_decide_eq_true hb)] at h
      refine go_le (lv1 := []) (aLe_of (show (List.map (fun q => q.1) ([] : ALv)).Nodup from (by show ([] : List Nat).Nodup; decide)) aSubL_nil) ?_
      exact Tf89_b20 hd a0 ha0 I _ h
    · rw [if_neg (of_decide_eq_false hb)] at h
      refine go_ops aMi89 1 _ (f1 := (12, ([(0, .ref a0), (1, .int i1)], [.ref a0]))) rfl ?_
      refine gg_gR (b := (a0 + 6)) aMi89 rfl rfl rfl (gR_of (sh8_z ha0) (sh8_r1 ha0)) ?_
      refine go_ops aMi89 1 _ (f1 := (16, ([(0, .ref a0), (1, .int i1)], [.int i1, .ref (a0 + 6)]))) rfl ?_
      obtain ⟨j16_1, hxj16_1, h⟩ := Option.bind_eq_some_iff.mp h
      refine gg_lI (Or.inl ⟨rfl, rfl⟩) aMi89 rfl (lI_of (sh8_a1 ha0) hxj16_1) ?_
      refine go_ops aMi89 1 _ (f1 := (21, ([(0, .ref a0), (1, .int i1)], [.int (I (a0 + 6) j16_1)]))) rfl ?_
      refine go_le (lv1 := []) (aLe_of (show (List.map (fun q => q.1) ([] : ALv)).Nodup from (by show ([] : List Nat).Nodup; decide)) aSubL_nil) ?_
      exact Tf89_b21 hd a0 ha0 (I (a0 + 6) j16_1) I _ h
-- KernelGym$Machine.takeInterrupt ()V
def f95_b54 (kad : Nat → Nat) (N : Nat) (Z : AZ) (a0 : Nat) (i1 : Int32) (I : AI) : Option (Unit × AI) :=
  (f91 kad N Z a0 (I (a0 + 1) 3) I).bind fun r62_1 =>
  (f39 kad N Z (a0 + 1) r62_1.2).bind fun r70_2 =>
  (f91 kad N Z a0 r70_2.1 r70_2.2).bind fun r73_3 =>
  (wI r73_3.2 (a0 + 1) 7 (0 : Int32)).bind fun I81_4 =>
  (f89 kad N Z a0 i1 I81_4).bind fun r90_5 =>
  (wI r90_5.2 (a0 + 1) 3 r90_5.1).bind fun I93_6 =>
  some ((), I93_6)
set_option maxRecDepth 20000 in
theorem Tf95_b54 {kad : Nat → Nat} {N : Nat} {Z : AZ} {d : Nat} {t : Option Nat × (Nat × Nat)} (hd : 3 ≤ d) : ∀ (a0 : Nat) (ha0 : sh8 kad Z a0) (i1 : Int32) (I : AI) (r : Unit × AI), f95_b54 kad N Z a0 i1 I = some r → aGo kad d 95 (54, ([(0, .ref a0), (1, .int i1)], [])) (aMem Z I, t) (qV Z t r) := by
  intro a0 ha0 i1 I r h
  unfold f95_b54 at h
  refine go_ops aMi95 2 _ (f1 := (56, ([(0, .ref a0), (1, .int i1)], [.ref a0, .ref a0]))) rfl ?_
  refine gg_gR (b := (a0 + 1)) aMi95 rfl rfl rfl (gR_of (sh8_z ha0) (sh8_r0 ha0)) ?_
  refine gg_gI aMi95 rfl rfl rfl (gI_of (sh2_z (sh8_s0 ha0))) ?_
  obtain ⟨r62_1, hxr62_1, h⟩ := Option.bind_eq_some_iff.mp h
  refine gg_cv (as := [.int (I (a0 + 1) 3)]) (r := []) aMi95 rfl rfl rfl aMi91 (Nat.le_of_ble_eq_true rfl) rfl (Nat.le_of_ble_eq_true rfl) (Nat.le_of_ble_eq_true rfl) (by omega) (isK_of (sh8_z ha0)) (Tf91 (by omega) a0 ha0 (I (a0 + 1) 3) I _ hxr62_1) ?_
  show aGo kad d 95 (65, ([(0, .ref a0), (1, .int i1)], [])) (aMem Z r62_1.2, t) _
  refine go_ops aMi95 2 _ (f1 := (67, ([(0, .ref a0), (1, .int i1)], [.ref a0, .ref a0]))) rfl ?_
  refine gg_gR (b := (a0 + 1)) aMi95 rfl rfl rfl (gR_of (sh8_z ha0) (sh8_r0 ha0)) ?_
  obtain ⟨r70_2, hxr70_2, h⟩ := Option.bind_eq_some_iff.mp h
  refine gg_cv (as := []) (r := [.ref a0]) aMi95 rfl rfl rfl aMi39 (Nat.le_of_ble_eq_true rfl) rfl (Nat.le_of_ble_eq_true rfl) (Nat.le_of_ble_eq_true rfl) (by omega) (isK_of (sh2_z (sh8_s0 ha0))) (Tf39 (by omega) (a0 + 1) (sh8_s0 ha0) r62_1.2 _ hxr70_2) ?_
  show aGo kad d 95 (73, ([(0, .ref a0), (1, .int i1)], [.int r70_2.1, .ref a0])) (aMem Z r70_2.2, t) _
  obtain ⟨r73_3, hxr73_3, h⟩ := Option.bind_eq_some_iff.mp h
  refine gg_cv (as := [.int r70_2.1]) (r := []) aMi95 rfl rfl rfl aMi91 (Nat.le_of_ble_eq_true rfl) rfl (Nat.le_of_ble_eq_true rfl) (Nat.le_of_ble_eq_true rfl) (by omega) (isK_of (sh8_z ha0)) (Tf91 (by omega) a0 ha0 r70_2.1 r70_2.2 _ hxr73_3) ?_
  show aGo kad d 95 (76, ([(0, .ref a0), (1, .int i1)], [])) (aMem Z r73_3.2, t) _
  refine go_ops aMi95 1 _ (f1 := (77, ([(0, .ref a0), (1, .int i1)], [.ref a0]))) rfl ?_
  refine gg_gR (b := (a0 + 1)) aMi95 rfl rfl rfl (gR_of (sh8_z ha0) (sh8_r0 ha0)) ?_
  refine go_ops aMi95 1 _ (f1 := (81, ([(0, .ref a0), (1, .int i1)], [.int (0 : Int32), .ref (a0 + 1)]))) rfl ?_
  obtain ⟨I81_4, hxI81_4, h⟩ := Option.bind_eq_some_iff.mp h
  refine gg_pB aMi95 rfl rfl rfl rfl (by decide) (pB_lit (sh2_z (sh8_s0 ha0)) (Or.inl rfl) hxI81_4) ?_
  refine go_ops aMi95 1 _ (f1 := (85, ([(0, .ref a0), (1, .int i1)], [.ref a0]))) rfl ?_
  refine gg_gR (b := (a0 + 1)) aMi95 rfl rfl rfl (gR_of (sh8_z ha0) (sh8_r0 ha0)) ?_
  refine go_ops aMi95 2 _ (f1 := (90, ([(0, .ref a0), (1, .int i1)], [.int i1, .ref a0, .ref (a0 + 1)]))) rfl ?_
  obtain ⟨r90_5, hxr90_5, h⟩ := Option.bind_eq_some_iff.mp h
  refine gg_cv (as := [.int i1]) (r := [.ref (a0 + 1)]) aMi95 rfl rfl rfl aMi89 (Nat.le_of_ble_eq_true rfl) rfl (Nat.le_of_ble_eq_true rfl) (Nat.le_of_ble_eq_true rfl) (by omega) (isK_of (sh8_z ha0)) (Tf89 (by omega) a0 ha0 i1 I81_4 _ hxr90_5) ?_
  show aGo kad d 95 (93, ([(0, .ref a0), (1, .int i1)], [.int r90_5.1, .ref (a0 + 1)])) (aMem Z r90_5.2, t) _
  obtain ⟨I93_6, hxI93_6, h⟩ := Option.bind_eq_some_iff.mp h
  refine gg_pI aMi95 rfl rfl rfl rfl (by decide) (pI_of (sh2_z (sh8_s0 ha0)) hxI93_6) ?_
  cases h
  exact go_ret aMi95 rfl rfl ⟨rfl, rfl⟩
def f95_b24 (kad : Nat → Nat) (N : Nat) (Z : AZ) (a0 : Nat) (s0 : Int32) (I : AI) : Option (Unit × AI) :=
  if (I (a0 + 1) 8) = 0 then
    (wI I (a0 + 1) 9 (0 : Int32)).bind fun I51_1 =>
    f95_b54 kad N Z a0 s0 I51_1
  else
    (wI I (a0 + 1) 8 (0 : Int32)).bind fun I40_2 =>
    f95_b54 kad N Z a0 s0 I40_2
set_option maxRecDepth 20000 in
theorem Tf95_b24 {kad : Nat → Nat} {N : Nat} {Z : AZ} {d : Nat} {t : Option Nat × (Nat × Nat)} (hd : 3 ≤ d) : ∀ (a0 : Nat) (ha0 : sh8 kad Z a0) (s0 : Int32) (I : AI) (r : Unit × AI), f95_b24 kad N Z a0 s0 I = some r → aGo kad d 95 (24, ([(0, .ref a0)], [.int s0])) (aMem Z I, t) (qV Z t r) := by
  intro a0 ha0 s0 I r h
  unfold f95_b24 at h
  refine go_ops aMi95 2 _ (f1 := (26, ([(1, .int s0), (0, .ref a0)], [.ref a0]))) rfl ?_
  refine gg_gR (b := (a0 + 1)) aMi95 rfl rfl rfl (gR_of (sh8_z ha0) (sh8_r0 ha0)) ?_
  refine gg_gI aMi95 rfl rfl rfl (gI_of (sh2_z (sh8_s0 ha0))) ?_
  refine gg_br (b := decide ((I (a0 + 1) 8) = 0)) (tg := 46) (off := 14) aMi95 rfl rfl rfl rfl (fun hb => ?_) (fun hb => ?_)
  · rw [if_pos (of_decide_eq_true hb)] at h
    refine go_ops aMi95 1 _ (f1 := (47, ([(1, .int s0), (0, .ref a0)], [.ref a0]))) rfl ?_
    refine gg_gR (b := (a0 + 1)) aMi95 rfl rfl rfl (gR_of (sh8_z ha0) (sh8_r0 ha0)) ?_
    refine go_ops aMi95 1 _ (f1 := (51, ([(1, .int s0), (0, .ref a0)], [.int (0 : Int32), .ref (a0 + 1)]))) rfl ?_
    obtain ⟨I51_1, hxI51_1, h⟩ := Option.bind_eq_some_iff.mp h
    refine gg_pB aMi95 rfl rfl rfl rfl (by decide) (pB_lit (sh2_z (sh8_s0 ha0)) (Or.inl rfl) hxI51_1) ?_
    refine go_le (lv1 := [(0, .ref a0), (1, .int s0)]) (aLe_of (show (List.map (fun q => q.1) ([(0, .ref a0), (1, .int s0)] : ALv)).Nodup from (by show ([0, 1] : List Nat).Nodup; decide)) (aSubL_cons rfl (aSubL_cons rfl aSubL_nil))) ?_
    exact Tf95_b54 hd a0 ha0 s0 I51_1 _ h
  · rw [if_neg (of_decide_eq_false hb)] at h
    refine go_ops aMi95 1 _ (f1 := (36, ([(1, .int s0), (0, .ref a0)], [.ref a0]))) rfl ?_
    refine gg_gR (b := (a0 + 1)) aMi95 rfl rfl rfl (gR_of (sh8_z ha0) (sh8_r0 ha0)) ?_
    refine go_ops aMi95 1 _ (f1 := (40, ([(1, .int s0), (0, .ref a0)], [.int (0 : Int32), .ref (a0 + 1)]))) rfl ?_
    obtain ⟨I40_2, hxI40_2, h⟩ := Option.bind_eq_some_iff.mp h
    refine gg_pB aMi95 rfl rfl rfl rfl (by decide) (pB_lit (sh2_z (sh8_s0 ha0)) (Or.inl rfl) hxI40_2) ?_
    refine go_ops aMi95 1 _ (f1 := (54, ([(1, .int s0), (0, .ref a0)], []))) rfl ?_
    refine go_le (lv1 := [(0, .ref a0), (1, .int s0)]) (aLe_of (show (List.map (fun q => q.1) ([(0, .ref a0), (1, .int s0)] : ALv)).Nodup from (by show ([0, 1] : List Nat).Nodup; decide)) (aSubL_cons rfl (aSubL_cons rfl aSubL_nil))) ?_
    exact Tf95_b54 hd a0 ha0 s0 I40_2 _ h
def f95 (kad : Nat → Nat) (N : Nat) (Z : AZ) (a0 : Nat) (I : AI) : Option (Unit × AI) :=
  (f93 kad N Z a0 (2 : Int32) I).bind fun r2_1 =>
  if ¬ r2_1.1 = 0 then
    if ((r2_1.2) (a0 + 1) 8) = 0 then
      f95_b24 kad N Z a0 (1 : Int32) r2_1.2
    else
      f95_b24 kad N Z a0 (0 : Int32) r2_1.2
  else
    some ((), r2_1.2)
set_option maxRecDepth 20000 in
theorem Tf95 {kad : Nat → Nat} {N : Nat} {Z : AZ} {d : Nat} {t : Option Nat × (Nat × Nat)} (hd : 3 ≤ d) : ∀ (a0 : Nat) (ha0 : sh8 kad Z a0) (I : AI) (r : Unit × AI), f95 kad N Z a0 I = some r → aGo kad d 95 (0, ([(0, .ref a0)], [])) (aMem Z I, t) (qV Z t r) := by
  intro a0 ha0 I r h
  unfold f95 at h
  refine go_ops aMi95 2 _ (f1 := (2, ([(0, .ref a0)], [.int (2 : Int32), .ref a0]))) rfl ?_
  obtain ⟨r2_1, hxr2_1, h⟩ := Option.bind_eq_some_iff.mp h
  refine gg_cv (as := [.int (2 : Int32)]) (r := []) aMi95 rfl rfl rfl aMi93 (Nat.le_of_ble_eq_true rfl) rfl (Nat.le_of_ble_eq_true rfl) (Nat.le_of_ble_eq_true rfl) (by omega) (isK_of (sh8_z ha0)) (Tf93 (by omega) a0 ha0 (2 : Int32) I _ hxr2_1) ?_
  show aGo kad d 95 (5, ([(0, .ref a0)], [.int r2_1.1])) (aMem Z r2_1.2, t) _
  refine gg_br (b := decide (¬ r2_1.1 = 0)) (tg := 9) (off := 4) aMi95 rfl rfl rfl rfl (fun hb => ?_) (fun hb => ?_)
  · rw [if_pos (of_decide_eq_true hb)] at h
    refine go_ops aMi95 1 _ (f1 := (10, ([(0, .ref a0)], [.ref a0]))) rfl ?_
    refine gg_gR (b := (a0 + 1)) aMi95 rfl rfl rfl (gR_of (sh8_z ha0) (sh8_r0 ha0)) ?_
    refine gg_gI aMi95 rfl rfl rfl (gI_of (sh2_z (sh8_s0 ha0))) ?_
    refine gg_br (b := decide (((r2_1.2) (a0 + 1) 8) = 0)) (tg := 23) (off := 7) aMi95 rfl rfl rfl rfl (fun hb => ?_) (fun hb => ?_)
    · rw [if_pos (of_decide_eq_true hb)] at h
      refine go_ops aMi95 1 _ (f1 := (24, ([(0, .ref a0)], [.int (1 : Int32)]))) rfl ?_
      exact Tf95_b24 hd a0 ha0 (1 : Int32) r2_1.2 _ h
    · rw [if_neg (of_decide_eq_false hb)] at h
      refine go_ops aMi95 2 _ (f1 := (24, ([(0, .ref a0)], [.int (0 : Int32)]))) rfl ?_
      exact Tf95_b24 hd a0 ha0 (0 : Int32) r2_1.2 _ h
  · rw [if_neg (of_decide_eq_false hb)] at h
    cases h
    exact go_ret aMi95 rfl rfl ⟨rfl, rfl⟩
-- KernelGym$Machine.callFile (I)V
def f108_b102 (kad : Nat → Nat) (N : Nat) (Z : AZ) (a0 : Nat) (I : AI) : Option (Unit × AI) :=
  some ((), I)
set_option maxRecDepth 20000 in
theorem Tf108_b102 {kad : Nat → Nat} {N : Nat} {Z : AZ} {d : Nat} {t : Option Nat × (Nat × Nat)} (hd : 3 ≤ d) : ∀ (a0 : Nat) (ha0 : sh8 kad Z a0) (I : AI) (r : Unit × AI), f108_b102 kad N Z a0 I = some r → aGo kad d 108 (102, ([], [])) (aMem Z I, t) (qV Z t r) := by
  intro a0 ha0 I r h
  unfold f108_b102 at h
  cases h
  exact go_ret aMi108 rfl rfl ⟨rfl, rfl⟩
def f108_b75 (kad : Nat → Nat) (N : Nat) (Z : AZ) (a0 : Nat) (i3 : Int32) (I : AI) : Option (Unit × AI) :=
  (f63 kad N Z (a0 + 3) I).bind fun r82_1 =>
  if ¬ r82_1.1 = 0 then
    f108_b102 kad N Z a0 r82_1.2
  else
    (ixA 4 (3 : Int32)).bind fun j97_3 =>
    (wI r82_1.2 (a0 + 2) j97_3 i3).bind fun I97_2 =>
    (f88 kad N Z a0 I97_2).bind fun r99_4 =>
    f108_b102 kad N Z a0 r99_4.2
set_option maxRecDepth 20000 in
theorem Tf108_b75 {kad : Nat → Nat} {N : Nat} {Z : AZ} {d : Nat} {t : Option Nat × (Nat × Nat)} (hd : 3 ≤ d) : ∀ (a0 : Nat) (ha0 : sh8 kad Z a0) (i3 : Int32) (I : AI) (r : Unit × AI), f108_b75 kad N Z a0 i3 I = some r → aGo kad d 108 (75, ([(0, .ref a0), (3, .int i3)], [])) (aMem Z I, t) (qV Z t r) := by
  intro a0 ha0 i3 I r h
  unfold f108_b75 at h
  refine go_ops aMi108 1 _ (f1 := (76, ([(0, .ref a0), (3, .int i3)], [.ref a0]))) rfl ?_
  refine gg_gR (b := (a0 + 1)) aMi108 rfl rfl rfl (gR_of (sh8_z ha0) (sh8_r0 ha0)) ?_
  refine gg_gR (b := (a0 + 3)) aMi108 rfl rfl rfl (gR_of (sh2_z (sh8_s0 ha0)) (sh2_r15 (sh8_s0 ha0))) ?_
  obtain ⟨r82_1, hxr82_1, h⟩ := Option.bind_eq_some_iff.mp h
  refine gg_cv (as := []) (r := []) aMi108 rfl rfl rfl aMi63 (Nat.le_of_ble_eq_true rfl) rfl (Nat.le_of_ble_eq_true rfl) (Nat.le_of_ble_eq_true rfl) (by omega) (isK_of (sh4_z (sh2_s15 (sh8_s0 ha0)))) (Tf63 (by omega) (a0 + 3) (sh2_s15 (sh8_s0 ha0)) I _ hxr82_1) ?_
  show aGo kad d 108 (85, ([(0, .ref a0), (3, .int i3)], [.int r82_1.1])) (aMem Z r82_1.2, t) _
  refine gg_br (b := decide (¬ r82_1.1 = 0)) (tg := 102) (off := 17) aMi108 rfl rfl rfl rfl (fun hb => ?_) (fun hb => ?_)
  · rw [if_pos (of_decide_eq_true hb)] at h
    refine go_le (lv1 := []) (aLe_of (show (List.map (fun q => q.1) ([] : ALv)).Nodup from (by show ([] : List Nat).Nodup; decide)) aSubL_nil) ?_
    exact Tf108_b102 hd a0 ha0 r82_1.2 _ h
  · rw [if_neg (of_decide_eq_false hb)] at h
    refine go_ops aMi108 1 _ (f1 := (89, ([(0, .ref a0), (3, .int i3)], [.ref a0]))) rfl ?_
    refine gg_gR (b := (a0 + 1)) aMi108 rfl rfl rfl (gR_of (sh8_z ha0) (sh8_r0 ha0)) ?_
    refine gg_gR (b := (a0 + 2)) aMi108 rfl rfl rfl (gR_of (sh2_z (sh8_s0 ha0)) (sh2_r14 (sh8_s0 ha0))) ?_
    refine go_ops aMi108 2 _ (f1 := (97, ([(0, .ref a0), (3, .int i3)], [.int i3, .int (3 : Int32), .ref (a0 + 2)]))) rfl ?_
    obtain ⟨j97_3, hxj97_3, h⟩ := Option.bind_eq_some_iff.mp h
    obtain ⟨I97_2, hxI97_2, h⟩ := Option.bind_eq_some_iff.mp h
    refine gg_sI (Or.inl ⟨rfl, rfl⟩) aMi108 rfl (sI_of (sh2_a14 (sh8_s0 ha0)) hxj97_3 hxI97_2) ?_
    refine go_ops aMi108 1 _ (f1 := (99, ([(0, .ref a0), (3, .int i3)], [.ref a0]))) rfl ?_
    obtain ⟨r99_4, hxr99_4, h⟩ := Option.bind_eq_some_iff.mp h
    refine gg_cv (as := []) (r := []) aMi108 rfl rfl rfl aMi88 (Nat.le_of_ble_eq_true rfl) rfl (Nat.le_of_ble_eq_true rfl) (Nat.le_of_ble_eq_true rfl) (by omega) (isK_of (sh8_z ha0)) (Tf88 (by omega) a0 ha0 I97_2 _ hxr99_4) ?_
    show aGo kad d 108 (102, ([(0, .ref a0), (3, .int i3)], [])) (aMem Z r99_4.2, t) _
    refine go_le (lv1 := []) (aLe_of (show (List.map (fun q => q.1) ([] : ALv)).Nodup from (by show ([] : List Nat).Nodup; decide)) aSubL_nil) ?_
    exact Tf108_b102 hd a0 ha0 r99_4.2 _ h
def f108_b32 (kad : Nat → Nat) (N : Nat) (Z : AZ) (a0 : Nat) (i1 : Int32) (s0 : Int32) (I : AI) : Option (Unit × AI) :=
  (f26 kad N Z (a0 + 13) i1 s0 (a0 + 2) (a0 + 8) I).bind fun r50_1 =>
  if ¬ r50_1.1 = 0 then
    f108_b75 kad N Z a0 r50_1.1 r50_1.2
  else
    (f29 kad N Z (a0 + 13) i1 s0 (a0 + 1) (a0 + 8) r50_1.2).bind fun r72_2 =>
    f108_b75 kad N Z a0 r50_1.1 r72_2.2
set_option maxRecDepth 20000 in
theorem Tf108_b32 {kad : Nat → Nat} {N : Nat} {Z : AZ} {d : Nat} {t : Option Nat × (Nat × Nat)} (hd : 3 ≤ d) : ∀ (a0 : Nat) (ha0 : sh8 kad Z a0) (i1 : Int32) (s0 : Int32) (I : AI) (r : Unit × AI), f108_b32 kad N Z a0 i1 s0 I = some r → aGo kad d 108 (32, ([(0, .ref a0), (1, .int i1)], [.int s0])) (aMem Z I, t) (qV Z t r) := by
  intro a0 ha0 i1 s0 I r h
  unfold f108_b32 at h
  refine go_ops aMi108 2 _ (f1 := (34, ([(2, .int s0), (0, .ref a0), (1, .int i1)], [.ref a0]))) rfl ?_
  refine gg_gR (b := (a0 + 13)) aMi108 rfl rfl rfl (gR_of (sh8_z ha0) (sh8_r5 ha0)) ?_
  refine go_ops aMi108 3 _ (f1 := (40, ([(2, .int s0), (0, .ref a0), (1, .int i1)], [.ref a0, .int s0, .int i1, .ref (a0 + 13)]))) rfl ?_
  refine gg_gR (b := (a0 + 1)) aMi108 rfl rfl rfl (gR_of (sh8_z ha0) (sh8_r0 ha0)) ?_
  refine gg_gR (b := (a0 + 2)) aMi108 rfl rfl rfl (gR_of (sh2_z (sh8_s0 ha0)) (sh2_r14 (sh8_s0 ha0))) ?_
  refine go_ops aMi108 1 _ (f1 := (47, ([(2, .int s0), (0, .ref a0), (1, .int i1)], [.ref a0, .ref (a0 + 2), .int s0, .int i1, .ref (a0 + 13)]))) rfl ?_
  refine gg_gR (b := (a0 + 8)) aMi108 rfl rfl rfl (gR_of (sh8_z ha0) (sh8_r3 ha0)) ?_
  obtain ⟨r50_1, hxr50_1, h⟩ := Option.bind_eq_some_iff.mp h
  refine gg_cv (as := [.int i1, .int s0, .ref (a0 + 2), .ref (a0 + 8)]) (r := []) aMi108 rfl rfl rfl aMi26 (Nat.le_of_ble_eq_true rfl) rfl (Nat.le_of_ble_eq_true rfl) (Nat.le_of_ble_eq_true rfl) (by omega) (isK_of (sh1_z (sh8_s5 ha0))) (Tf26 (by omega) (a0 + 13) (sh8_s5 ha0) i1 s0 (a0 + 2) (a0 + 8) (sh8_s3 ha0) I _ hxr50_1) ?_
  show aGo kad d 108 (53, ([(2, .int s0), (0, .ref a0), (1, .int i1)], [.int r50_1.1])) (aMem Z r50_1.2, t) _
  refine go_ops aMi108 2 _ (f1 := (55, ([(3, .int r50_1.1), (2, .int s0), (0, .ref a0), (1, .int i1)], [.int r50_1.1]))) rfl ?_
  refine gg_br (b := decide (¬ r50_1.1 = 0)) (tg := 75) (off := 20) aMi108 rfl rfl rfl rfl (fun hb => ?_) (fun hb => ?_)
  · rw [if_pos (of_decide_eq_true hb)] at h
    refine go_le (lv1 := [(0, .ref a0), (3, .int r50_1.1)]) (aLe_of (show (List.map (fun q => q.1) ([(0, .ref a0), (3, .int r50_1.1)] : ALv)).Nodup from (by show ([0, 3] : List Nat).Nodup; decide)) (aSubL_cons rfl (aSubL_cons rfl aSubL_nil))) ?_
    exact Tf108_b75 hd a0 ha0 r50_1.1 r50_1.2 _ h
  · rw [if_neg (of_decide_eq_false hb)] at h
    refine go_ops aMi108 1 _ (f1 := (59, ([(3, .int r50_1.1), (2, .int s0), (0, .ref a0), (1, .int i1)], [.ref a0]))) rfl ?_
    refine gg_gR (b := (a0 + 13)) aMi108 rfl rfl rfl (gR_of (sh8_z ha0) (sh8_r5 ha0)) ?_
    refine go_ops aMi108 3 _ (f1 := (65, ([(3, .int r50_1.1), (2, .int s0), (0, .ref a0), (1, .int i1)], [.ref a0, .int s0, .int i1, .ref (a0 + 13)]))) rfl ?_
    refine gg_gR (b := (a0 + 1)) aMi108 rfl rfl rfl (gR_of (sh8_z ha0) (sh8_r0 ha0)) ?_
    refine go_ops aMi108 1 _ (f1 := (69, ([(3, .int r50_1.1), (2, .int s0), (0, .ref a0), (1, .int i1)], [.ref a0, .ref (a0 + 1), .int s0, .int i1, .ref (a0 + 13)]))) rfl ?_
    refine gg_gR (b := (a0 + 8)) aMi108 rfl rfl rfl (gR_of (sh8_z ha0) (sh8_r3 ha0)) ?_
    obtain ⟨r72_2, hxr72_2, h⟩ := Option.bind_eq_some_iff.mp h
    refine gg_cv (as := [.int i1, .int s0, .ref (a0 + 1), .ref (a0 + 8)]) (r := []) aMi108 rfl rfl rfl aMi29 (Nat.le_of_ble_eq_true rfl) rfl (Nat.le_of_ble_eq_true rfl) (Nat.le_of_ble_eq_true rfl) (by omega) (isK_of (sh1_z (sh8_s5 ha0))) (Tf29 (by omega) (a0 + 13) (sh8_s5 ha0) i1 s0 (a0 + 1) (sh8_s0 ha0) (a0 + 8) (sh8_s3 ha0) r50_1.2 _ hxr72_2) ?_
    show aGo kad d 108 (75, ([(3, .int r50_1.1), (2, .int s0), (0, .ref a0), (1, .int i1)], [])) (aMem Z r72_2.2, t) _
    refine go_le (lv1 := [(0, .ref a0), (3, .int r50_1.1)]) (aLe_of (show (List.map (fun q => q.1) ([(0, .ref a0), (3, .int r50_1.1)] : ALv)).Nodup from (by show ([0, 3] : List Nat).Nodup; decide)) (aSubL_cons rfl (aSubL_cons rfl aSubL_nil))) ?_
    exact Tf108_b75 hd a0 ha0 r50_1.1 r72_2.2 _ h
def f108 (kad : Nat → Nat) (N : Nat) (Z : AZ) (a0 : Nat) (i1 : Int32) (I : AI) : Option (Unit × AI) :=
  (ixA 4 (0 : Int32)).bind fun j8_1 =>
  if ¬ (I (a0 + 2) j8_1) = 0 then
    (ixA 4 (0 : Int32)).bind fun j28_2 =>
    (f51 kad N Z (a0 + 8) (I (a0 + 2) j28_2) I).bind fun r29_3 =>
    f108_b32 kad N Z a0 i1 r29_3.1 r29_3.2
  else
    f108_b32 kad N Z a0 i1 (Int32.ofInt (-1)) I
set_option maxRecDepth 20000 in
theorem Tf108 {kad : Nat → Nat} {N : Nat} {Z : AZ} {d : Nat} {t : Option Nat × (Nat × Nat)} (hd : 3 ≤ d) : ∀ (a0 : Nat) (ha0 : sh8 kad Z a0) (i1 : Int32) (I : AI) (r : Unit × AI), f108 kad N Z a0 i1 I = some r → aGo kad d 108 (0, ([(0, .ref a0), (1, .int i1)], [])) (aMem Z I, t) (qV Z t r) := by
  intro a0 ha0 i1 I r h
  unfold f108 at h
  refine go_ops aMi108 1 _ (f1 := (1, ([(0, .ref a0), (1, .int i1)], [.ref a0]))) rfl ?_
  refine gg_gR (b := (a0 + 1)) aMi108 rfl rfl rfl (gR_of (sh8_z ha0) (sh8_r0 ha0)) ?_
  refine gg_gR (b := (a0 + 2)) aMi108 rfl rfl rfl (gR_of (sh2_z (sh8_s0 ha0)) (sh2_r14 (sh8_s0 ha0))) ?_
  refine go_ops aMi108 1 _ (f1 := (8, ([(0, .ref a0), (1, .int i1)], [.int (0 : Int32), .ref (a0 + 2)]))) rfl ?_
  obtain ⟨j8_1, hxj8_1, h⟩ := Option.bind_eq_some_iff.mp h
  refine gg_lI (Or.inl ⟨rfl, rfl⟩) aMi108 rfl (lI_of (sh2_a14 (sh8_s0 ha0)) hxj8_1) ?_
  refine gg_br (b := decide (¬ (I (a0 + 2) j8_1) = 0)) (tg := 16) (off := 7) aMi108 rfl rfl rfl rfl (fun hb => ?_) (fun hb => ?_)
  · rw [if_pos (of_decide_eq_true hb)] at h
    refine go_ops aMi108 1 _ (f1 := (17, ([(0, .ref a0), (1, .int i1)], [.ref a0]))) rfl ?_
    refine gg_gR (b := (a0 + 8)) aMi108 rfl rfl rfl (gR_of (sh8_z ha0) (sh8_r3 ha0)) ?_
    refine go_ops aMi108 1 _ (f1 := (21, ([(0, .ref a0), (1, .int i1)], [.ref a0, .ref (a0 + 8)]))) rfl ?_
    refine gg_gR (b := (a0 + 1)) aMi108 rfl rfl rfl (gR_of (sh8_z ha0) (sh8_r0 ha0)) ?_
    refine gg_gR (b := (a0 + 2)) aMi108 rfl rfl rfl (gR_of (sh2_z (sh8_s0 ha0)) (sh2_r14 (sh8_s0 ha0))) ?_
    refine go_ops aMi108 1 _ (f1 := (28, ([(0, .ref a0), (1, .int i1)], [.int (0 : Int32), .ref (a0 + 2), .ref (a0 + 8)]))) rfl ?_
    obtain ⟨j28_2, hxj28_2, h⟩ := Option.bind_eq_some_iff.mp h
    refine gg_lI (Or.inl ⟨rfl, rfl⟩) aMi108 rfl (lI_of (sh2_a14 (sh8_s0 ha0)) hxj28_2) ?_
    obtain ⟨r29_3, hxr29_3, h⟩ := Option.bind_eq_some_iff.mp h
    refine gg_cv (as := [.int (I (a0 + 2) j28_2)]) (r := []) aMi108 rfl rfl rfl aMi51 (Nat.le_of_ble_eq_true rfl) rfl (Nat.le_of_ble_eq_true rfl) (Nat.le_of_ble_eq_true rfl) (by omega) (isK_of (sh3_z (sh8_s3 ha0))) (Tf51 (by omega) (a0 + 8) (sh8_s3 ha0) (I (a0 + 2) j28_2) I _ hxr29_3) ?_
    show aGo kad d 108 (32, ([(0, .ref a0), (1, .int i1)], [.int r29_3.1])) (aMem Z r29_3.2, t) _
    exact Tf108_b32 hd a0 ha0 i1 r29_3.1 r29_3.2 _ h
  · rw [if_neg (of_decide_eq_false hb)] at h
    refine go_ops aMi108 2 _ (f1 := (32, ([(0, .ref a0), (1, .int i1)], [.int (Int32.ofInt (-1))]))) rfl ?_
    exact Tf108_b32 hd a0 ha0 i1 (Int32.ofInt (-1)) I _ h
-- KernelGym$Machine.hasPushed (I)Z
def f94 (kad : Nat → Nat) (N : Nat) (Z : AZ) (a0 : Nat) (i1 : Int32) (I : AI) : Option (Int32 × AI) :=
  if ((I (a0 + 1) 4) + i1) ≤ (256 : Int32) then
    some ((1 : Int32), I)
  else
    (f87 kad N Z a0 (3 : Int32) I).bind fun r17_1 =>
    some ((0 : Int32), r17_1.2)
set_option maxRecDepth 20000 in
theorem Tf94 {kad : Nat → Nat} {N : Nat} {Z : AZ} {d : Nat} {t : Option Nat × (Nat × Nat)} (hd : 1 ≤ d) : ∀ (a0 : Nat) (ha0 : sh8 kad Z a0) (i1 : Int32) (I : AI) (r : Int32 × AI), f94 kad N Z a0 i1 I = some r → aGo kad d 94 (0, ([(0, .ref a0), (1, .int i1)], [])) (aMem Z I, t) (qI Z t r) := by
  intro a0 ha0 i1 I r h
  unfold f94 at h
  refine go_ops aMi94 1 _ (f1 := (1, ([(0, .ref a0), (1, .int i1)], [.ref a0]))) rfl ?_
  refine gg_gR (b := (a0 + 1)) aMi94 rfl rfl rfl (gR_of (sh8_z ha0) (sh8_r0 ha0)) ?_
  refine gg_gI aMi94 rfl rfl rfl (gI_of (sh2_z (sh8_s0 ha0))) ?_
  refine go_ops aMi94 3 _ (f1 := (12, ([(0, .ref a0), (1, .int i1)], [.int (256 : Int32), .int ((I (a0 + 1) 4) + i1)]))) rfl ?_
  refine gg_br (b := decide (((I (a0 + 1) 4) + i1) ≤ (256 : Int32))) (tg := 22) (off := 10) aMi94 rfl rfl rfl rfl (fun hb => ?_) (fun hb => ?_)
  · rw [if_pos (of_decide_eq_true hb)] at h
    refine go_ops aMi94 1 _ (f1 := (23, ([(0, .ref a0), (1, .int i1)], [.int (1 : Int32)]))) rfl ?_
    cases h
    exact go_ret aMi94 rfl (aRetZ (Or.inr rfl)) ⟨rfl, rfl⟩
  · rw [if_neg (of_decide_eq_false hb)] at h
    refine go_ops aMi94 2 _ (f1 := (17, ([(0, .ref a0), (1, .int i1)], [.int (3 : Int32), .ref a0]))) rfl ?_
    obtain ⟨r17_1, hxr17_1, h⟩ := Option.bind_eq_some_iff.mp h
    refine gg_cv (as := [.int (3 : Int32)]) (r := []) aMi94 rfl rfl rfl aMi87 (Nat.le_of_ble_eq_true rfl) rfl (Nat.le_of_ble_eq_true rfl) (Nat.le_of_ble_eq_true rfl) (by omega) (isK_of (sh8_z ha0)) (Tf87 (by omega) a0 ha0 (3 : Int32) I _ hxr17_1) ?_
    show aGo kad d 94 (20, ([(0, .ref a0), (1, .int i1)], [])) (aMem Z r17_1.2, t) _
    refine go_ops aMi94 1 _ (f1 := (21, ([(0, .ref a0), (1, .int i1)], [.int (0 : Int32)]))) rfl ?_
    cases h
    exact go_ret aMi94 rfl (aRetZ (Or.inl rfl)) ⟨rfl, rfl⟩
-- KernelGym$Machine.pull ()I
def f92 (kad : Nat → Nat) (N : Nat) (Z : AZ) (a0 : Nat) (I : AI) : Option (Int32 × AI) :=
  (wI I (a0 + 1) 4 ((I (a0 + 1) 4) + (1 : Int32))).bind fun I10_1 =>
  (f89 kad N Z a0 ((I10_1 (a0 + 1) 4) - (1 : Int32)) I10_1).bind fun r23_2 =>
  some (r23_2.1, r23_2.2)
set_option maxRecDepth 20000 in
theorem Tf92 {kad : Nat → Nat} {N : Nat} {Z : AZ} {d : Nat} {t : Option Nat × (Nat × Nat)} (hd : 1 ≤ d) : ∀ (a0 : Nat) (ha0 : sh8 kad Z a0) (I : AI) (r : Int32 × AI), f92 kad N Z a0 I = some r → aGo kad d 92 (0, ([(0, .ref a0)], [])) (aMem Z I, t) (qI Z t r) := by
  intro a0 ha0 I r h
  unfold f92 at h
  refine go_ops aMi92 1 _ (f1 := (1, ([(0, .ref a0)], [.ref a0]))) rfl ?_
  refine gg_gR (b := (a0 + 1)) aMi92 rfl rfl rfl (gR_of (sh8_z ha0) (sh8_r0 ha0)) ?_
  refine go_ops aMi92 1 _ (f1 := (5, ([(0, .ref a0)], [.ref (a0 + 1), .ref (a0 + 1)]))) rfl ?_
  refine gg_gI aMi92 rfl rfl rfl (gI_of (sh2_z (sh8_s0 ha0))) ?_
  refine go_ops aMi92 2 _ (f1 := (10, ([(0, .ref a0)], [.int ((I (a0 + 1) 4) + (1 : Int32)), .ref (a0 + 1)]))) rfl ?_
  obtain ⟨I10_1, hxI10_1, h⟩ := Option.bind_eq_some_iff.mp h
  refine gg_pI aMi92 rfl rfl rfl rfl (by decide) (pI_of (sh2_z (sh8_s0 ha0)) hxI10_1) ?_
  refine go_ops aMi92 2 _ (f1 := (15, ([(0, .ref a0)], [.ref a0, .ref a0]))) rfl ?_
  refine gg_gR (b := (a0 + 1)) aMi92 rfl rfl rfl (gR_of (sh8_z ha0) (sh8_r0 ha0)) ?_
  refine gg_gI aMi92 rfl rfl rfl (gI_of (sh2_z (sh8_s0 ha0))) ?_
  refine go_ops aMi92 2 _ (f1 := (23, ([(0, .ref a0)], [.int ((I10_1 (a0 + 1) 4) - (1 : Int32)), .ref a0]))) rfl ?_
  obtain ⟨r23_2, hxr23_2, h⟩ := Option.bind_eq_some_iff.mp h
  refine gg_cv (as := [.int ((I10_1 (a0 + 1) 4) - (1 : Int32))]) (r := []) aMi92 rfl rfl rfl aMi89 (Nat.le_of_ble_eq_true rfl) rfl (Nat.le_of_ble_eq_true rfl) (Nat.le_of_ble_eq_true rfl) (by omega) (isK_of (sh8_z ha0)) (Tf89 (by omega) a0 ha0 ((I10_1 (a0 + 1) 4) - (1 : Int32)) I10_1 _ hxr23_2) ?_
  show aGo kad d 92 (26, ([(0, .ref a0)], [.int r23_2.1])) (aMem Z r23_2.2, t) _
  cases h
  exact go_ret aMi92 rfl aRetI ⟨rfl, rfl⟩
-- KernelGym$Machine.returnFromInterrupt ()V
def f105_b68 (kad : Nat → Nat) (N : Nat) (Z : AZ) (a0 : Nat) (I : AI) : Option (Unit × AI) :=
  some ((), I)
set_option maxRecDepth 20000 in
theorem Tf105_b68 {kad : Nat → Nat} {N : Nat} {Z : AZ} {d : Nat} {t : Option Nat × (Nat × Nat)} (hd : 2 ≤ d) : ∀ (a0 : Nat) (ha0 : sh8 kad Z a0) (I : AI) (r : Unit × AI), f105_b68 kad N Z a0 I = some r → aGo kad d 105 (68, ([], [])) (aMem Z I, t) (qV Z t r) := by
  intro a0 ha0 I r h
  unfold f105_b68 at h
  cases h
  exact go_ret aMi105 rfl rfl ⟨rfl, rfl⟩
def f105_b46 (kad : Nat → Nat) (N : Nat) (Z : AZ) (a0 : Nat) (s0 : Int32) (I : AI) : Option (Unit × AI) :=
  (wB I (a0 + 1) 6 s0).bind fun I46_1 =>
  (f92 kad N Z a0 I46_1).bind fun r54_2 =>
  (wI r54_2.2 (a0 + 1) 3 r54_2.1).bind fun I57_3 =>
  (wI I57_3 (a0 + 1) 7 (1 : Int32)).bind fun I65_4 =>
  f105_b68 kad N Z a0 I65_4
set_option maxRecDepth 20000 in
theorem Tf105_b46 {kad : Nat → Nat} {N : Nat} {Z : AZ} {d : Nat} {t : Option Nat × (Nat × Nat)} (hd : 2 ≤ d) : ∀ (a0 : Nat) (ha0 : sh8 kad Z a0) (s0 : Int32) (I : AI) (r : Unit × AI), f105_b46 kad N Z a0 s0 I = some r → aGo kad d 105 (46, ([(0, .ref a0)], [.int s0, .ref (a0 + 1)])) (aMem Z I, t) (qV Z t r) := by
  intro a0 ha0 s0 I r h
  unfold f105_b46 at h
  obtain ⟨I46_1, hxI46_1, h⟩ := Option.bind_eq_some_iff.mp h
  refine gg_pB aMi105 rfl rfl rfl rfl (by decide) (pB_of (sh2_z (sh8_s0 ha0)) hxI46_1) ?_
  refine go_ops aMi105 1 _ (f1 := (50, ([(0, .ref a0)], [.ref a0]))) rfl ?_
  refine gg_gR (b := (a0 + 1)) aMi105 rfl rfl rfl (gR_of (sh8_z ha0) (sh8_r0 ha0)) ?_
  refine go_ops aMi105 1 _ (f1 := (54, ([(0, .ref a0)], [.ref a0, .ref (a0 + 1)]))) rfl ?_
  obtain ⟨r54_2, hxr54_2, h⟩ := Option.bind_eq_some_iff.mp h
  refine gg_cv (as := []) (r := [.ref (a0 + 1)]) aMi105 rfl rfl rfl aMi92 (Nat.le_of_ble_eq_true rfl) rfl (Nat.le_of_ble_eq_true rfl) (Nat.le_of_ble_eq_true rfl) (by omega) (isK_of (sh8_z ha0)) (Tf92 (by omega) a0 ha0 I46_1 _ hxr54_2) ?_
  show aGo kad d 105 (57, ([(0, .ref a0)], [.int r54_2.1, .ref (a0 + 1)])) (aMem Z r54_2.2, t) _
  obtain ⟨I57_3, hxI57_3, h⟩ := Option.bind_eq_some_iff.mp h
  refine gg_pI aMi105 rfl rfl rfl rfl (by decide) (pI_of (sh2_z (sh8_s0 ha0)) hxI57_3) ?_
  refine go_ops aMi105 1 _ (f1 := (61, ([(0, .ref a0)], [.ref a0]))) rfl ?_
  refine gg_gR (b := (a0 + 1)) aMi105 rfl rfl rfl (gR_of (sh8_z ha0) (sh8_r0 ha0)) ?_
  refine go_ops aMi105 1 _ (f1 := (65, ([(0, .ref a0)], [.int (1 : Int32), .ref (a0 + 1)]))) rfl ?_
  obtain ⟨I65_4, hxI65_4, h⟩ := Option.bind_eq_some_iff.mp h
  refine gg_pB aMi105 rfl rfl rfl rfl (by decide) (pB_lit (sh2_z (sh8_s0 ha0)) (Or.inr rfl) hxI65_4) ?_
  refine go_le (lv1 := []) (aLe_of (show (List.map (fun q => q.1) ([] : ALv)).Nodup from (by show ([] : List Nat).Nodup; decide)) aSubL_nil) ?_
  exact Tf105_b68 hd a0 ha0 I65_4 _ h
def f105_b28 (kad : Nat → Nat) (N : Nat) (Z : AZ) (a0 : Nat) (i1 : Int32) (s0 : Int32) (I : AI) : Option (Unit × AI) :=
  (wB I (a0 + 1) 5 s0).bind fun I28_1 =>
  if (i1 &&& (2 : Int32)) = 0 then
    f105_b46 kad N Z a0 (0 : Int32) I28_1
  else
    f105_b46 kad N Z a0 (1 : Int32) I28_1
set_option maxRecDepth 20000 in
theorem Tf105_b28 {kad : Nat → Nat} {N : Nat} {Z : AZ} {d : Nat} {t : Option Nat × (Nat × Nat)} (hd : 2 ≤ d) : ∀ (a0 : Nat) (ha0 : sh8 kad Z a0) (i1 : Int32) (s0 : Int32) (I : AI) (r : Unit × AI), f105_b28 kad N Z a0 i1 s0 I = some r → aGo kad d 105 (28, ([(0, .ref a0), (1, .int i1)], [.int s0, .ref (a0 + 1)])) (aMem Z I, t) (qV Z t r) := by
  intro a0 ha0 i1 s0 I r h
  unfold f105_b28 at h
  obtain ⟨I28_1, hxI28_1, h⟩ := Option.bind_eq_some_iff.mp h
  refine gg_pB aMi105 rfl rfl rfl rfl (by decide) (pB_of (sh2_z (sh8_s0 ha0)) hxI28_1) ?_
  refine go_ops aMi105 1 _ (f1 := (32, ([(0, .ref a0), (1, .int i1)], [.ref a0]))) rfl ?_
  refine gg_gR (b := (a0 + 1)) aMi105 rfl rfl rfl (gR_of (sh8_z ha0) (sh8_r0 ha0)) ?_
  refine go_ops aMi105 3 _ (f1 := (38, ([(0, .ref a0), (1, .int i1)], [.int (i1 &&& (2 : Int32)), .ref (a0 + 1)]))) rfl ?_
  refine gg_br (b := decide ((i1 &&& (2 : Int32)) = 0)) (tg := 45) (off := 7) aMi105 rfl rfl rfl rfl (fun hb => ?_) (fun hb => ?_)
  · rw [if_pos (of_decide_eq_true hb)] at h
    refine go_ops aMi105 1 _ (f1 := (46, ([(0, .ref a0), (1, .int i1)], [.int (0 : Int32), .ref (a0 + 1)]))) rfl ?_
    refine go_le (lv1 := [(0, .ref a0)]) (aLe_of (show (List.map (fun q => q.1) ([(0, .ref a0)] : ALv)).Nodup from (by show ([0] : List Nat).Nodup; decide)) (aSubL_cons rfl aSubL_nil)) ?_
    exact Tf105_b46 hd a0 ha0 (0 : Int32) I28_1 _ h
  · rw [if_neg (of_decide_eq_false hb)] at h
    refine go_ops aMi105 2 _ (f1 := (46, ([(0, .ref a0), (1, .int i1)], [.int (1 : Int32), .ref (a0 + 1)]))) rfl ?_
    refine go_le (lv1 := [(0, .ref a0)]) (aLe_of (show (List.map (fun q => q.1) ([(0, .ref a0)] : ALv)).Nodup from (by show ([0] : List Nat).Nodup; decide)) (aSubL_cons rfl aSubL_nil)) ?_
    exact Tf105_b46 hd a0 ha0 (1 : Int32) I28_1 _ h
def f105 (kad : Nat → Nat) (N : Nat) (Z : AZ) (a0 : Nat) (I : AI) : Option (Unit × AI) :=
  (f94 kad N Z a0 (2 : Int32) I).bind fun r2_1 =>
  if r2_1.1 = 0 then
    f105_b68 kad N Z a0 r2_1.2
  else
    (f92 kad N Z a0 r2_1.2).bind fun r9_2 =>
    if (r9_2.1 &&& (1 : Int32)) = 0 then
      f105_b28 kad N Z a0 r9_2.1 (0 : Int32) r9_2.2
    else
      f105_b28 kad N Z a0 r9_2.1 (1 : Int32) r9_2.2
set_option maxRecDepth 20000 in
theorem Tf105 {kad : Nat → Nat} {N : Nat} {Z : AZ} {d : Nat} {t : Option Nat × (Nat × Nat)} (hd : 2 ≤ d) : ∀ (a0 : Nat) (ha0 : sh8 kad Z a0) (I : AI) (r : Unit × AI), f105 kad N Z a0 I = some r → aGo kad d 105 (0, ([(0, .ref a0)], [])) (aMem Z I, t) (qV Z t r) := by
  intro a0 ha0 I r h
  unfold f105 at h
  refine go_ops aMi105 2 _ (f1 := (2, ([(0, .ref a0)], [.int (2 : Int32), .ref a0]))) rfl ?_
  obtain ⟨r2_1, hxr2_1, h⟩ := Option.bind_eq_some_iff.mp h
  refine gg_cv (as := [.int (2 : Int32)]) (r := []) aMi105 rfl rfl rfl aMi94 (Nat.le_of_ble_eq_true rfl) rfl (Nat.le_of_ble_eq_true rfl) (Nat.le_of_ble_eq_true rfl) (by omega) (isK_of (sh8_z ha0)) (Tf94 (by omega) a0 ha0 (2 : Int32) I _ hxr2_1) ?_
  show aGo kad d 105 (5, ([(0, .ref a0)], [.int r2_1.1])) (aMem Z r2_1.2, t) _
  refine gg_br (b := decide (r2_1.1 = 0)) (tg := 68) (off := 63) aMi105 rfl rfl rfl rfl (fun hb => ?_) (fun hb => ?_)
  · rw [if_pos (of_decide_eq_true hb)] at h
    refine go_le (lv1 := []) (aLe_of (show (List.map (fun q => q.1) ([] : ALv)).Nodup from (by show ([] : List Nat).Nodup; decide)) aSubL_nil) ?_
    exact Tf105_b68 hd a0 ha0 r2_1.2 _ h
  · rw [if_neg (of_decide_eq_false hb)] at h
    refine go_ops aMi105 1 _ (f1 := (9, ([(0, .ref a0)], [.ref a0]))) rfl ?_
    obtain ⟨r9_2, hxr9_2, h⟩ := Option.bind_eq_some_iff.mp h
    refine gg_cv (as := []) (r := []) aMi105 rfl rfl rfl aMi92 (Nat.le_of_ble_eq_true rfl) rfl (Nat.le_of_ble_eq_true rfl) (Nat.le_of_ble_eq_true rfl) (by omega) (isK_of (sh8_z ha0)) (Tf92 (by omega) a0 ha0 r2_1.2 _ hxr9_2) ?_
    show aGo kad d 105 (12, ([(0, .ref a0)], [.int r9_2.1])) (aMem Z r9_2.2, t) _
    refine go_ops aMi105 2 _ (f1 := (14, ([(1, .int r9_2.1), (0, .ref a0)], [.ref a0]))) rfl ?_
    refine gg_gR (b := (a0 + 1)) aMi105 rfl rfl rfl (gR_of (sh8_z ha0) (sh8_r0 ha0)) ?_
    refine go_ops aMi105 3 _ (f1 := (20, ([(1, .int r9_2.1), (0, .ref a0)], [.int (r9_2.1 &&& (1 : Int32)), .ref (a0 + 1)]))) rfl ?_
    refine gg_br (b := decide ((r9_2.1 &&& (1 : Int32)) = 0)) (tg := 27) (off := 7) aMi105 rfl rfl rfl rfl (fun hb => ?_) (fun hb => ?_)
    · rw [if_pos (of_decide_eq_true hb)] at h
      refine go_ops aMi105 1 _ (f1 := (28, ([(1, .int r9_2.1), (0, .ref a0)], [.int (0 : Int32), .ref (a0 + 1)]))) rfl ?_
      refine go_le (lv1 := [(0, .ref a0), (1, .int r9_2.1)]) (aLe_of (show (List.map (fun q => q.1) ([(0, .ref a0), (1, .int r9_2.1)] : ALv)).Nodup from (by show ([0, 1] : List Nat).Nodup; decide)) (aSubL_cons rfl (aSubL_cons rfl aSubL_nil))) ?_
      exact Tf105_b28 hd a0 ha0 r9_2.1 (0 : Int32) r9_2.2 _ h
    · rw [if_neg (of_decide_eq_false hb)] at h
      refine go_ops aMi105 2 _ (f1 := (28, ([(1, .int r9_2.1), (0, .ref a0)], [.int (1 : Int32), .ref (a0 + 1)]))) rfl ?_
      refine go_le (lv1 := [(0, .ref a0), (1, .int r9_2.1)]) (aLe_of (show (List.map (fun q => q.1) ([(0, .ref a0), (1, .int r9_2.1)] : ALv)).Nodup from (by show ([0, 1] : List Nat).Nodup; decide)) (aSubL_cons rfl (aSubL_cons rfl aSubL_nil))) ?_
      exact Tf105_b28 hd a0 ha0 r9_2.1 (1 : Int32) r9_2.2 _ h
-- KernelGym$Machine.nextKey ()I
def f106 (kad : Nat → Nat) (N : Nat) (Z : AZ) (a0 : Nat) (I : AI) : Option (Int32 × AI) :=
  (f75 kad N Z (a0 + 10) (I (a0 + 1) 2) I).bind fun r18_1 =>
  if (I (a0 + 1) 13) < r18_1.1 then
    (wI r18_1.2 (a0 + 1) 13 (((r18_1.2) (a0 + 1) 13) + (1 : Int32))).bind fun I37_2 =>
    (f77 kad N Z (a0 + 10) ((I37_2 (a0 + 1) 13) - (1 : Int32)) I37_2).bind fun r53_3 =>
    some (r53_3.1, r53_3.2)
  else
    some ((65535 : Int32), r18_1.2)
set_option maxRecDepth 20000 in
theorem Tf106 {kad : Nat → Nat} {N : Nat} {Z : AZ} {d : Nat} {t : Option Nat × (Nat × Nat)} (hd : 1 ≤ d) : ∀ (a0 : Nat) (ha0 : sh8 kad Z a0) (I : AI) (r : Int32 × AI), f106 kad N Z a0 I = some r → aGo kad d 106 (0, ([(0, .ref a0)], [])) (aMem Z I, t) (qI Z t r) := by
  intro a0 ha0 I r h
  unfold f106 at h
  refine go_ops aMi106 1 _ (f1 := (1, ([(0, .ref a0)], [.ref a0]))) rfl ?_
  refine gg_gR (b := (a0 + 1)) aMi106 rfl rfl rfl (gR_of (sh8_z ha0) (sh8_r0 ha0)) ?_
  refine gg_gI aMi106 rfl rfl rfl (gI_of (sh2_z (sh8_s0 ha0))) ?_
  refine go_ops aMi106 1 _ (f1 := (8, ([(0, .ref a0)], [.ref a0, .int (I (a0 + 1) 13)]))) rfl ?_
  refine gg_gR (b := (a0 + 10)) aMi106 rfl rfl rfl (gR_of (sh8_z ha0) (sh8_r4 ha0)) ?_
  refine go_ops aMi106 1 _ (f1 := (12, ([(0, .ref a0)], [.ref a0, .ref (a0 + 10), .int (I (a0 + 1) 13)]))) rfl ?_
  refine gg_gR (b := (a0 + 1)) aMi106 rfl rfl rfl (gR_of (sh8_z ha0) (sh8_r0 ha0)) ?_
  refine gg_gI aMi106 rfl rfl rfl (gI_of (sh2_z (sh8_s0 ha0))) ?_
  obtain ⟨r18_1, hxr18_1, h⟩ := Option.bind_eq_some_iff.mp h
  refine gg_cv (as := [.int (I (a0 + 1) 2)]) (r := [.int (I (a0 + 1) 13)]) aMi106 rfl rfl rfl aMi75 (Nat.le_of_ble_eq_true rfl) rfl (Nat.le_of_ble_eq_true rfl) (Nat.le_of_ble_eq_true rfl) (by omega) (isK_of (sh6_z (sh8_s4 ha0))) (Tf75 (by omega) (a0 + 10) (sh8_s4 ha0) (I (a0 + 1) 2) I _ hxr18_1) ?_
  show aGo kad d 106 (21, ([(0, .ref a0)], [.int r18_1.1, .int (I (a0 + 1) 13)])) (aMem Z r18_1.2, t) _
  refine gg_br (b := decide ((I (a0 + 1) 13) < r18_1.1)) (tg := 27) (off := 6) aMi106 rfl rfl rfl rfl (fun hb => ?_) (fun hb => ?_)
  · rw [if_pos (of_decide_eq_true hb)] at h
    refine go_ops aMi106 1 _ (f1 := (28, ([(0, .ref a0)], [.ref a0]))) rfl ?_
    refine gg_gR (b := (a0 + 1)) aMi106 rfl rfl rfl (gR_of (sh8_z ha0) (sh8_r0 ha0)) ?_
    refine go_ops aMi106 1 _ (f1 := (32, ([(0, .ref a0)], [.ref (a0 + 1), .ref (a0 + 1)]))) rfl ?_
    refine gg_gI aMi106 rfl rfl rfl (gI_of (sh2_z (sh8_s0 ha0))) ?_
    refine go_ops aMi106 2 _ (f1 := (37, ([(0, .ref a0)], [.int (((r18_1.2) (a0 + 1) 13) + (1 : Int32)), .ref (a0 + 1)]))) rfl ?_
    obtain ⟨I37_2, hxI37_2, h⟩ := Option.bind_eq_some_iff.mp h
    refine gg_pI aMi106 rfl rfl rfl rfl (by decide) (pI_of (sh2_z (sh8_s0 ha0)) hxI37_2) ?_
    refine go_ops aMi106 1 _ (f1 := (41, ([(0, .ref a0)], [.ref a0]))) rfl ?_
    refine gg_gR (b := (a0 + 10)) aMi106 rfl rfl rfl (gR_of (sh8_z ha0) (sh8_r4 ha0)) ?_
    refine go_ops aMi106 1 _ (f1 := (45, ([(0, .ref a0)], [.ref a0, .ref (a0 + 10)]))) rfl ?_
    refine gg_gR (b := (a0 + 1)) aMi106 rfl rfl rfl (gR_of (sh8_z ha0) (sh8_r0 ha0)) ?_
    refine gg_gI aMi106 rfl rfl rfl (gI_of (sh2_z (sh8_s0 ha0))) ?_
    refine go_ops aMi106 2 _ (f1 := (53, ([(0, .ref a0)], [.int ((I37_2 (a0 + 1) 13) - (1 : Int32)), .ref (a0 + 10)]))) rfl ?_
    obtain ⟨r53_3, hxr53_3, h⟩ := Option.bind_eq_some_iff.mp h
    refine gg_cv (as := [.int ((I37_2 (a0 + 1) 13) - (1 : Int32))]) (r := []) aMi106 rfl rfl rfl aMi77 (Nat.le_of_ble_eq_true rfl) rfl (Nat.le_of_ble_eq_true rfl) (Nat.le_of_ble_eq_true rfl) (by omega) (isK_of (sh6_z (sh8_s4 ha0))) (Tf77 (by omega) (a0 + 10) (sh8_s4 ha0) ((I37_2 (a0 + 1) 13) - (1 : Int32)) I37_2 _ hxr53_3) ?_
    show aGo kad d 106 (56, ([(0, .ref a0)], [.int r53_3.1])) (aMem Z r53_3.2, t) _
    cases h
    exact go_ret aMi106 rfl aRetI ⟨rfl, rfl⟩
  · rw [if_neg (of_decide_eq_false hb)] at h
    refine gg_kI (Or.inl ⟨rfl, rfl⟩) aMi106 rfl rfl ?_
    cases h
    exact go_ret aMi106 rfl aRetI ⟨rfl, rfl⟩
