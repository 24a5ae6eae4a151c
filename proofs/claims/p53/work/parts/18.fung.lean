-- KernelGym.crash ()I
def f144 (kad : Nat → Nat) (N : Nat) (Z : AZ) (a0 : Nat) (I : AI) : Option ((Int32 ⊕ String) × AI) :=
  (f165 kad N Z a0 I).bind fun r1_1 =>
  xB r1_1 fun vr1_1 Ir1_1 =>
  (wI Ir1_1 a0 5 (0 : Int32)).bind fun I17_2 =>
  (f81 kad N Z (a0 + 114) I17_2).bind fun r24_3 =>
  some (.inl (Ir1_1 (a0 + 115) 2), r24_3.2)
set_option maxRecDepth 20000 in
theorem Tf144 {kad : Nat → Nat} {N : Nat} {Z : AZ} {d : Nat} {t : Option Nat × (Nat × Nat)} (hd : 3 ≤ d) : ∀ (a0 : Nat) (ha0 : sh10 kad Z a0) (I : AI) (r : (Int32 ⊕ String) × AI), f144 kad N Z a0 I = some r → aGo kad d 144 (0, ([(0, .ref a0)], [])) (aMem Z I, t) (qX tvI Z t r) := by
  intro a0 ha0 I r h
  unfold f144 at h
  refine go_ops aMi144 1 _ (f1 := (1, ([(0, .ref a0)], [.ref a0]))) rfl ?_
  obtain ⟨r1_1, hxr1_1, h⟩ := Option.bind_eq_some_iff.mp h
  rcases xB_eq h with ⟨vr1_1, Ir1_1, her1_1, h2⟩ | ⟨Er1_1, Ir1_1, her1_1, h2⟩
  rotate_left
  · clear h
    subst her1_1
    subst h2
    exact gg_cvt (as := []) (r := []) aMi144 rfl rfl rfl aMi165 (Nat.le_of_ble_eq_true rfl) rfl (Nat.le_of_ble_eq_true rfl) (Nat.le_of_ble_eq_true rfl) (by omega) (isK_of (sh10_z ha0)) (Tf165 (by omega) a0 ha0 I _ hxr1_1) qX_thr
  clear h
  subst her1_1
  have h := h2
  clear h2
  refine gg_cv (as := []) (r := []) aMi144 rfl rfl rfl aMi165 (Nat.le_of_ble_eq_true rfl) rfl (Nat.le_of_ble_eq_true rfl) (Nat.le_of_ble_eq_true rfl) (by omega) (isK_of (sh10_z ha0)) (Tf165 (by omega) a0 ha0 I _ hxr1_1) ?_
  show aGo kad d 144 (4, ([(0, .ref a0)], [])) (aMem Z Ir1_1, t) _
  refine go_ops aMi144 1 _ (f1 := (5, ([(0, .ref a0)], [.ref a0]))) rfl ?_
  refine gg_gR (b := (a0 + 114)) aMi144 rfl rfl rfl (gR_of (sh10_z ha0) (sh10_r3 ha0)) ?_
  refine gg_gR (b := (a0 + 115)) aMi144 rfl rfl rfl (gR_of (sh8_z (sh10_s3 ha0)) (sh8_r0 (sh10_s3 ha0))) ?_
  refine gg_gI aMi144 rfl rfl rfl (gI_of (sh2_z (sh8_s0 (sh10_s3 ha0)))) ?_
  refine go_ops aMi144 3 _ (f1 := (17, ([(1, .int (Ir1_1 (a0 + 115) 2)), (0, .ref a0)], [.int (0 : Int32), .ref a0]))) rfl ?_
  obtain ⟨I17_2, hxI17_2, h⟩ := Option.bind_eq_some_iff.mp h
  refine gg_pI aMi144 rfl rfl rfl rfl (by decide) (pI_of (sh10_z ha0) hxI17_2) ?_
  refine go_ops aMi144 1 _ (f1 := (21, ([(1, .int (Ir1_1 (a0 + 115) 2)), (0, .ref a0)], [.ref a0]))) rfl ?_
  refine gg_gR (b := (a0 + 114)) aMi144 rfl rfl rfl (gR_of (sh10_z ha0) (sh10_r3 ha0)) ?_
  obtain ⟨r24_3, hxr24_3, h⟩ := Option.bind_eq_some_iff.mp h
  refine gg_cv (as := []) (r := []) aMi144 rfl rfl rfl aMi81 (Nat.le_of_ble_eq_true rfl) rfl (Nat.le_of_ble_eq_true rfl) (Nat.le_of_ble_eq_true rfl) (by omega) (isK_of (sh8_z (sh10_s3 ha0))) (Tf81 (by omega) (a0 + 114) (sh10_s3 ha0) I17_2 _ hxr24_3) ?_
  show aGo kad d 144 (27, ([(1, .int (Ir1_1 (a0 + 115) 2)), (0, .ref a0)], [])) (aMem Z r24_3.2, t) _
  refine go_ops aMi144 1 _ (f1 := (28, ([(1, .int (Ir1_1 (a0 + 115) 2)), (0, .ref a0)], [.int (Ir1_1 (a0 + 115) 2)]))) rfl ?_
  cases h
  exact go_ret aMi144 rfl aRetI qX_ret
-- KernelGym.format ()I
def f145 (kad : Nat → Nat) (N : Nat) (Z : AZ) (a0 : Nat) (I : AI) : Option ((Int32 ⊕ String) × AI) :=
  if (I (a0 + 115) 0) = 0 then
    (f52 kad N Z (a0 + 122) I).bind fun r30_1 =>
    (f42 kad N Z (a0 + 122) r30_1.2).bind fun r41_2 =>
    some (.inl r30_1.1, r41_2.2)
  else
    some (.inr (aEC 1), I)
set_option maxRecDepth 20000 in
theorem Tf145 {kad : Nat → Nat} {N : Nat} {Z : AZ} {d : Nat} {t : Option Nat × (Nat × Nat)} (hd : 2 ≤ d) : ∀ (a0 : Nat) (ha0 : sh10 kad Z a0) (I : AI) (r : (Int32 ⊕ String) × AI), f145 kad N Z a0 I = some r → aGo kad d 145 (0, ([(0, .ref a0)], [])) (aMem Z I, t) (qX tvI Z t r) := by
  intro a0 ha0 I r h
  unfold f145 at h
  refine go_ops aMi145 1 _ (f1 := (1, ([(0, .ref a0)], [.ref a0]))) rfl ?_
  refine gg_gR (b := (a0 + 114)) aMi145 rfl rfl rfl (gR_of (sh10_z ha0) (sh10_r3 ha0)) ?_
  refine gg_gR (b := (a0 + 115)) aMi145 rfl rfl rfl (gR_of (sh8_z (sh10_s3 ha0)) (sh8_r0 (sh10_s3 ha0))) ?_
  refine gg_gI aMi145 rfl rfl rfl (gI_of (sh2_z (sh8_s0 (sh10_s3 ha0)))) ?_
  refine gg_br (b := decide ((I (a0 + 115) 0) = 0)) (tg := 23) (off := 13) aMi145 rfl rfl rfl rfl (fun hb => ?_) (fun hb => ?_)
  · rw [if_pos (of_decide_eq_true hb)] at h
    refine go_ops aMi145 1 _ (f1 := (24, ([(0, .ref a0)], [.ref a0]))) rfl ?_
    refine gg_gR (b := (a0 + 114)) aMi145 rfl rfl rfl (gR_of (sh10_z ha0) (sh10_r3 ha0)) ?_
    refine gg_gR (b := (a0 + 122)) aMi145 rfl rfl rfl (gR_of (sh8_z (sh10_s3 ha0)) (sh8_r3 (sh10_s3 ha0))) ?_
    obtain ⟨r30_1, hxr30_1, h⟩ := Option.bind_eq_some_iff.mp h
    refine gg_cv (as := []) (r := []) aMi145 rfl rfl rfl aMi52 (Nat.le_of_ble_eq_true rfl) rfl (Nat.le_of_ble_eq_true rfl) (Nat.le_of_ble_eq_true rfl) (by omega) (isK_of (sh3_z (sh8_s3 (sh10_s3 ha0)))) (Tf52 (by omega) (a0 + 122) (sh8_s3 (sh10_s3 ha0)) I _ hxr30_1) ?_
    show aGo kad d 145 (33, ([(0, .ref a0)], [.int r30_1.1])) (aMem Z r30_1.2, t) _
    refine go_ops aMi145 2 _ (f1 := (35, ([(1, .int r30_1.1), (0, .ref a0)], [.ref a0]))) rfl ?_
    refine gg_gR (b := (a0 + 114)) aMi145 rfl rfl rfl (gR_of (sh10_z ha0) (sh10_r3 ha0)) ?_
    refine gg_gR (b := (a0 + 122)) aMi145 rfl rfl rfl (gR_of (sh8_z (sh10_s3 ha0)) (sh8_r3 (sh10_s3 ha0))) ?_
    obtain ⟨r41_2, hxr41_2, h⟩ := Option.bind_eq_some_iff.mp h
    refine gg_cv (as := []) (r := []) aMi145 rfl rfl rfl aMi42 (Nat.le_of_ble_eq_true rfl) rfl (Nat.le_of_ble_eq_true rfl) (Nat.le_of_ble_eq_true rfl) (by omega) (isK_of (sh3_z (sh8_s3 (sh10_s3 ha0)))) (Tf42 (by omega) (a0 + 122) (sh8_s3 (sh10_s3 ha0)) r30_1.2 _ hxr41_2) ?_
    show aGo kad d 145 (44, ([(1, .int r30_1.1), (0, .ref a0)], [])) (aMem Z r41_2.2, t) _
    refine go_ops aMi145 1 _ (f1 := (45, ([(1, .int r30_1.1), (0, .ref a0)], [.int r30_1.1]))) rfl ?_
    cases h
    exact go_ret aMi145 rfl aRetI qX_ret
  · rw [if_neg (of_decide_eq_false hb)] at h
    cases h
    exact go_thr (E := aEC 1) aMi145 rfl rfl rfl rfl rfl rfl qX_thr
-- KernelGym.keptStep (I)LKernelGym$Kept;
def f167 (kad : Nat → Nat) (N : Nat) (Z : AZ) (a0 : Nat) (i1 : Int32) (I : AI) : Option (Nat × AI) :=
  (f49 kad N Z i1 (200 : Int32) I).bind fun r8_1 =>
  (ixA 200 r8_1.1).bind fun j11_2 =>
  some ((a0 + (182 + 9 * j11_2)), r8_1.2)
set_option maxRecDepth 20000 in
theorem Tf167 {kad : Nat → Nat} {N : Nat} {Z : AZ} {d : Nat} {t : Option Nat × (Nat × Nat)} (hd : 1 ≤ d) : ∀ (a0 : Nat) (ha0 : sh10 kad Z a0) (i1 : Int32) (I : AI) (r : Nat × AI), f167 kad N Z a0 i1 I = some r → aGo kad d 167 (0, ([(0, .ref a0), (1, .int i1)], [])) (aMem Z I, t) (qA Z t r) := by
  intro a0 ha0 i1 I r h
  unfold f167 at h
  refine go_ops aMi167 1 _ (f1 := (1, ([(0, .ref a0), (1, .int i1)], [.ref a0]))) rfl ?_
  refine gg_gR (b := (a0 + 140)) aMi167 rfl rfl rfl (gR_of (sh10_z ha0) (sh10_r4 ha0)) ?_
  refine go_ops aMi167 2 _ (f1 := (8, ([(0, .ref a0), (1, .int i1)], [.int (200 : Int32), .int i1, .ref (a0 + 140)]))) rfl ?_
  obtain ⟨r8_1, hxr8_1, h⟩ := Option.bind_eq_some_iff.mp h
  refine gg_cs (as := [.int i1, .int (200 : Int32)]) (r := [.ref (a0 + 140)]) aMi167 rfl rfl rfl aMi49 rfl (Nat.le_of_ble_eq_true rfl) (Nat.le_of_ble_eq_true rfl) (by omega) (Tf49 (by omega) i1 (200 : Int32) I _ hxr8_1) ?_
  show aGo kad d 167 (11, ([(0, .ref a0), (1, .int i1)], [.int r8_1.1, .ref (a0 + 140)])) (aMem Z r8_1.2, t) _
  obtain ⟨j11_2, hxj11_2, h⟩ := Option.bind_eq_some_iff.mp h
  refine gg_lR (b := (a0 + (182 + 9 * j11_2))) aMi167 rfl (lR_of (sh10_a4 ha0) (by decide) hxj11_2 (sh10_e4 ha0 j11_2 (ixA_lt hxj11_2))) ?_
  cases h
  exact go_ret aMi167 rfl rfl ⟨rfl, rfl⟩
theorem Rf167 {kad : Nat → Nat} {N : Nat} {Z : AZ} : ∀ (a0 : Nat) (ha0 : sh10 kad Z a0) (i1 : Int32) (I : AI) (r : Nat × AI), f167 kad N Z a0 i1 I = some r → sh5 kad Z r.1 := by
  intro a0 ha0 i1 I r h
  unfold f167 at h
  obtain ⟨r8_1, hxr8_1, h⟩ := Option.bind_eq_some_iff.mp h
  obtain ⟨j11_2, hxj11_2, h⟩ := Option.bind_eq_some_iff.mp h
  cases h
  exact (sh10_f4 ha0 j11_2 (ixA_lt hxj11_2))
-- KernelGym.makeSteps (II)I
def f166_b100 (kad : Nat → Nat) (N : Nat) (Z : AZ) (k5 : Nat → Int32 → Int32 → Int32 → Int32 → AI → Option (Int32 × AI)) (a0 : Nat) (i1 : Int32) (i2 : Int32) (i3 : Int32) (s0 : Int32) (I : AI) : Option (Int32 × AI) :=
  k5 a0 i1 i2 i3 s0 I
set_option maxRecDepth 20000 in
theorem Tf166_b100 {kad : Nat → Nat} {N : Nat} {Z : AZ} {d : Nat} {t : Option Nat × (Nat × Nat)} (hd : 6 ≤ d) (k5 : Nat → Int32 → Int32 → Int32 → Int32 → AI → Option (Int32 × AI))  (hk5 : ∀ (a0 : Nat) (ha0 : sh10 kad Z a0) (i1 : Int32) (i2 : Int32) (i3 : Int32) (i4 : Int32) (I : AI) (r : Int32 × AI), k5 a0 i1 i2 i3 i4 I = some r → aGo kad d 166 (5, ([(0, .ref a0), (1, .int i1), (2, .int i2), (3, .int i3), (4, .int i4)], [])) (aMem Z I, t) (qI Z t r)) : ∀ (a0 : Nat) (ha0 : sh10 kad Z a0) (i1 : Int32) (i2 : Int32) (i3 : Int32) (s0 : Int32) (I : AI) (r : Int32 × AI), f166_b100 kad N Z k5 a0 i1 i2 i3 s0 I = some r → aGo kad d 166 (100, ([(0, .ref a0), (1, .int i1), (2, .int i2), (3, .int i3)], [.int s0])) (aMem Z I, t) (qI Z t r) := by
  intro a0 ha0 i1 i2 i3 s0 I r h
  unfold f166_b100 at h
  refine go_ops aMi166 2 _ (f1 := (5, ([(4, .int s0), (0, .ref a0), (1, .int i1), (2, .int i2), (3, .int i3)], []))) rfl ?_
  refine go_le (lv1 := [(0, .ref a0), (1, .int i1), (2, .int i2), (3, .int i3), (4, .int s0)]) (aLe_of (show (List.map (fun q => q.1) ([(0, .ref a0), (1, .int i1), (2, .int i2), (3, .int i3), (4, .int s0)] : ALv)).Nodup from (by show ([0, 1, 2, 3, 4] : List Nat).Nodup; decide)) (aSubL_cons rfl (aSubL_cons rfl (aSubL_cons rfl (aSubL_cons rfl (aSubL_cons rfl aSubL_nil)))))) ?_
  exact hk5 a0 ha0 i1 i2 i3 s0 I _ h
def f166_b99 (kad : Nat → Nat) (N : Nat) (Z : AZ) (k5 : Nat → Int32 → Int32 → Int32 → Int32 → AI → Option (Int32 × AI)) (a0 : Nat) (i1 : Int32) (i2 : Int32) (i3 : Int32) (I : AI) : Option (Int32 × AI) :=
  f166_b100 kad N Z k5 a0 i1 i2 i3 (0 : Int32) I
set_option maxRecDepth 20000 in
theorem Tf166_b99 {kad : Nat → Nat} {N : Nat} {Z : AZ} {d : Nat} {t : Option Nat × (Nat × Nat)} (hd : 6 ≤ d) (k5 : Nat → Int32 → Int32 → Int32 → Int32 → AI → Option (Int32 × AI))  (hk5 : ∀ (a0 : Nat) (ha0 : sh10 kad Z a0) (i1 : Int32) (i2 : Int32) (i3 : Int32) (i4 : Int32) (I : AI) (r : Int32 × AI), k5 a0 i1 i2 i3 i4 I = some r → aGo kad d 166 (5, ([(0, .ref a0), (1, .int i1), (2, .int i2), (3, .int i3), (4, .int i4)], [])) (aMem Z I, t) (qI Z t r)) : ∀ (a0 : Nat) (ha0 : sh10 kad Z a0) (i1 : Int32) (i2 : Int32) (i3 : Int32) (I : AI) (r : Int32 × AI), f166_b99 kad N Z k5 a0 i1 i2 i3 I = some r → aGo kad d 166 (99, ([(0, .ref a0), (1, .int i1), (2, .int i2), (3, .int i3)], [])) (aMem Z I, t) (qI Z t r) := by
  intro a0 ha0 i1 i2 i3 I r h
  unfold f166_b99 at h
  refine go_ops aMi166 1 _ (f1 := (100, ([(0, .ref a0), (1, .int i1), (2, .int i2), (3, .int i3)], [.int (0 : Int32)]))) rfl ?_
  exact Tf166_b100 hd k5 hk5 a0 ha0 i1 i2 i3 (0 : Int32) I _ h
def f166_b105 (kad : Nat → Nat) (N : Nat) (Z : AZ) (a0 : Nat) (i3 : Int32) (I : AI) : Option (Int32 × AI) :=
  some (i3, I)
set_option maxRecDepth 20000 in
theorem Tf166_b105 {kad : Nat → Nat} {N : Nat} {Z : AZ} {d : Nat} {t : Option Nat × (Nat × Nat)} (hd : 6 ≤ d) : ∀ (a0 : Nat) (ha0 : sh10 kad Z a0) (i3 : Int32) (I : AI) (r : Int32 × AI), f166_b105 kad N Z a0 i3 I = some r → aGo kad d 166 (105, ([(3, .int i3)], [])) (aMem Z I, t) (qI Z t r) := by
  intro a0 ha0 i3 I r h
  unfold f166_b105 at h
  refine go_ops aMi166 1 _ (f1 := (106, ([(3, .int i3)], [.int i3]))) rfl ?_
  cases h
  exact go_ret aMi166 rfl aRetI ⟨rfl, rfl⟩
def f166_b5 (kad : Nat → Nat) (N : Nat) (Z : AZ) : Nat → Nat → Int32 → Int32 → Int32 → Int32 → AI → Option (Int32 × AI)
  | 0, _, _, _, _, _, _ => none
  | F + 1, a0, i1, i2, i3, i4, I =>
    if i1 ≤ i3 then
      f166_b105 kad N Z a0 i3 I
    else
      if ¬ i4 = 0 then
        f166_b105 kad N Z a0 i3 I
      else
        (f82 kad N Z (a0 + 114) I).bind fun r19_1 =>
        if r19_1.1 = 0 then
          f166_b105 kad N Z a0 i3 r19_1.2
        else
          (f167 kad N Z a0 ((r19_1.2) (a0 + 115) 2) r19_1.2).bind fun r40_2 =>
          (f83 kad N Z (a0 + 114) r40_2.1 r40_2.2).bind fun r43_3 =>
          (wI r43_3.2 a0 5 (if (200 : Int32) < (((r43_3.2) a0 5) + (1 : Int32)) then (200 : Int32) else (((r43_3.2) a0 5) + (1 : Int32)))).bind fun I59_4 =>
          if ¬ (I59_4 (a0 + 115) 3) = i2 then
            f166_b99 kad N Z (fun p0 p1 p2 p3 p4 I => f166_b5 kad N Z F p0 p1 p2 p3 p4 I) a0 i1 i2 (i3 + (1 : Int32)) I59_4
          else
            (f63 kad N Z (a0 + 117) I59_4).bind fun r89_5 =>
            if ¬ r89_5.1 = 0 then
              f166_b99 kad N Z (fun p0 p1 p2 p3 p4 I => f166_b5 kad N Z F p0 p1 p2 p3 p4 I) a0 i1 i2 (i3 + (1 : Int32)) r89_5.2
            else
              f166_b100 kad N Z (fun p0 p1 p2 p3 p4 I => f166_b5 kad N Z F p0 p1 p2 p3 p4 I) a0 i1 i2 (i3 + (1 : Int32)) (1 : Int32) r89_5.2
set_option maxRecDepth 20000 in
theorem Tf166_b5 {kad : Nat → Nat} {N : Nat} {Z : AZ} {d : Nat} {t : Option Nat × (Nat × Nat)} (hd : 6 ≤ d) : ∀ (F : Nat) (a0 : Nat) (ha0 : sh10 kad Z a0) (i1 : Int32) (i2 : Int32) (i3 : Int32) (i4 : Int32) (I : AI) (r : Int32 × AI), f166_b5 kad N Z F a0 i1 i2 i3 i4 I = some r → aGo kad d 166 (5, ([(0, .ref a0), (1, .int i1), (2, .int i2), (3, .int i3), (4, .int i4)], [])) (aMem Z I, t) (qI Z t r) := by
  intro F
  induction F with
  | zero => intro a0 ha0 i1 i2 i3 i4 I r h; cases h
  | succ F ih =>
    intro a0 ha0 i1 i2 i3 i4 I r h
    unfold f166_b5 at h
    refine go_ops aMi166 2 _ (f1 := (7, ([(0, .ref a0), (1, .int i1), (2, .int i2), (3, .int i3), (4, .int i4)], [.int i1, .int i3]))) rfl ?_
    refine gg_br (b := decide (i1 ≤ i3)) (tg := 105) (off := 98) aMi166 rfl rfl rfl rfl (fun hb => ?_) (fun hb => ?_)
    · rw [if_pos (of_decide_eq_true hb)] at h
      refine go_le (lv1 := [(3, .int i3)]) (aLe_of (show (List.map (fun q => q.1) ([(3, .int i3)] : ALv)).Nodup from (by show ([3] : List Nat).Nodup; decide)) (aSubL_cons rfl aSubL_nil)) ?_
      exact Tf166_b105 hd a0 ha0 i3 I _ h
    · rw [if_neg (of_decide_eq_false hb)] at h
      refine go_ops aMi166 1 _ (f1 := (12, ([(0, .ref a0), (1, .int i1), (2, .int i2), (3, .int i3), (4, .int i4)], [.int i4]))) rfl ?_
      refine gg_br (b := decide (¬ i4 = 0)) (tg := 105) (off := 93) aMi166 rfl rfl rfl rfl (fun hb => ?_) (fun hb => ?_)
      · rw [if_pos (of_decide_eq_true hb)] at h
        refine go_le (lv1 := [(3, .int i3)]) (aLe_of (show (List.map (fun q => q.1) ([(3, .int i3)] : ALv)).Nodup from (by show ([3] : List Nat).Nodup; decide)) (aSubL_cons rfl aSubL_nil)) ?_
        exact Tf166_b105 hd a0 ha0 i3 I _ h
      · rw [if_neg (of_decide_eq_false hb)] at h
        refine go_ops aMi166 1 _ (f1 := (16, ([(0, .ref a0), (1, .int i1), (2, .int i2), (3, .int i3), (4, .int i4)], [.ref a0]))) rfl ?_
        refine gg_gR (b := (a0 + 114)) aMi166 rfl rfl rfl (gR_of (sh10_z ha0) (sh10_r3 ha0)) ?_
        obtain ⟨r19_1, hxr19_1, h⟩ := Option.bind_eq_some_iff.mp h
        refine gg_cv (as := []) (r := []) aMi166 rfl rfl rfl aMi82 (Nat.le_of_ble_eq_true rfl) rfl (Nat.le_of_ble_eq_true rfl) (Nat.le_of_ble_eq_true rfl) (by omega) (isK_of (sh8_z (sh10_s3 ha0))) (Tf82 (by omega) (a0 + 114) (sh10_s3 ha0) I _ hxr19_1) ?_
        show aGo kad d 166 (22, ([(0, .ref a0), (1, .int i1), (2, .int i2), (3, .int i3), (4, .int i4)], [.int r19_1.1])) (aMem Z r19_1.2, t) _
        refine gg_br (b := decide (r19_1.1 = 0)) (tg := 105) (off := 83) aMi166 rfl rfl rfl rfl (fun hb => ?_) (fun hb => ?_)
        · rw [if_pos (of_decide_eq_true hb)] at h
          refine go_le (lv1 := [(3, .int i3)]) (aLe_of (show (List.map (fun q => q.1) ([(3, .int i3)] : ALv)).Nodup from (by show ([3] : List Nat).Nodup; decide)) (aSubL_cons rfl aSubL_nil)) ?_
          exact Tf166_b105 hd a0 ha0 i3 r19_1.2 _ h
        · rw [if_neg (of_decide_eq_false hb)] at h
          refine go_ops aMi166 1 _ (f1 := (26, ([(0, .ref a0), (1, .int i1), (2, .int i2), (3, .int i3), (4, .int i4)], [.ref a0]))) rfl ?_
          refine gg_gR (b := (a0 + 114)) aMi166 rfl rfl rfl (gR_of (sh10_z ha0) (sh10_r3 ha0)) ?_
          refine go_ops aMi166 2 _ (f1 := (31, ([(0, .ref a0), (1, .int i1), (2, .int i2), (3, .int i3), (4, .int i4)], [.ref a0, .ref a0, .ref (a0 + 114)]))) rfl ?_
          refine gg_gR (b := (a0 + 114)) aMi166 rfl rfl rfl (gR_of (sh10_z ha0) (sh10_r3 ha0)) ?_
          refine gg_gR (b := (a0 + 115)) aMi166 rfl rfl rfl (gR_of (sh8_z (sh10_s3 ha0)) (sh8_r0 (sh10_s3 ha0))) ?_
          refine gg_gI aMi166 rfl rfl rfl (gI_of (sh2_z (sh8_s0 (sh10_s3 ha0)))) ?_
          obtain ⟨r40_2, hxr40_2, h⟩ := Option.bind_eq_some_iff.mp h
          refine gg_cv (as := [.int ((r19_1.2) (a0 + 115) 2)]) (r := [.ref (a0 + 114)]) aMi166 rfl rfl rfl aMi167 (Nat.le_of_ble_eq_true rfl) rfl (Nat.le_of_ble_eq_true rfl) (Nat.le_of_ble_eq_true rfl) (by omega) (isK_of (sh10_z ha0)) (Tf167 (by omega) a0 ha0 ((r19_1.2) (a0 + 115) 2) r19_1.2 _ hxr40_2) ?_
          show aGo kad d 166 (43, ([(0, .ref a0), (1, .int i1), (2, .int i2), (3, .int i3), (4, .int i4)], [.ref r40_2.1, .ref (a0 + 114)])) (aMem Z r40_2.2, t) _
          obtain ⟨r43_3, hxr43_3, h⟩ := Option.bind_eq_some_iff.mp h
          refine gg_cv (as := [.ref r40_2.1]) (r := []) aMi166 rfl rfl rfl aMi83 (Nat.le_of_ble_eq_true rfl) rfl (Nat.le_of_ble_eq_true rfl) (Nat.le_of_ble_eq_true rfl) (by omega) (isK_of (sh8_z (sh10_s3 ha0))) (Tf83 (by omega) (a0 + 114) (sh10_s3 ha0) r40_2.1 (Rf167 a0 ha0 ((r19_1.2) (a0 + 115) 2) r19_1.2 _ hxr40_2) r40_2.2 _ hxr43_3) ?_
          show aGo kad d 166 (46, ([(0, .ref a0), (1, .int i1), (2, .int i2), (3, .int i3), (4, .int i4)], [])) (aMem Z r43_3.2, t) _
          refine go_ops aMi166 2 _ (f1 := (48, ([(0, .ref a0), (1, .int i1), (2, .int i2), (3, .int i3), (4, .int i4)], [.ref a0, .ref a0]))) rfl ?_
          refine gg_gI aMi166 rfl rfl rfl (gI_of (sh10_z ha0)) ?_
          refine go_ops aMi166 3 _ (f1 := (56, ([(0, .ref a0), (1, .int i1), (2, .int i2), (3, .int i3), (4, .int i4)], [.int (200 : Int32), .int (((r43_3.2) a0 5) + (1 : Int32)), .ref a0]))) rfl ?_
          refine gg_mn aMi166 rfl rfl (Nat.le_of_ble_eq_true rfl) ?_
          obtain ⟨I59_4, hxI59_4, h⟩ := Option.bind_eq_some_iff.mp h
          refine gg_pI aMi166 rfl rfl rfl rfl (by decide) (pI_of (sh10_z ha0) hxI59_4) ?_
          refine go_ops aMi166 2 _ (f1 := (66, ([(3, .int (i3 + (1 : Int32))), (0, .ref a0), (1, .int i1), (2, .int i2), (4, .int i4)], [.ref a0]))) rfl ?_
          refine gg_gR (b := (a0 + 114)) aMi166 rfl rfl rfl (gR_of (sh10_z ha0) (sh10_r3 ha0)) ?_
          refine gg_gR (b := (a0 + 115)) aMi166 rfl rfl rfl (gR_of (sh8_z (sh10_s3 ha0)) (sh8_r0 (sh10_s3 ha0))) ?_
          refine gg_gI aMi166 rfl rfl rfl (gI_of (sh2_z (sh8_s0 (sh10_s3 ha0)))) ?_
          refine go_ops aMi166 1 _ (f1 := (76, ([(3, .int (i3 + (1 : Int32))), (0, .ref a0), (1, .int i1), (2, .int i2), (4, .int i4)], [.int i2, .int (I59_4 (a0 + 115) 3)]))) rfl ?_
          refine gg_br (b := decide (¬ (I59_4 (a0 + 115) 3) = i2)) (tg := 99) (off := 23) aMi166 rfl rfl rfl rfl (fun hb => ?_) (fun hb => ?_)
          · rw [if_pos (of_decide_eq_true hb)] at h
            refine go_le (lv1 := [(0, .ref a0), (1, .int i1), (2, .int i2), (3, .int (i3 + (1 : Int32)))]) (aLe_of (show (List.map (fun q => q.1) ([(0, .ref a0), (1, .int i1), (2, .int i2), (3, .int (i3 + (1 : Int32)))] : ALv)).Nodup from (by show ([0, 1, 2, 3] : List Nat).Nodup; decide)) (aSubL_cons rfl (aSubL_cons rfl (aSubL_cons rfl (aSubL_cons rfl aSubL_nil))))) ?_
            exact Tf166_b99 hd (fun p0 p1 p2 p3 p4 I => f166_b5 kad N Z F p0 p1 p2 p3 p4 I) (fun p0 q0 p1 p2 p3 p4 I r hh => ih p0 q0 p1 p2 p3 p4 I r hh) a0 ha0 i1 i2 (i3 + (1 : Int32)) I59_4 _ h
          · rw [if_neg (of_decide_eq_false hb)] at h
            refine go_ops aMi166 1 _ (f1 := (80, ([(3, .int (i3 + (1 : Int32))), (0, .ref a0), (1, .int i1), (2, .int i2), (4, .int i4)], [.ref a0]))) rfl ?_
            refine gg_gR (b := (a0 + 114)) aMi166 rfl rfl rfl (gR_of (sh10_z ha0) (sh10_r3 ha0)) ?_
            refine gg_gR (b := (a0 + 115)) aMi166 rfl rfl rfl (gR_of (sh8_z (sh10_s3 ha0)) (sh8_r0 (sh10_s3 ha0))) ?_
            refine gg_gR (b := (a0 + 117)) aMi166 rfl rfl rfl (gR_of (sh2_z (sh8_s0 (sh10_s3 ha0))) (sh2_r15 (sh8_s0 (sh10_s3 ha0)))) ?_
            obtain ⟨r89_5, hxr89_5, h⟩ := Option.bind_eq_some_iff.mp h
            refine gg_cv (as := []) (r := []) aMi166 rfl rfl rfl aMi63 (Nat.le_of_ble_eq_true rfl) rfl (Nat.le_of_ble_eq_true rfl) (Nat.le_of_ble_eq_true rfl) (by omega) (isK_of (sh4_z (sh2_s15 (sh8_s0 (sh10_s3 ha0))))) (Tf63 (by omega) (a0 + 117) (sh2_s15 (sh8_s0 (sh10_s3 ha0))) I59_4 _ hxr89_5) ?_
            show aGo kad d 166 (92, ([(3, .int (i3 + (1 : Int32))), (0, .ref a0), (1, .int i1), (2, .int i2), (4, .int i4)], [.int r89_5.1])) (aMem Z r89_5.2, t) _
            refine gg_br (b := decide (¬ r89_5.1 = 0)) (tg := 99) (off := 7) aMi166 rfl rfl rfl rfl (fun hb => ?_) (fun hb => ?_)
            · rw [if_pos (of_decide_eq_true hb)] at h
              refine go_le (lv1 := [(0, .ref a0), (1, .int i1), (2, .int i2), (3, .int (i3 + (1 : Int32)))]) (aLe_of (show (List.map (fun q => q.1) ([(0, .ref a0), (1, .int i1), (2, .int i2), (3, .int (i3 + (1 : Int32)))] : ALv)).Nodup from (by show ([0, 1, 2, 3] : List Nat).Nodup; decide)) (aSubL_cons rfl (aSubL_cons rfl (aSubL_cons rfl (aSubL_cons rfl aSubL_nil))))) ?_
              exact Tf166_b99 hd (fun p0 p1 p2 p3 p4 I => f166_b5 kad N Z F p0 p1 p2 p3 p4 I) (fun p0 q0 p1 p2 p3 p4 I r hh => ih p0 q0 p1 p2 p3 p4 I r hh) a0 ha0 i1 i2 (i3 + (1 : Int32)) r89_5.2 _ h
            · rw [if_neg (of_decide_eq_false hb)] at h
              refine go_ops aMi166 2 _ (f1 := (100, ([(3, .int (i3 + (1 : Int32))), (0, .ref a0), (1, .int i1), (2, .int i2), (4, .int i4)], [.int (1 : Int32)]))) rfl ?_
              refine go_le (lv1 := [(0, .ref a0), (1, .int i1), (2, .int i2), (3, .int (i3 + (1 : Int32)))]) (aLe_of (show (List.map (fun q => q.1) ([(0, .ref a0), (1, .int i1), (2, .int i2), (3, .int (i3 + (1 : Int32)))] : ALv)).Nodup from (by show ([0, 1, 2, 3] : List Nat).Nodup; decide)) (aSubL_cons rfl (aSubL_cons rfl (aSubL_cons rfl (aSubL_cons rfl aSubL_nil))))) ?_
              exact Tf166_b100 hd (fun p0 p1 p2 p3 p4 I => f166_b5 kad N Z F p0 p1 p2 p3 p4 I) (fun p0 q0 p1 p2 p3 p4 I r hh => ih p0 q0 p1 p2 p3 p4 I r hh) a0 ha0 i1 i2 (i3 + (1 : Int32)) (1 : Int32) r89_5.2 _ h
def f166 (kad : Nat → Nat) (N : Nat) (Z : AZ) (a0 : Nat) (i1 : Int32) (i2 : Int32) (I : AI) : Option (Int32 × AI) :=
  f166_b5 kad N Z N a0 i1 i2 (0 : Int32) (0 : Int32) I
set_option maxRecDepth 20000 in
theorem Tf166 {kad : Nat → Nat} {N : Nat} {Z : AZ} {d : Nat} {t : Option Nat × (Nat × Nat)} (hd : 6 ≤ d) : ∀ (a0 : Nat) (ha0 : sh10 kad Z a0) (i1 : Int32) (i2 : Int32) (I : AI) (r : Int32 × AI), f166 kad N Z a0 i1 i2 I = some r → aGo kad d 166 (0, ([(0, .ref a0), (1, .int i1), (2, .int i2)], [])) (aMem Z I, t) (qI Z t r) := by
  intro a0 ha0 i1 i2 I r h
  unfold f166 at h
  refine go_ops aMi166 4 _ (f1 := (5, ([(4, .int (0 : Int32)), (3, .int (0 : Int32)), (0, .ref a0), (1, .int i1), (2, .int i2)], []))) rfl ?_
  refine go_le (lv1 := [(0, .ref a0), (1, .int i1), (2, .int i2), (3, .int (0 : Int32)), (4, .int (0 : Int32))]) (aLe_of (show (List.map (fun q => q.1) ([(0, .ref a0), (1, .int i1), (2, .int i2), (3, .int (0 : Int32)), (4, .int (0 : Int32))] : ALv)).Nodup from (by show ([0, 1, 2, 3, 4] : List Nat).Nodup; decide)) (aSubL_cons rfl (aSubL_cons rfl (aSubL_cons rfl (aSubL_cons rfl (aSubL_cons rfl aSubL_nil)))))) ?_
  exact Tf166_b5 hd N a0 ha0 i1 i2 (0 : Int32) (0 : Int32) I _ h
-- KernelGym.step (I)I
def f146 (kad : Nat → Nat) (N : Nat) (Z : AZ) (a0 : Nat) (i1 : Int32) (I : AI) : Option ((Int32 ⊕ String) × AI) :=
  (f138 kad N Z i1 (1 : Int32) (100 : Int32) I).bind fun r4_1 =>
  xB r4_1 fun vr4_1 Ir4_1 =>
  (f165 kad N Z a0 Ir4_1).bind fun r8_2 =>
  xB r8_2 fun vr8_2 Ir8_2 =>
  (f166 kad N Z a0 i1 (Int32.ofInt (-1)) Ir8_2).bind fun r14_3 =>
  some (.inl r14_3.1, r14_3.2)
set_option maxRecDepth 20000 in
theorem Tf146 {kad : Nat → Nat} {N : Nat} {Z : AZ} {d : Nat} {t : Option Nat × (Nat × Nat)} (hd : 7 ≤ d) : ∀ (a0 : Nat) (ha0 : sh10 kad Z a0) (i1 : Int32) (I : AI) (r : (Int32 ⊕ String) × AI), f146 kad N Z a0 i1 I = some r → aGo kad d 146 (0, ([(0, .ref a0), (1, .int i1)], [])) (aMem Z I, t) (qX tvI Z t r) := by
  intro a0 ha0 i1 I r h
  unfold f146 at h
  refine go_ops aMi146 3 _ (f1 := (4, ([(0, .ref a0), (1, .int i1)], [.int (100 : Int32), .int (1 : Int32), .int i1]))) rfl ?_
  obtain ⟨r4_1, hxr4_1, h⟩ := Option.bind_eq_some_iff.mp h
  rcases xB_eq h with ⟨vr4_1, Ir4_1, her4_1, h2⟩ | ⟨Er4_1, Ir4_1, her4_1, h2⟩
  rotate_left
  · clear h
    subst her4_1
    subst h2
    exact gg_cst (as := [.int i1, .int (1 : Int32), .int (100 : Int32)]) (r := []) aMi146 rfl rfl rfl aMi138 rfl (Nat.le_of_ble_eq_true rfl) (Nat.le_of_ble_eq_true rfl) (by omega) (Tf138 (by omega) i1 (1 : Int32) (100 : Int32) I _ hxr4_1) qX_thr
  clear h
  subst her4_1
  have h := h2
  clear h2
  refine gg_cs (as := [.int i1, .int (1 : Int32), .int (100 : Int32)]) (r := []) aMi146 rfl rfl rfl aMi138 rfl (Nat.le_of_ble_eq_true rfl) (Nat.le_of_ble_eq_true rfl) (by omega) (Tf138 (by omega) i1 (1 : Int32) (100 : Int32) I _ hxr4_1) ?_
  show aGo kad d 146 (7, ([(0, .ref a0), (1, .int i1)], [])) (aMem Z Ir4_1, t) _
  refine go_ops aMi146 1 _ (f1 := (8, ([(0, .ref a0), (1, .int i1)], [.ref a0]))) rfl ?_
  obtain ⟨r8_2, hxr8_2, h⟩ := Option.bind_eq_some_iff.mp h
  rcases xB_eq h with ⟨vr8_2, Ir8_2, her8_2, h2⟩ | ⟨Er8_2, Ir8_2, her8_2, h2⟩
  rotate_left
  · clear h
    subst her8_2
    subst h2
    exact gg_cvt (as := []) (r := []) aMi146 rfl rfl rfl aMi165 (Nat.le_of_ble_eq_true rfl) rfl (Nat.le_of_ble_eq_true rfl) (Nat.le_of_ble_eq_true rfl) (by omega) (isK_of (sh10_z ha0)) (Tf165 (by omega) a0 ha0 Ir4_1 _ hxr8_2) qX_thr
  clear h
  subst her8_2
  have h := h2
  clear h2
  refine gg_cv (as := []) (r := []) aMi146 rfl rfl rfl aMi165 (Nat.le_of_ble_eq_true rfl) rfl (Nat.le_of_ble_eq_true rfl) (Nat.le_of_ble_eq_true rfl) (by omega) (isK_of (sh10_z ha0)) (Tf165 (by omega) a0 ha0 Ir4_1 _ hxr8_2) ?_
  show aGo kad d 146 (11, ([(0, .ref a0), (1, .int i1)], [])) (aMem Z Ir8_2, t) _
  refine go_ops aMi146 3 _ (f1 := (14, ([(0, .ref a0), (1, .int i1)], [.int (Int32.ofInt (-1)), .int i1, .ref a0]))) rfl ?_
  obtain ⟨r14_3, hxr14_3, h⟩ := Option.bind_eq_some_iff.mp h
  refine gg_cv (as := [.int i1, .int (Int32.ofInt (-1))]) (r := []) aMi146 rfl rfl rfl aMi166 (Nat.le_of_ble_eq_true rfl) rfl (Nat.le_of_ble_eq_true rfl) (Nat.le_of_ble_eq_true rfl) (by omega) (isK_of (sh10_z ha0)) (Tf166 (by omega) a0 ha0 i1 (Int32.ofInt (-1)) Ir8_2 _ hxr14_3) ?_
  show aGo kad d 146 (17, ([(0, .ref a0), (1, .int i1)], [.int r14_3.1])) (aMem Z r14_3.2, t) _
  cases h
  exact go_ret aMi146 rfl aRetI qX_ret
-- KernelGym.runTo (II)I
def f147 (kad : Nat → Nat) (N : Nat) (Z : AZ) (a0 : Nat) (i1 : Int32) (i2 : Int32) (I : AI) : Option ((Int32 ⊕ String) × AI) :=
  (f138 kad N Z i1 (0 : Int32) (255 : Int32) I).bind fun r5_1 =>
  xB r5_1 fun vr5_1 Ir5_1 =>
  (f138 kad N Z i2 (1 : Int32) (100 : Int32) Ir5_1).bind fun r12_2 =>
  xB r12_2 fun vr12_2 Ir12_2 =>
  (f165 kad N Z a0 Ir12_2).bind fun r16_3 =>
  xB r16_3 fun vr16_3 Ir16_3 =>
  (f166 kad N Z a0 i2 i1 Ir16_3).bind fun r22_4 =>
  some (.inl r22_4.1, r22_4.2)
set_option maxRecDepth 20000 in
theorem Tf147 {kad : Nat → Nat} {N : Nat} {Z : AZ} {d : Nat} {t : Option Nat × (Nat × Nat)} (hd : 7 ≤ d) : ∀ (a0 : Nat) (ha0 : sh10 kad Z a0) (i1 : Int32) (i2 : Int32) (I : AI) (r : (Int32 ⊕ String) × AI), f147 kad N Z a0 i1 i2 I = some r → aGo kad d 147 (0, ([(0, .ref a0), (1, .int i1), (2, .int i2)], [])) (aMem Z I, t) (qX tvI Z t r) := by
  intro a0 ha0 i1 i2 I r h
  unfold f147 at h
  refine go_ops aMi147 3 _ (f1 := (5, ([(0, .ref a0), (1, .int i1), (2, .int i2)], [.int (255 : Int32), .int (0 : Int32), .int i1]))) rfl ?_
  obtain ⟨r5_1, hxr5_1, h⟩ := Option.bind_eq_some_iff.mp h
  rcases xB_eq h with ⟨vr5_1, Ir5_1, her5_1, h2⟩ | ⟨Er5_1, Ir5_1, her5_1, h2⟩
  rotate_left
  · clear h
    subst her5_1
    subst h2
    exact gg_cst (as := [.int i1, .int (0 : Int32), .int (255 : Int32)]) (r := []) aMi147 rfl rfl rfl aMi138 rfl (Nat.le_of_ble_eq_true rfl) (Nat.le_of_ble_eq_true rfl) (by omega) (Tf138 (by omega) i1 (0 : Int32) (255 : Int32) I _ hxr5_1) qX_thr
  clear h
  subst her5_1
  have h := h2
  clear h2
  refine gg_cs (as := [.int i1, .int (0 : Int32), .int (255 : Int32)]) (r := []) aMi147 rfl rfl rfl aMi138 rfl (Nat.le_of_ble_eq_true rfl) (Nat.le_of_ble_eq_true rfl) (by omega) (Tf138 (by omega) i1 (0 : Int32) (255 : Int32) I _ hxr5_1) ?_
  show aGo kad d 147 (8, ([(0, .ref a0), (1, .int i1), (2, .int i2)], [])) (aMem Z Ir5_1, t) _
  refine go_ops aMi147 3 _ (f1 := (12, ([(0, .ref a0), (1, .int i1), (2, .int i2)], [.int (100 : Int32), .int (1 : Int32), .int i2]))) rfl ?_
  obtain ⟨r12_2, hxr12_2, h⟩ := Option.bind_eq_some_iff.mp h
  rcases xB_eq h with ⟨vr12_2, Ir12_2, her12_2, h2⟩ | ⟨Er12_2, Ir12_2, her12_2, h2⟩
  rotate_left
  · clear h
    subst her12_2
    subst h2
    exact gg_cst (as := [.int i2, .int (1 : Int32), .int (100 : Int32)]) (r := []) aMi147 rfl rfl rfl aMi138 rfl (Nat.le_of_ble_eq_true rfl) (Nat.le_of_ble_eq_true rfl) (by omega) (Tf138 (by omega) i2 (1 : Int32) (100 : Int32) Ir5_1 _ hxr12_2) qX_thr
  clear h
  subst her12_2
  have h := h2
  clear h2
  refine gg_cs (as := [.int i2, .int (1 : Int32), .int (100 : Int32)]) (r := []) aMi147 rfl rfl rfl aMi138 rfl (Nat.le_of_ble_eq_true rfl) (Nat.le_of_ble_eq_true rfl) (by omega) (Tf138 (by omega) i2 (1 : Int32) (100 : Int32) Ir5_1 _ hxr12_2) ?_
  show aGo kad d 147 (15, ([(0, .ref a0), (1, .int i1), (2, .int i2)], [])) (aMem Z Ir12_2, t) _
  refine go_ops aMi147 1 _ (f1 := (16, ([(0, .ref a0), (1, .int i1), (2, .int i2)], [.ref a0]))) rfl ?_
  obtain ⟨r16_3, hxr16_3, h⟩ := Option.bind_eq_some_iff.mp h
  rcases xB_eq h with ⟨vr16_3, Ir16_3, her16_3, h2⟩ | ⟨Er16_3, Ir16_3, her16_3, h2⟩
  rotate_left
  · clear h
    subst her16_3
    subst h2
    exact gg_cvt (as := []) (r := []) aMi147 rfl rfl rfl aMi165 (Nat.le_of_ble_eq_true rfl) rfl (Nat.le_of_ble_eq_true rfl) (Nat.le_of_ble_eq_true rfl) (by omega) (isK_of (sh10_z ha0)) (Tf165 (by omega) a0 ha0 Ir12_2 _ hxr16_3) qX_thr
  clear h
  subst her16_3
  have h := h2
  clear h2
  refine gg_cv (as := []) (r := []) aMi147 rfl rfl rfl aMi165 (Nat.le_of_ble_eq_true rfl) rfl (Nat.le_of_ble_eq_true rfl) (Nat.le_of_ble_eq_true rfl) (by omega) (isK_of (sh10_z ha0)) (Tf165 (by omega) a0 ha0 Ir12_2 _ hxr16_3) ?_
  show aGo kad d 147 (19, ([(0, .ref a0), (1, .int i1), (2, .int i2)], [])) (aMem Z Ir16_3, t) _
  refine go_ops aMi147 3 _ (f1 := (22, ([(0, .ref a0), (1, .int i1), (2, .int i2)], [.int i1, .int i2, .ref a0]))) rfl ?_
  obtain ⟨r22_4, hxr22_4, h⟩ := Option.bind_eq_some_iff.mp h
  refine gg_cv (as := [.int i2, .int i1]) (r := []) aMi147 rfl rfl rfl aMi166 (Nat.le_of_ble_eq_true rfl) rfl (Nat.le_of_ble_eq_true rfl) (Nat.le_of_ble_eq_true rfl) (by omega) (isK_of (sh10_z ha0)) (Tf166 (by omega) a0 ha0 i2 i1 Ir16_3 _ hxr22_4) ?_
  show aGo kad d 147 (25, ([(0, .ref a0), (1, .int i1), (2, .int i2)], [.int r22_4.1])) (aMem Z r22_4.2, t) _
  cases h
  exact go_ret aMi147 rfl aRetI qX_ret
-- KernelGym.back (I)I
def f148_b65 (kad : Nat → Nat) (N : Nat) (Z : AZ) (a0 : Nat) (i2 : Int32) (I : AI) : Option ((Int32 ⊕ String) × AI) :=
  some (.inl i2, I)
set_option maxRecDepth 20000 in
theorem Tf148_b65 {kad : Nat → Nat} {N : Nat} {Z : AZ} {d : Nat} {t : Option Nat × (Nat × Nat)} (hd : 3 ≤ d) : ∀ (a0 : Nat) (ha0 : sh10 kad Z a0) (i2 : Int32) (I : AI) (r : (Int32 ⊕ String) × AI), f148_b65 kad N Z a0 i2 I = some r → aGo kad d 148 (65, ([(2, .int i2)], [])) (aMem Z I, t) (qX tvI Z t r) := by
  intro a0 ha0 i2 I r h
  unfold f148_b65 at h
  refine go_ops aMi148 1 _ (f1 := (66, ([(2, .int i2)], [.int i2]))) rfl ?_
  cases h
  exact go_ret aMi148 rfl aRetI qX_ret
def f148_b14 (kad : Nat → Nat) (N : Nat) (Z : AZ) : Nat → Nat → Int32 → Int32 → AI → Option ((Int32 ⊕ String) × AI)
  | 0, _, _, _, _ => none
  | F + 1, a0, i1, i2, I =>
    if i1 ≤ i2 then
      f148_b65 kad N Z a0 i2 I
    else
      if (I a0 5) ≤ 0 then
        f148_b65 kad N Z a0 i2 I
      else
        (f167 kad N Z a0 ((I (a0 + 115) 2) - (1 : Int32)) I).bind fun r43_1 =>
        (f84 kad N Z (a0 + 114) r43_1.1 r43_1.2).bind fun r46_2 =>
        (wI r46_2.2 a0 5 (((r46_2.2) a0 5) - (1 : Int32))).bind fun I56_3 =>
        f148_b14 kad N Z F a0 i1 (i2 + (1 : Int32)) I56_3
set_option maxRecDepth 20000 in
theorem Tf148_b14 {kad : Nat → Nat} {N : Nat} {Z : AZ} {d : Nat} {t : Option Nat × (Nat × Nat)} (hd : 3 ≤ d) : ∀ (F : Nat) (a0 : Nat) (ha0 : sh10 kad Z a0) (i1 : Int32) (i2 : Int32) (I : AI) (r : (Int32 ⊕ String) × AI), f148_b14 kad N Z F a0 i1 i2 I = some r → aGo kad d 148 (14, ([(0, .ref a0), (1, .int i1), (2, .int i2)], [])) (aMem Z I, t) (qX tvI Z t r) := by
  intro F
  induction F with
  | zero => intro a0 ha0 i1 i2 I r h; cases h
  | succ F ih =>
    intro a0 ha0 i1 i2 I r h
    unfold f148_b14 at h
    refine go_ops aMi148 2 _ (f1 := (16, ([(0, .ref a0), (1, .int i1), (2, .int i2)], [.int i1, .int i2]))) rfl ?_
    refine gg_br (b := decide (i1 ≤ i2)) (tg := 65) (off := 49) aMi148 rfl rfl rfl rfl (fun hb => ?_) (fun hb => ?_)
    · rw [if_pos (of_decide_eq_true hb)] at h
      refine go_le (lv1 := [(2, .int i2)]) (aLe_of (show (List.map (fun q => q.1) ([(2, .int i2)] : ALv)).Nodup from (by show ([2] : List Nat).Nodup; decide)) (aSubL_cons rfl aSubL_nil)) ?_
      exact Tf148_b65 hd a0 ha0 i2 I _ h
    · rw [if_neg (of_decide_eq_false hb)] at h
      refine go_ops aMi148 1 _ (f1 := (20, ([(0, .ref a0), (1, .int i1), (2, .int i2)], [.ref a0]))) rfl ?_
      refine gg_gI aMi148 rfl rfl rfl (gI_of (sh10_z ha0)) ?_
      refine gg_br (b := decide ((I a0 5) ≤ 0)) (tg := 65) (off := 42) aMi148 rfl rfl rfl rfl (fun hb => ?_) (fun hb => ?_)
      · rw [if_pos (of_decide_eq_true hb)] at h
        refine go_le (lv1 := [(2, .int i2)]) (aLe_of (show (List.map (fun q => q.1) ([(2, .int i2)] : ALv)).Nodup from (by show ([2] : List Nat).Nodup; decide)) (aSubL_cons rfl aSubL_nil)) ?_
        exact Tf148_b65 hd a0 ha0 i2 I _ h
      · rw [if_neg (of_decide_eq_false hb)] at h
        refine go_ops aMi148 1 _ (f1 := (27, ([(0, .ref a0), (1, .int i1), (2, .int i2)], [.ref a0]))) rfl ?_
        refine gg_gR (b := (a0 + 114)) aMi148 rfl rfl rfl (gR_of (sh10_z ha0) (sh10_r3 ha0)) ?_
        refine go_ops aMi148 2 _ (f1 := (32, ([(0, .ref a0), (1, .int i1), (2, .int i2)], [.ref a0, .ref a0, .ref (a0 + 114)]))) rfl ?_
        refine gg_gR (b := (a0 + 114)) aMi148 rfl rfl rfl (gR_of (sh10_z ha0) (sh10_r3 ha0)) ?_
        refine gg_gR (b := (a0 + 115)) aMi148 rfl rfl rfl (gR_of (sh8_z (sh10_s3 ha0)) (sh8_r0 (sh10_s3 ha0))) ?_
        refine gg_gI aMi148 rfl rfl rfl (gI_of (sh2_z (sh8_s0 (sh10_s3 ha0)))) ?_
        refine go_ops aMi148 2 _ (f1 := (43, ([(0, .ref a0), (1, .int i1), (2, .int i2)], [.int ((I (a0 + 115) 2) - (1 : Int32)), .ref a0, .ref (a0 + 114)]))) rfl ?_
        obtain ⟨r43_1, hxr43_1, h⟩ := Option.bind_eq_some_iff.mp h
        refine gg_cv (as := [.int ((I (a0 + 115) 2) - (1 : Int32))]) (r := [.ref (a0 + 114)]) aMi148 rfl rfl rfl aMi167 (Nat.le_of_ble_eq_true rfl) rfl (Nat.le_of_ble_eq_true rfl) (Nat.le_of_ble_eq_true rfl) (by omega) (isK_of (sh10_z ha0)) (Tf167 (by omega) a0 ha0 ((I (a0 + 115) 2) - (1 : Int32)) I _ hxr43_1) ?_
        show aGo kad d 148 (46, ([(0, .ref a0), (1, .int i1), (2, .int i2)], [.ref r43_1.1, .ref (a0 + 114)])) (aMem Z r43_1.2, t) _
        obtain ⟨r46_2, hxr46_2, h⟩ := Option.bind_eq_some_iff.mp h
        refine gg_cv (as := [.ref r43_1.1]) (r := []) aMi148 rfl rfl rfl aMi84 (Nat.le_of_ble_eq_true rfl) rfl (Nat.le_of_ble_eq_true rfl) (Nat.le_of_ble_eq_true rfl) (by omega) (isK_of (sh8_z (sh10_s3 ha0))) (Tf84 (by omega) (a0 + 114) (sh10_s3 ha0) r43_1.1 (Rf167 a0 ha0 ((I (a0 + 115) 2) - (1 : Int32)) I _ hxr43_1) r43_1.2 _ hxr46_2) ?_
        show aGo kad d 148 (49, ([(0, .ref a0), (1, .int i1), (2, .int i2)], [])) (aMem Z r46_2.2, t) _
        refine go_ops aMi148 2 _ (f1 := (51, ([(0, .ref a0), (1, .int i1), (2, .int i2)], [.ref a0, .ref a0]))) rfl ?_
        refine gg_gI aMi148 rfl rfl rfl (gI_of (sh10_z ha0)) ?_
        refine go_ops aMi148 2 _ (f1 := (56, ([(0, .ref a0), (1, .int i1), (2, .int i2)], [.int (((r46_2.2) a0 5) - (1 : Int32)), .ref a0]))) rfl ?_
        obtain ⟨I56_3, hxI56_3, h⟩ := Option.bind_eq_some_iff.mp h
        refine gg_pI aMi148 rfl rfl rfl rfl (by decide) (pI_of (sh10_z ha0) hxI56_3) ?_
        refine go_ops aMi148 2 _ (f1 := (14, ([(2, .int (i2 + (1 : Int32))), (0, .ref a0), (1, .int i1)], []))) rfl ?_
        refine go_le (lv1 := [(0, .ref a0), (1, .int i1), (2, .int (i2 + (1 : Int32)))]) (aLe_of (show (List.map (fun q => q.1) ([(0, .ref a0), (1, .int i1), (2, .int (i2 + (1 : Int32)))] : ALv)).Nodup from (by show ([0, 1, 2] : List Nat).Nodup; decide)) (aSubL_cons rfl (aSubL_cons rfl (aSubL_cons rfl aSubL_nil)))) ?_
        exact ih a0 ha0 i1 (i2 + (1 : Int32)) I56_3 _ h
def f148 (kad : Nat → Nat) (N : Nat) (Z : AZ) (a0 : Nat) (i1 : Int32) (I : AI) : Option ((Int32 ⊕ String) × AI) :=
  (f138 kad N Z i1 (1 : Int32) (200 : Int32) I).bind fun r5_1 =>
  xB r5_1 fun vr5_1 Ir5_1 =>
  (f165 kad N Z a0 Ir5_1).bind fun r9_2 =>
  xB r9_2 fun vr9_2 Ir9_2 =>
  f148_b14 kad N Z N a0 i1 (0 : Int32) Ir9_2
set_option maxRecDepth 20000 in
theorem Tf148 {kad : Nat → Nat} {N : Nat} {Z : AZ} {d : Nat} {t : Option Nat × (Nat × Nat)} (hd : 3 ≤ d) : ∀ (a0 : Nat) (ha0 : sh10 kad Z a0) (i1 : Int32) (I : AI) (r : (Int32 ⊕ String) × AI), f148 kad N Z a0 i1 I = some r → aGo kad d 148 (0, ([(0, .ref a0), (1, .int i1)], [])) (aMem Z I, t) (qX tvI Z t r) := by
  intro a0 ha0 i1 I r h
  unfold f148 at h
  refine go_ops aMi148 3 _ (f1 := (5, ([(0, .ref a0), (1, .int i1)], [.int (200 : Int32), .int (1 : Int32), .int i1]))) rfl ?_
  obtain ⟨r5_1, hxr5_1, h⟩ := Option.bind_eq_some_iff.mp h
  rcases xB_eq h with ⟨vr5_1, Ir5_1, her5_1, h2⟩ | ⟨Er5_1, Ir5_1, her5_1, h2⟩
  rotate_left
  · clear h
    subst her5_1
    subst h2
    exact gg_cst (as := [.int i1, .int (1 : Int32), .int (200 : Int32)]) (r := []) aMi148 rfl rfl rfl aMi138 rfl (Nat.le_of_ble_eq_true rfl) (Nat.le_of_ble_eq_true rfl) (by omega) (Tf138 (by omega) i1 (1 : Int32) (200 : Int32) I _ hxr5_1) qX_thr
  clear h
  subst her5_1
  have h := h2
  clear h2
  refine gg_cs (as := [.int i1, .int (1 : Int32), .int (200 : Int32)]) (r := []) aMi148 rfl rfl rfl aMi138 rfl (Nat.le_of_ble_eq_true rfl) (Nat.le_of_ble_eq_true rfl) (by omega) (Tf138 (by omega) i1 (1 : Int32) (200 : Int32) I _ hxr5_1) ?_
  show aGo kad d 148 (8, ([(0, .ref a0), (1, .int i1)], [])) (aMem Z Ir5_1, t) _
  refine go_ops aMi148 1 _ (f1 := (9, ([(0, .ref a0), (1, .int i1)], [.ref a0]))) rfl ?_
  obtain ⟨r9_2, hxr9_2, h⟩ := Option.bind_eq_some_iff.mp h
  rcases xB_eq h with ⟨vr9_2, Ir9_2, her9_2, h2⟩ | ⟨Er9_2, Ir9_2, her9_2, h2⟩
  rotate_left
  · clear h
    subst her9_2
    subst h2
    exact gg_cvt (as := []) (r := []) aMi148 rfl rfl rfl aMi165 (Nat.le_of_ble_eq_true rfl) rfl (Nat.le_of_ble_eq_true rfl) (Nat.le_of_ble_eq_true rfl) (by omega) (isK_of (sh10_z ha0)) (Tf165 (by omega) a0 ha0 Ir5_1 _ hxr9_2) qX_thr
  clear h
  subst her9_2
  have h := h2
  clear h2
  refine gg_cv (as := []) (r := []) aMi148 rfl rfl rfl aMi165 (Nat.le_of_ble_eq_true rfl) rfl (Nat.le_of_ble_eq_true rfl) (Nat.le_of_ble_eq_true rfl) (by omega) (isK_of (sh10_z ha0)) (Tf165 (by omega) a0 ha0 Ir5_1 _ hxr9_2) ?_
  show aGo kad d 148 (12, ([(0, .ref a0), (1, .int i1)], [])) (aMem Z Ir9_2, t) _
  refine go_ops aMi148 2 _ (f1 := (14, ([(2, .int (0 : Int32)), (0, .ref a0), (1, .int i1)], []))) rfl ?_
  refine go_le (lv1 := [(0, .ref a0), (1, .int i1), (2, .int (0 : Int32))]) (aLe_of (show (List.map (fun q => q.1) ([(0, .ref a0), (1, .int i1), (2, .int (0 : Int32))] : ALv)).Nodup from (by show ([0, 1, 2] : List Nat).Nodup; decide)) (aSubL_cons rfl (aSubL_cons rfl (aSubL_cons rfl aSubL_nil)))) ?_
  exact Tf148_b14 hd N a0 ha0 i1 (0 : Int32) Ir9_2 _ h
-- KernelGym.press (I)I
def f149 (kad : Nat → Nat) (N : Nat) (Z : AZ) (a0 : Nat) (i1 : Int32) (I : AI) : Option ((Int32 ⊕ String) × AI) :=
  (f138 kad N Z i1 (0 : Int32) (65535 : Int32) I).bind fun r4_1 =>
  xB r4_1 fun vr4_1 Ir4_1 =>
  if (Ir4_1 (a0 + 115) 0) = (1 : Int32) then
    if (Ir4_1 (a0 + 124) 0) < (20 : Int32) then
      (f74 kad N Z (a0 + 124) i1 (Ir4_1 (a0 + 115) 2) Ir4_1).bind fun r74_2 =>
      (f85 kad N Z (a0 + 114) r74_2.2).bind fun r81_3 =>
      some (.inl ((r81_3.2) (a0 + 124) 0), r81_3.2)
    else
      some (.inr (aEC 1), Ir4_1)
  else
    some (.inr (aEC 1), Ir4_1)
set_option maxRecDepth 20000 in
theorem Tf149 {kad : Nat → Nat} {N : Nat} {Z : AZ} {d : Nat} {t : Option Nat × (Nat × Nat)} (hd : 2 ≤ d) : ∀ (a0 : Nat) (ha0 : sh10 kad Z a0) (i1 : Int32) (I : AI) (r : (Int32 ⊕ String) × AI), f149 kad N Z a0 i1 I = some r → aGo kad d 149 (0, ([(0, .ref a0), (1, .int i1)], [])) (aMem Z I, t) (qX tvI Z t r) := by
  intro a0 ha0 i1 I r h
  unfold f149 at h
  refine go_ops aMi149 2 _ (f1 := (2, ([(0, .ref a0), (1, .int i1)], [.int (0 : Int32), .int i1]))) rfl ?_
  refine gg_kI (Or.inl ⟨rfl, rfl⟩) aMi149 rfl rfl ?_
  obtain ⟨r4_1, hxr4_1, h⟩ := Option.bind_eq_some_iff.mp h
  rcases xB_eq h with ⟨vr4_1, Ir4_1, her4_1, h2⟩ | ⟨Er4_1, Ir4_1, her4_1, h2⟩
  rotate_left
  · clear h
    subst her4_1
    subst h2
    exact gg_cst (as := [.int i1, .int (0 : Int32), .int (65535 : Int32)]) (r := []) aMi149 rfl rfl rfl aMi138 rfl (Nat.le_of_ble_eq_true rfl) (Nat.le_of_ble_eq_true rfl) (by omega) (Tf138 (by omega) i1 (0 : Int32) (65535 : Int32) I _ hxr4_1) qX_thr
  clear h
  subst her4_1
  have h := h2
  clear h2
  refine gg_cs (as := [.int i1, .int (0 : Int32), .int (65535 : Int32)]) (r := []) aMi149 rfl rfl rfl aMi138 rfl (Nat.le_of_ble_eq_true rfl) (Nat.le_of_ble_eq_true rfl) (by omega) (Tf138 (by omega) i1 (0 : Int32) (65535 : Int32) I _ hxr4_1) ?_
  show aGo kad d 149 (7, ([(0, .ref a0), (1, .int i1)], [])) (aMem Z Ir4_1, t) _
  refine go_ops aMi149 1 _ (f1 := (8, ([(0, .ref a0), (1, .int i1)], [.ref a0]))) rfl ?_
  refine gg_gR (b := (a0 + 114)) aMi149 rfl rfl rfl (gR_of (sh10_z ha0) (sh10_r3 ha0)) ?_
  refine gg_gR (b := (a0 + 115)) aMi149 rfl rfl rfl (gR_of (sh8_z (sh10_s3 ha0)) (sh8_r0 (sh10_s3 ha0))) ?_
  refine gg_gI aMi149 rfl rfl rfl (gI_of (sh2_z (sh8_s0 (sh10_s3 ha0)))) ?_
  refine go_ops aMi149 1 _ (f1 := (18, ([(0, .ref a0), (1, .int i1)], [.int (1 : Int32), .int (Ir4_1 (a0 + 115) 0)]))) rfl ?_
  refine gg_br (b := decide ((Ir4_1 (a0 + 115) 0) = (1 : Int32))) (tg := 31) (off := 13) aMi149 rfl rfl rfl rfl (fun hb => ?_) (fun hb => ?_)
  · rw [if_pos (of_decide_eq_true hb)] at h
    refine go_ops aMi149 1 _ (f1 := (32, ([(0, .ref a0), (1, .int i1)], [.ref a0]))) rfl ?_
    refine gg_gR (b := (a0 + 114)) aMi149 rfl rfl rfl (gR_of (sh10_z ha0) (sh10_r3 ha0)) ?_
    refine gg_gR (b := (a0 + 124)) aMi149 rfl rfl rfl (gR_of (sh8_z (sh10_s3 ha0)) (sh8_r4 (sh10_s3 ha0))) ?_
    refine gg_gI aMi149 rfl rfl rfl (gI_of (sh6_z (sh8_s4 (sh10_s3 ha0)))) ?_
    refine go_ops aMi149 1 _ (f1 := (43, ([(0, .ref a0), (1, .int i1)], [.int (20 : Int32), .int (Ir4_1 (a0 + 124) 0)]))) rfl ?_
    refine gg_br (b := decide ((Ir4_1 (a0 + 124) 0) < (20 : Int32))) (tg := 56) (off := 13) aMi149 rfl rfl rfl rfl (fun hb => ?_) (fun hb => ?_)
    · rw [if_pos (of_decide_eq_true hb)] at h
      refine go_ops aMi149 1 _ (f1 := (57, ([(0, .ref a0), (1, .int i1)], [.ref a0]))) rfl ?_
      refine gg_gR (b := (a0 + 114)) aMi149 rfl rfl rfl (gR_of (sh10_z ha0) (sh10_r3 ha0)) ?_
      refine gg_gR (b := (a0 + 124)) aMi149 rfl rfl rfl (gR_of (sh8_z (sh10_s3 ha0)) (sh8_r4 (sh10_s3 ha0))) ?_
      refine go_ops aMi149 2 _ (f1 := (65, ([(0, .ref a0), (1, .int i1)], [.ref a0, .int i1, .ref (a0 + 124)]))) rfl ?_
      refine gg_gR (b := (a0 + 114)) aMi149 rfl rfl rfl (gR_of (sh10_z ha0) (sh10_r3 ha0)) ?_
      refine gg_gR (b := (a0 + 115)) aMi149 rfl rfl rfl (gR_of (sh8_z (sh10_s3 ha0)) (sh8_r0 (sh10_s3 ha0))) ?_
      refine gg_gI aMi149 rfl rfl rfl (gI_of (sh2_z (sh8_s0 (sh10_s3 ha0)))) ?_
      obtain ⟨r74_2, hxr74_2, h⟩ := Option.bind_eq_some_iff.mp h
      refine gg_cv (as := [.int i1, .int (Ir4_1 (a0 + 115) 2)]) (r := []) aMi149 rfl rfl rfl aMi74 (Nat.le_of_ble_eq_true rfl) rfl (Nat.le_of_ble_eq_true rfl) (Nat.le_of_ble_eq_true rfl) (by omega) (isK_of (sh6_z (sh8_s4 (sh10_s3 ha0)))) (Tf74 (by omega) (a0 + 124) (sh8_s4 (sh10_s3 ha0)) i1 (Ir4_1 (a0 + 115) 2) Ir4_1 _ hxr74_2) ?_
      show aGo kad d 149 (77, ([(0, .ref a0), (1, .int i1)], [])) (aMem Z r74_2.2, t) _
      refine go_ops aMi149 1 _ (f1 := (78, ([(0, .ref a0), (1, .int i1)], [.ref a0]))) rfl ?_
      refine gg_gR (b := (a0 + 114)) aMi149 rfl rfl rfl (gR_of (sh10_z ha0) (sh10_r3 ha0)) ?_
      obtain ⟨r81_3, hxr81_3, h⟩ := Option.bind_eq_some_iff.mp h
      refine gg_cv (as := []) (r := []) aMi149 rfl rfl rfl aMi85 (Nat.le_of_ble_eq_true rfl) rfl (Nat.le_of_ble_eq_true rfl) (Nat.le_of_ble_eq_true rfl) (by omega) (isK_of (sh8_z (sh10_s3 ha0))) (Tf85 (by omega) (a0 + 114) (sh10_s3 ha0) r74_2.2 _ hxr81_3) ?_
      show aGo kad d 149 (84, ([(0, .ref a0), (1, .int i1)], [])) (aMem Z r81_3.2, t) _
      refine go_ops aMi149 1 _ (f1 := (85, ([(0, .ref a0), (1, .int i1)], [.ref a0]))) rfl ?_
      refine gg_gR (b := (a0 + 114)) aMi149 rfl rfl rfl (gR_of (sh10_z ha0) (sh10_r3 ha0)) ?_
      refine gg_gR (b := (a0 + 124)) aMi149 rfl rfl rfl (gR_of (sh8_z (sh10_s3 ha0)) (sh8_r4 (sh10_s3 ha0))) ?_
      refine gg_gI aMi149 rfl rfl rfl (gI_of (sh6_z (sh8_s4 (sh10_s3 ha0)))) ?_
      cases h
      exact go_ret aMi149 rfl aRetI qX_ret
    · rw [if_neg (of_decide_eq_false hb)] at h
      cases h
      exact go_thr (E := aEC 1) aMi149 rfl rfl rfl rfl rfl rfl qX_thr
  · rw [if_neg (of_decide_eq_false hb)] at h
    cases h
    exact go_thr (E := aEC 1) aMi149 rfl rfl rfl rfl rfl rfl qX_thr
-- KernelGym.state ()I
def f150 (kad : Nat → Nat) (N : Nat) (Z : AZ) (a0 : Nat) (I : AI) : Option (Int32 × AI) :=
  some ((I (a0 + 115) 0), I)
set_option maxRecDepth 20000 in
theorem Tf150 {kad : Nat → Nat} {N : Nat} {Z : AZ} {d : Nat} {t : Option Nat × (Nat × Nat)} (hd : 0 ≤ d) : ∀ (a0 : Nat) (ha0 : sh10 kad Z a0) (I : AI) (r : Int32 × AI), f150 kad N Z a0 I = some r → aGo kad d 150 (0, ([(0, .ref a0)], [])) (aMem Z I, t) (qI Z t r) := by
  intro a0 ha0 I r h
  unfold f150 at h
  refine go_ops aMi150 1 _ (f1 := (1, ([(0, .ref a0)], [.ref a0]))) rfl ?_
  refine gg_gR (b := (a0 + 114)) aMi150 rfl rfl rfl (gR_of (sh10_z ha0) (sh10_r3 ha0)) ?_
  refine gg_gR (b := (a0 + 115)) aMi150 rfl rfl rfl (gR_of (sh8_z (sh10_s3 ha0)) (sh8_r0 (sh10_s3 ha0))) ?_
  refine gg_gI aMi150 rfl rfl rfl (gI_of (sh2_z (sh8_s0 (sh10_s3 ha0)))) ?_
  cases h
  exact go_ret aMi150 rfl aRetI ⟨rfl, rfl⟩
-- KernelGym.fault ()I
def f151 (kad : Nat → Nat) (N : Nat) (Z : AZ) (a0 : Nat) (I : AI) : Option (Int32 × AI) :=
  some ((I (a0 + 115) 1), I)
set_option maxRecDepth 20000 in
theorem Tf151 {kad : Nat → Nat} {N : Nat} {Z : AZ} {d : Nat} {t : Option Nat × (Nat × Nat)} (hd : 0 ≤ d) : ∀ (a0 : Nat) (ha0 : sh10 kad Z a0) (I : AI) (r : Int32 × AI), f151 kad N Z a0 I = some r → aGo kad d 151 (0, ([(0, .ref a0)], [])) (aMem Z I, t) (qI Z t r) := by
  intro a0 ha0 I r h
  unfold f151 at h
  refine go_ops aMi151 1 _ (f1 := (1, ([(0, .ref a0)], [.ref a0]))) rfl ?_
  refine gg_gR (b := (a0 + 114)) aMi151 rfl rfl rfl (gR_of (sh10_z ha0) (sh10_r3 ha0)) ?_
  refine gg_gR (b := (a0 + 115)) aMi151 rfl rfl rfl (gR_of (sh8_z (sh10_s3 ha0)) (sh8_r0 (sh10_s3 ha0))) ?_
  refine gg_gI aMi151 rfl rfl rfl (gI_of (sh2_z (sh8_s0 (sh10_s3 ha0)))) ?_
  cases h
  exact go_ret aMi151 rfl aRetI ⟨rfl, rfl⟩
-- KernelGym.steps ()I
def f152 (kad : Nat → Nat) (N : Nat) (Z : AZ) (a0 : Nat) (I : AI) : Option (Int32 × AI) :=
  some ((I (a0 + 115) 2), I)
set_option maxRecDepth 20000 in
theorem Tf152 {kad : Nat → Nat} {N : Nat} {Z : AZ} {d : Nat} {t : Option Nat × (Nat × Nat)} (hd : 0 ≤ d) : ∀ (a0 : Nat) (ha0 : sh10 kad Z a0) (I : AI) (r : Int32 × AI), f152 kad N Z a0 I = some r → aGo kad d 152 (0, ([(0, .ref a0)], [])) (aMem Z I, t) (qI Z t r) := by
  intro a0 ha0 I r h
  unfold f152 at h
  refine go_ops aMi152 1 _ (f1 := (1, ([(0, .ref a0)], [.ref a0]))) rfl ?_
  refine gg_gR (b := (a0 + 114)) aMi152 rfl rfl rfl (gR_of (sh10_z ha0) (sh10_r3 ha0)) ?_
  refine gg_gR (b := (a0 + 115)) aMi152 rfl rfl rfl (gR_of (sh8_z (sh10_s3 ha0)) (sh8_r0 (sh10_s3 ha0))) ?_
  refine gg_gI aMi152 rfl rfl rfl (gI_of (sh2_z (sh8_s0 (sh10_s3 ha0)))) ?_
  cases h
  exact go_ret aMi152 rfl aRetI ⟨rfl, rfl⟩
-- KernelGym.kept ()I
def f153 (kad : Nat → Nat) (N : Nat) (Z : AZ) (a0 : Nat) (I : AI) : Option (Int32 × AI) :=
  some ((I a0 5), I)
set_option maxRecDepth 20000 in
theorem Tf153 {kad : Nat → Nat} {N : Nat} {Z : AZ} {d : Nat} {t : Option Nat × (Nat × Nat)} (hd : 0 ≤ d) : ∀ (a0 : Nat) (ha0 : sh10 kad Z a0) (I : AI) (r : Int32 × AI), f153 kad N Z a0 I = some r → aGo kad d 153 (0, ([(0, .ref a0)], [])) (aMem Z I, t) (qI Z t r) := by
  intro a0 ha0 I r h
  unfold f153 at h
  refine go_ops aMi153 1 _ (f1 := (1, ([(0, .ref a0)], [.ref a0]))) rfl ?_
  refine gg_gI aMi153 rfl rfl rfl (gI_of (sh10_z ha0)) ?_
  cases h
  exact go_ret aMi153 rfl aRetI ⟨rfl, rfl⟩
-- KernelGym.counter ()I
def f154 (kad : Nat → Nat) (N : Nat) (Z : AZ) (a0 : Nat) (I : AI) : Option (Int32 × AI) :=
  some ((I (a0 + 115) 3), I)
set_option maxRecDepth 20000 in
theorem Tf154 {kad : Nat → Nat} {N : Nat} {Z : AZ} {d : Nat} {t : Option Nat × (Nat × Nat)} (hd : 0 ≤ d) : ∀ (a0 : Nat) (ha0 : sh10 kad Z a0) (I : AI) (r : Int32 × AI), f154 kad N Z a0 I = some r → aGo kad d 154 (0, ([(0, .ref a0)], [])) (aMem Z I, t) (qI Z t r) := by
  intro a0 ha0 I r h
  unfold f154 at h
  refine go_ops aMi154 1 _ (f1 := (1, ([(0, .ref a0)], [.ref a0]))) rfl ?_
  refine gg_gR (b := (a0 + 114)) aMi154 rfl rfl rfl (gR_of (sh10_z ha0) (sh10_r3 ha0)) ?_
  refine gg_gR (b := (a0 + 115)) aMi154 rfl rfl rfl (gR_of (sh8_z (sh10_s3 ha0)) (sh8_r0 (sh10_s3 ha0))) ?_
  refine gg_gI aMi154 rfl rfl rfl (gI_of (sh2_z (sh8_s0 (sh10_s3 ha0)))) ?_
  cases h
  exact go_ret aMi154 rfl aRetI ⟨rfl, rfl⟩
-- KernelGym.stack ()I
def f155 (kad : Nat → Nat) (N : Nat) (Z : AZ) (a0 : Nat) (I : AI) : Option (Int32 × AI) :=
  some ((I (a0 + 115) 4), I)
set_option maxRecDepth 20000 in
theorem Tf155 {kad : Nat → Nat} {N : Nat} {Z : AZ} {d : Nat} {t : Option Nat × (Nat × Nat)} (hd : 0 ≤ d) : ∀ (a0 : Nat) (ha0 : sh10 kad Z a0) (I : AI) (r : Int32 × AI), f155 kad N Z a0 I = some r → aGo kad d 155 (0, ([(0, .ref a0)], [])) (aMem Z I, t) (qI Z t r) := by
  intro a0 ha0 I r h
  unfold f155 at h
  refine go_ops aMi155 1 _ (f1 := (1, ([(0, .ref a0)], [.ref a0]))) rfl ?_
  refine gg_gR (b := (a0 + 114)) aMi155 rfl rfl rfl (gR_of (sh10_z ha0) (sh10_r3 ha0)) ?_
  refine gg_gR (b := (a0 + 115)) aMi155 rfl rfl rfl (gR_of (sh8_z (sh10_s3 ha0)) (sh8_r0 (sh10_s3 ha0))) ?_
  refine gg_gI aMi155 rfl rfl rfl (gI_of (sh2_z (sh8_s0 (sh10_s3 ha0)))) ?_
  cases h
  exact go_ret aMi155 rfl aRetI ⟨rfl, rfl⟩
-- KernelGym.flags ()I
def f156 (kad : Nat → Nat) (N : Nat) (Z : AZ) (a0 : Nat) (I : AI) : Option (Int32 × AI) :=
  (f40 kad N Z (a0 + 115) I).bind fun r7_1 =>
  some (r7_1.1, r7_1.2)
set_option maxRecDepth 20000 in
theorem Tf156 {kad : Nat → Nat} {N : Nat} {Z : AZ} {d : Nat} {t : Option Nat × (Nat × Nat)} (hd : 2 ≤ d) : ∀ (a0 : Nat) (ha0 : sh10 kad Z a0) (I : AI) (r : Int32 × AI), f156 kad N Z a0 I = some r → aGo kad d 156 (0, ([(0, .ref a0)], [])) (aMem Z I, t) (qI Z t r) := by
  intro a0 ha0 I r h
  unfold f156 at h
  refine go_ops aMi156 1 _ (f1 := (1, ([(0, .ref a0)], [.ref a0]))) rfl ?_
  refine gg_gR (b := (a0 + 114)) aMi156 rfl rfl rfl (gR_of (sh10_z ha0) (sh10_r3 ha0)) ?_
  refine gg_gR (b := (a0 + 115)) aMi156 rfl rfl rfl (gR_of (sh8_z (sh10_s3 ha0)) (sh8_r0 (sh10_s3 ha0))) ?_
  obtain ⟨r7_1, hxr7_1, h⟩ := Option.bind_eq_some_iff.mp h
  refine gg_cv (as := []) (r := []) aMi156 rfl rfl rfl aMi40 (Nat.le_of_ble_eq_true rfl) rfl (Nat.le_of_ble_eq_true rfl) (Nat.le_of_ble_eq_true rfl) (by omega) (isK_of (sh2_z (sh8_s0 (sh10_s3 ha0)))) (Tf40 (by omega) (a0 + 115) (sh8_s0 (sh10_s3 ha0)) I _ hxr7_1) ?_
  show aGo kad d 156 (10, ([(0, .ref a0)], [.int r7_1.1])) (aMem Z r7_1.2, t) _
  cases h
  exact go_ret aMi156 rfl aRetI ⟨rfl, rfl⟩
-- KernelGym.writesLeft ()I
def f157 (kad : Nat → Nat) (N : Nat) (Z : AZ) (a0 : Nat) (I : AI) : Option (Int32 × AI) :=
  (f63 kad N Z (a0 + 117) I).bind fun r10_1 =>
  some (r10_1.1, r10_1.2)
set_option maxRecDepth 20000 in
theorem Tf157 {kad : Nat → Nat} {N : Nat} {Z : AZ} {d : Nat} {t : Option Nat × (Nat × Nat)} (hd : 1 ≤ d) : ∀ (a0 : Nat) (ha0 : sh10 kad Z a0) (I : AI) (r : Int32 × AI), f157 kad N Z a0 I = some r → aGo kad d 157 (0, ([(0, .ref a0)], [])) (aMem Z I, t) (qI Z t r) := by
  intro a0 ha0 I r h
  unfold f157 at h
  refine go_ops aMi157 1 _ (f1 := (1, ([(0, .ref a0)], [.ref a0]))) rfl ?_
  refine gg_gR (b := (a0 + 114)) aMi157 rfl rfl rfl (gR_of (sh10_z ha0) (sh10_r3 ha0)) ?_
  refine gg_gR (b := (a0 + 115)) aMi157 rfl rfl rfl (gR_of (sh8_z (sh10_s3 ha0)) (sh8_r0 (sh10_s3 ha0))) ?_
  refine gg_gR (b := (a0 + 117)) aMi157 rfl rfl rfl (gR_of (sh2_z (sh8_s0 (sh10_s3 ha0))) (sh2_r15 (sh8_s0 (sh10_s3 ha0)))) ?_
  obtain ⟨r10_1, hxr10_1, h⟩ := Option.bind_eq_some_iff.mp h
  refine gg_cv (as := []) (r := []) aMi157 rfl rfl rfl aMi63 (Nat.le_of_ble_eq_true rfl) rfl (Nat.le_of_ble_eq_true rfl) (Nat.le_of_ble_eq_true rfl) (by omega) (isK_of (sh4_z (sh2_s15 (sh8_s0 (sh10_s3 ha0))))) (Tf63 (by omega) (a0 + 117) (sh2_s15 (sh8_s0 (sh10_s3 ha0))) I _ hxr10_1) ?_
  show aGo kad d 157 (13, ([(0, .ref a0)], [.int r10_1.1])) (aMem Z r10_1.2, t) _
  cases h
  exact go_ret aMi157 rfl aRetI ⟨rfl, rfl⟩
-- KernelGym$Assembler.errorAt (II)I
def f158 (kad : Nat → Nat) (N : Nat) (Z : AZ) (i0 : Int32) (i1 : Int32) (I : AI) : Option (Int32 × AI) :=
  some ((((100 : Int32) * i0) + i1), I)
set_option maxRecDepth 20000 in
theorem Tf158 {kad : Nat → Nat} {N : Nat} {Z : AZ} {d : Nat} {t : Option Nat × (Nat × Nat)} (hd : 0 ≤ d) : ∀ (i0 : Int32) (i1 : Int32) (I : AI) (r : Int32 × AI), f158 kad N Z i0 i1 I = some r → aGo kad d 158 (0, ([(0, .int i0), (1, .int i1)], [])) (aMem Z I, t) (qI Z t r) := by
  intro i0 i1 I r h
  unfold f158 at h
  refine go_ops aMi158 5 _ (f1 := (6, ([(0, .int i0), (1, .int i1)], [.int (((100 : Int32) * i0) + i1)]))) rfl ?_
  cases h
  exact go_ret aMi158 rfl aRetI ⟨rfl, rfl⟩
-- KernelGym.memory (I)I
def f159 (kad : Nat → Nat) (N : Nat) (Z : AZ) (a0 : Nat) (i1 : Int32) (I : AI) : Option ((Int32 ⊕ String) × AI) :=
  (f138 kad N Z i1 (0 : Int32) (255 : Int32) I).bind fun r5_1 =>
  xB r5_1 fun vr5_1 Ir5_1 =>
  (ixA 256 i1).bind fun j16_2 =>
  some (.inl (Ir5_1 (a0 + 120) j16_2), Ir5_1)
set_option maxRecDepth 20000 in
theorem Tf159 {kad : Nat → Nat} {N : Nat} {Z : AZ} {d : Nat} {t : Option Nat × (Nat × Nat)} (hd : 1 ≤ d) : ∀ (a0 : Nat) (ha0 : sh10 kad Z a0) (i1 : Int32) (I : AI) (r : (Int32 ⊕ String) × AI), f159 kad N Z a0 i1 I = some r → aGo kad d 159 (0, ([(0, .ref a0), (1, .int i1)], [])) (aMem Z I, t) (qX tvI Z t r) := by
  intro a0 ha0 i1 I r h
  unfold f159 at h
  refine go_ops aMi159 3 _ (f1 := (5, ([(0, .ref a0), (1, .int i1)], [.int (255 : Int32), .int (0 : Int32), .int i1]))) rfl ?_
  obtain ⟨r5_1, hxr5_1, h⟩ := Option.bind_eq_some_iff.mp h
  rcases xB_eq h with ⟨vr5_1, Ir5_1, her5_1, h2⟩ | ⟨Er5_1, Ir5_1, her5_1, h2⟩
  rotate_left
  · clear h
    subst her5_1
    subst h2
    exact gg_cst (as := [.int i1, .int (0 : Int32), .int (255 : Int32)]) (r := []) aMi159 rfl rfl rfl aMi138 rfl (Nat.le_of_ble_eq_true rfl) (Nat.le_of_ble_eq_true rfl) (by omega) (Tf138 (by omega) i1 (0 : Int32) (255 : Int32) I _ hxr5_1) qX_thr
  clear h
  subst her5_1
  have h := h2
  clear h2
  refine gg_cs (as := [.int i1, .int (0 : Int32), .int (255 : Int32)]) (r := []) aMi159 rfl rfl rfl aMi138 rfl (Nat.le_of_ble_eq_true rfl) (Nat.le_of_ble_eq_true rfl) (by omega) (Tf138 (by omega) i1 (0 : Int32) (255 : Int32) I _ hxr5_1) ?_
  show aGo kad d 159 (8, ([(0, .ref a0), (1, .int i1)], [])) (aMem Z Ir5_1, t) _
  refine go_ops aMi159 1 _ (f1 := (9, ([(0, .ref a0), (1, .int i1)], [.ref a0]))) rfl ?_
  refine gg_gR (b := (a0 + 114)) aMi159 rfl rfl rfl (gR_of (sh10_z ha0) (sh10_r3 ha0)) ?_
  refine gg_gR (b := (a0 + 120)) aMi159 rfl rfl rfl (gR_of (sh8_z (sh10_s3 ha0)) (sh8_r1 (sh10_s3 ha0))) ?_
  refine go_ops aMi159 1 _ (f1 := (16, ([(0, .ref a0), (1, .int i1)], [.int i1, .ref (a0 + 120)]))) rfl ?_
  obtain ⟨j16_2, hxj16_2, h⟩ := Option.bind_eq_some_iff.mp h
  refine gg_lI (Or.inl ⟨rfl, rfl⟩) aMi159 rfl (lI_of (sh8_a1 (sh10_s3 ha0)) hxj16_2) ?_
  cases h
  exact go_ret aMi159 rfl aRetI qX_ret
-- KernelGym.changedAt (I)I
def f160_b23 (kad : Nat → Nat) (N : Nat) (Z : AZ) : Nat → Nat → Int32 → Int32 → Int32 → AI → Option ((Int32 ⊕ String) × AI)
  | 0, _, _, _, _, _ => none
  | F + 1, a0, i1, i2, i3, I =>
    if i3 < (i2 - (I a0 5)) then
      some (.inl (Int32.ofInt (-1)), I)
    else
      (f167 kad N Z a0 i3 I).bind fun r35_1 =>
      (f70 kad N Z r35_1.1 i1 r35_1.2).bind fun r39_2 =>
      if r39_2.1 = 0 then
        f160_b23 kad N Z F a0 i1 i2 (i3 + (Int32.ofInt (-1))) r39_2.2
      else
        some (.inl i3, r39_2.2)
set_option maxRecDepth 20000 in
theorem Tf160_b23 {kad : Nat → Nat} {N : Nat} {Z : AZ} {d : Nat} {t : Option Nat × (Nat × Nat)} (hd : 2 ≤ d) : ∀ (F : Nat) (a0 : Nat) (ha0 : sh10 kad Z a0) (i1 : Int32) (i2 : Int32) (i3 : Int32) (I : AI) (r : (Int32 ⊕ String) × AI), f160_b23 kad N Z F a0 i1 i2 i3 I = some r → aGo kad d 160 (23, ([(0, .ref a0), (1, .int i1), (2, .int i2), (3, .int i3)], [])) (aMem Z I, t) (qX tvI Z t r) := by
  intro F
  induction F with
  | zero => intro a0 ha0 i1 i2 i3 I r h; cases h
  | succ F ih =>
    intro a0 ha0 i1 i2 i3 I r h
    unfold f160_b23 at h
    refine go_ops aMi160 3 _ (f1 := (26, ([(0, .ref a0), (1, .int i1), (2, .int i2), (3, .int i3)], [.ref a0, .int i2, .int i3]))) rfl ?_
    refine gg_gI aMi160 rfl rfl rfl (gI_of (sh10_z ha0)) ?_
    refine go_ops aMi160 1 _ (f1 := (30, ([(0, .ref a0), (1, .int i1), (2, .int i2), (3, .int i3)], [.int (i2 - (I a0 5)), .int i3]))) rfl ?_
    refine gg_br (b := decide (i3 < (i2 - (I a0 5)))) (tg := 53) (off := 23) aMi160 rfl rfl rfl rfl (fun hb => ?_) (fun hb => ?_)
    · rw [if_pos (of_decide_eq_true hb)] at h
      refine go_ops aMi160 1 _ (f1 := (54, ([(0, .ref a0), (1, .int i1), (2, .int i2), (3, .int i3)], [.int (Int32.ofInt (-1))]))) rfl ?_
      cases h
      exact go_ret aMi160 rfl aRetI qX_ret
    · rw [if_neg (of_decide_eq_false hb)] at h
      refine go_ops aMi160 2 _ (f1 := (35, ([(0, .ref a0), (1, .int i1), (2, .int i2), (3, .int i3)], [.int i3, .ref a0]))) rfl ?_
      obtain ⟨r35_1, hxr35_1, h⟩ := Option.bind_eq_some_iff.mp h
      refine gg_cv (as := [.int i3]) (r := []) aMi160 rfl rfl rfl aMi167 (Nat.le_of_ble_eq_true rfl) rfl (Nat.le_of_ble_eq_true rfl) (Nat.le_of_ble_eq_true rfl) (by omega) (isK_of (sh10_z ha0)) (Tf167 (by omega) a0 ha0 i3 I _ hxr35_1) ?_
      show aGo kad d 160 (38, ([(0, .ref a0), (1, .int i1), (2, .int i2), (3, .int i3)], [.ref r35_1.1])) (aMem Z r35_1.2, t) _
      refine go_ops aMi160 1 _ (f1 := (39, ([(0, .ref a0), (1, .int i1), (2, .int i2), (3, .int i3)], [.int i1, .ref r35_1.1]))) rfl ?_
      obtain ⟨r39_2, hxr39_2, h⟩ := Option.bind_eq_some_iff.mp h
      refine gg_cv (as := [.int i1]) (r := []) aMi160 rfl rfl rfl aMi70 (Nat.le_of_ble_eq_true rfl) rfl (Nat.le_of_ble_eq_true rfl) (Nat.le_of_ble_eq_true rfl) (by omega) (isK_of (sh5_z (Rf167 a0 ha0 i3 I _ hxr35_1))) (Tf70 (by omega) r35_1.1 (Rf167 a0 ha0 i3 I _ hxr35_1) i1 r35_1.2 _ hxr39_2) ?_
      show aGo kad d 160 (42, ([(0, .ref a0), (1, .int i1), (2, .int i2), (3, .int i3)], [.int r39_2.1])) (aMem Z r39_2.2, t) _
      refine gg_br (b := decide (r39_2.1 = 0)) (tg := 47) (off := 5) aMi160 rfl rfl rfl rfl (fun hb => ?_) (fun hb => ?_)
      · rw [if_pos (of_decide_eq_true hb)] at h
        refine go_ops aMi160 2 _ (f1 := (23, ([(3, .int (i3 + (Int32.ofInt (-1)))), (0, .ref a0), (1, .int i1), (2, .int i2)], []))) rfl ?_
        refine go_le (lv1 := [(0, .ref a0), (1, .int i1), (2, .int i2), (3, .int (i3 + (Int32.ofInt (-1))))]) (aLe_of (show (List.map (fun q => q.1) ([(0, .ref a0), (1, .int i1), (2, .int i2), (3, .int (i3 + (Int32.ofInt (-1))))] : ALv)).Nodup from (by show ([0, 1, 2, 3] : List Nat).Nodup; decide)) (aSubL_cons rfl (aSubL_cons rfl (aSubL_cons rfl (aSubL_cons rfl aSubL_nil))))) ?_
        exact ih a0 ha0 i1 i2 (i3 + (Int32.ofInt (-1))) r39_2.2 _ h
      · rw [if_neg (of_decide_eq_false hb)] at h
        refine go_ops aMi160 1 _ (f1 := (46, ([(0, .ref a0), (1, .int i1), (2, .int i2), (3, .int i3)], [.int i3]))) rfl ?_
        cases h
        exact go_ret aMi160 rfl aRetI qX_ret
def f160 (kad : Nat → Nat) (N : Nat) (Z : AZ) (a0 : Nat) (i1 : Int32) (I : AI) : Option ((Int32 ⊕ String) × AI) :=
  (f138 kad N Z i1 (0 : Int32) (255 : Int32) I).bind fun r5_1 =>
  xB r5_1 fun vr5_1 Ir5_1 =>
  f160_b23 kad N Z N a0 i1 (Ir5_1 (a0 + 115) 2) ((Ir5_1 (a0 + 115) 2) - (1 : Int32)) Ir5_1
set_option maxRecDepth 20000 in
theorem Tf160 {kad : Nat → Nat} {N : Nat} {Z : AZ} {d : Nat} {t : Option Nat × (Nat × Nat)} (hd : 2 ≤ d) : ∀ (a0 : Nat) (ha0 : sh10 kad Z a0) (i1 : Int32) (I : AI) (r : (Int32 ⊕ String) × AI), f160 kad N Z a0 i1 I = some r → aGo kad d 160 (0, ([(0, .ref a0), (1, .int i1)], [])) (aMem Z I, t) (qX tvI Z t r) := by
  intro a0 ha0 i1 I r h
  unfold f160 at h
  refine go_ops aMi160 3 _ (f1 := (5, ([(0, .ref a0), (1, .int i1)], [.int (255 : Int32), .int (0 : Int32), .int i1]))) rfl ?_
  obtain ⟨r5_1, hxr5_1, h⟩ := Option.bind_eq_some_iff.mp h
  rcases xB_eq h with ⟨vr5_1, Ir5_1, her5_1, h2⟩ | ⟨Er5_1, Ir5_1, her5_1, h2⟩
  rotate_left
  · clear h
    subst her5_1
    subst h2
    exact gg_cst (as := [.int i1, .int (0 : Int32), .int (255 : Int32)]) (r := []) aMi160 rfl rfl rfl aMi138 rfl (Nat.le_of_ble_eq_true rfl) (Nat.le_of_ble_eq_true rfl) (by omega) (Tf138 (by omega) i1 (0 : Int32) (255 : Int32) I _ hxr5_1) qX_thr
  clear h
  subst her5_1
  have h := h2
  clear h2
  refine gg_cs (as := [.int i1, .int (0 : Int32), .int (255 : Int32)]) (r := []) aMi160 rfl rfl rfl aMi138 rfl (Nat.le_of_ble_eq_true rfl) (Nat.le_of_ble_eq_true rfl) (by omega) (Tf138 (by omega) i1 (0 : Int32) (255 : Int32) I _ hxr5_1) ?_
  show aGo kad d 160 (8, ([(0, .ref a0), (1, .int i1)], [])) (aMem Z Ir5_1, t) _
  refine go_ops aMi160 1 _ (f1 := (9, ([(0, .ref a0), (1, .int i1)], [.ref a0]))) rfl ?_
  refine gg_gR (b := (a0 + 114)) aMi160 rfl rfl rfl (gR_of (sh10_z ha0) (sh10_r3 ha0)) ?_
  refine gg_gR (b := (a0 + 115)) aMi160 rfl rfl rfl (gR_of (sh8_z (sh10_s3 ha0)) (sh8_r0 (sh10_s3 ha0))) ?_
  refine gg_gI aMi160 rfl rfl rfl (gI_of (sh2_z (sh8_s0 (sh10_s3 ha0)))) ?_
  refine go_ops aMi160 5 _ (f1 := (23, ([(3, .int ((Ir5_1 (a0 + 115) 2) - (1 : Int32))), (2, .int (Ir5_1 (a0 + 115) 2)), (0, .ref a0), (1, .int i1)], []))) rfl ?_
  refine go_le (lv1 := [(0, .ref a0), (1, .int i1), (2, .int (Ir5_1 (a0 + 115) 2)), (3, .int ((Ir5_1 (a0 + 115) 2) - (1 : Int32)))]) (aLe_of (show (List.map (fun q => q.1) ([(0, .ref a0), (1, .int i1), (2, .int (Ir5_1 (a0 + 115) 2)), (3, .int ((Ir5_1 (a0 + 115) 2) - (1 : Int32)))] : ALv)).Nodup from (by show ([0, 1, 2, 3] : List Nat).Nodup; decide)) (aSubL_cons rfl (aSubL_cons rfl (aSubL_cons rfl (aSubL_cons rfl aSubL_nil))))) ?_
  exact Tf160_b23 hd N a0 ha0 i1 (Ir5_1 (a0 + 115) 2) ((Ir5_1 (a0 + 115) 2) - (1 : Int32)) Ir5_1 _ h
-- KernelGym.tape ()I
def f161 (kad : Nat → Nat) (N : Nat) (Z : AZ) (a0 : Nat) (I : AI) : Option (Int32 × AI) :=
  some ((I (a0 + 115) 12), I)
set_option maxRecDepth 20000 in
theorem Tf161 {kad : Nat → Nat} {N : Nat} {Z : AZ} {d : Nat} {t : Option Nat × (Nat × Nat)} (hd : 0 ≤ d) : ∀ (a0 : Nat) (ha0 : sh10 kad Z a0) (I : AI) (r : Int32 × AI), f161 kad N Z a0 I = some r → aGo kad d 161 (0, ([(0, .ref a0)], [])) (aMem Z I, t) (qI Z t r) := by
  intro a0 ha0 I r h
  unfold f161 at h
  refine go_ops aMi161 1 _ (f1 := (1, ([(0, .ref a0)], [.ref a0]))) rfl ?_
  refine gg_gR (b := (a0 + 114)) aMi161 rfl rfl rfl (gR_of (sh10_z ha0) (sh10_r3 ha0)) ?_
  refine gg_gR (b := (a0 + 115)) aMi161 rfl rfl rfl (gR_of (sh8_z (sh10_s3 ha0)) (sh8_r0 (sh10_s3 ha0))) ?_
  refine gg_gI aMi161 rfl rfl rfl (gI_of (sh2_z (sh8_s0 (sh10_s3 ha0)))) ?_
  cases h
  exact go_ret aMi161 rfl aRetI ⟨rfl, rfl⟩
-- KernelGym$Assembler.errorAt (II)I
def f162 (kad : Nat → Nat) (N : Nat) (Z : AZ) (i0 : Int32) (i1 : Int32) (I : AI) : Option (Int32 × AI) :=
  some ((((100 : Int32) * i0) + i1), I)
set_option maxRecDepth 20000 in
theorem Tf162 {kad : Nat → Nat} {N : Nat} {Z : AZ} {d : Nat} {t : Option Nat × (Nat × Nat)} (hd : 0 ≤ d) : ∀ (i0 : Int32) (i1 : Int32) (I : AI) (r : Int32 × AI), f162 kad N Z i0 i1 I = some r → aGo kad d 162 (0, ([(0, .int i0), (1, .int i1)], [])) (aMem Z I, t) (qI Z t r) := by
  intro i0 i1 I r h
  unfold f162 at h
  refine go_ops aMi162 5 _ (f1 := (6, ([(0, .int i0), (1, .int i1)], [.int (((100 : Int32) * i0) + i1)]))) rfl ?_
  cases h
  exact go_ret aMi162 rfl aRetI ⟨rfl, rfl⟩
-- KernelGym.sum ()I
def f163 (kad : Nat → Nat) (N : Nat) (Z : AZ) (a0 : Nat) (I : AI) : Option (Int32 × AI) :=
  (f112 kad N Z (a0 + 114) I).bind fun r4_1 =>
  some (r4_1.1, r4_1.2)
set_option maxRecDepth 20000 in
theorem Tf163 {kad : Nat → Nat} {N : Nat} {Z : AZ} {d : Nat} {t : Option Nat × (Nat × Nat)} (hd : 3 ≤ d) : ∀ (a0 : Nat) (ha0 : sh10 kad Z a0) (I : AI) (r : Int32 × AI), f163 kad N Z a0 I = some r → aGo kad d 163 (0, ([(0, .ref a0)], [])) (aMem Z I, t) (qI Z t r) := by
  intro a0 ha0 I r h
  unfold f163 at h
  refine go_ops aMi163 1 _ (f1 := (1, ([(0, .ref a0)], [.ref a0]))) rfl ?_
  refine gg_gR (b := (a0 + 114)) aMi163 rfl rfl rfl (gR_of (sh10_z ha0) (sh10_r3 ha0)) ?_
  obtain ⟨r4_1, hxr4_1, h⟩ := Option.bind_eq_some_iff.mp h
  refine gg_cv (as := []) (r := []) aMi163 rfl rfl rfl aMi112 (Nat.le_of_ble_eq_true rfl) rfl (Nat.le_of_ble_eq_true rfl) (Nat.le_of_ble_eq_true rfl) (by omega) (isK_of (sh8_z (sh10_s3 ha0))) (Tf112 (by omega) (a0 + 114) (sh10_s3 ha0) I _ hxr4_1) ?_
  show aGo kad d 163 (7, ([(0, .ref a0)], [.int r4_1.1])) (aMem Z r4_1.2, t) _
  cases h
  exact go_ret aMi163 rfl aRetI ⟨rfl, rfl⟩
-- KernelGym.sumAnew (I)I
def f164_b104 (kad : Nat → Nat) (N : Nat) (Z : AZ) (a0 : Nat) (I : AI) : Option ((Int32 ⊕ String) × AI) :=
  (f112 kad N Z (a0 + 143) I).bind fun r108_1 =>
  some (.inl r108_1.1, r108_1.2)
set_option maxRecDepth 20000 in
theorem Tf164_b104 {kad : Nat → Nat} {N : Nat} {Z : AZ} {d : Nat} {t : Option Nat × (Nat × Nat)} (hd : 6 ≤ d) : ∀ (a0 : Nat) (ha0 : sh10 kad Z a0) (I : AI) (r : (Int32 ⊕ String) × AI), f164_b104 kad N Z a0 I = some r → aGo kad d 164 (104, ([(0, .ref a0)], [])) (aMem Z I, t) (qX tvI Z t r) := by
  intro a0 ha0 I r h
  unfold f164_b104 at h
  refine go_ops aMi164 1 _ (f1 := (105, ([(0, .ref a0)], [.ref a0]))) rfl ?_
  refine gg_gR (b := (a0 + 143)) aMi164 rfl rfl rfl (gR_of (sh10_z ha0) (sh10_r8 ha0)) ?_
  obtain ⟨r108_1, hxr108_1, h⟩ := Option.bind_eq_some_iff.mp h
  refine gg_cv (as := []) (r := []) aMi164 rfl rfl rfl aMi112 (Nat.le_of_ble_eq_true rfl) rfl (Nat.le_of_ble_eq_true rfl) (Nat.le_of_ble_eq_true rfl) (by omega) (isK_of (sh8_z (sh10_s8 ha0))) (Tf112 (by omega) (a0 + 143) (sh10_s8 ha0) I _ hxr108_1) ?_
  show aGo kad d 164 (111, ([(0, .ref a0)], [.int r108_1.1])) (aMem Z r108_1.2, t) _
  cases h
  exact go_ret aMi164 rfl aRetI qX_ret
def f164_b72 (kad : Nat → Nat) (N : Nat) (Z : AZ) : Nat → Nat → Int32 → Int32 → AI → Option ((Int32 ⊕ String) × AI)
  | 0, _, _, _, _ => none
  | F + 1, a0, i1, i2, I =>
    if i1 ≤ i2 then
      f164_b104 kad N Z a0 I
    else
      (f82 kad N Z (a0 + 143) I).bind fun r81_1 =>
      if r81_1.1 = 0 then
        f164_b104 kad N Z a0 r81_1.2
      else
        (f83 kad N Z (a0 + 143) (a0 + 169) r81_1.2).bind fun r95_2 =>
        f164_b72 kad N Z F a0 i1 (i2 + (1 : Int32)) r95_2.2
set_option maxRecDepth 20000 in
theorem Tf164_b72 {kad : Nat → Nat} {N : Nat} {Z : AZ} {d : Nat} {t : Option Nat × (Nat × Nat)} (hd : 6 ≤ d) : ∀ (F : Nat) (a0 : Nat) (ha0 : sh10 kad Z a0) (i1 : Int32) (i2 : Int32) (I : AI) (r : (Int32 ⊕ String) × AI), f164_b72 kad N Z F a0 i1 i2 I = some r → aGo kad d 164 (72, ([(0, .ref a0), (1, .int i1), (2, .int i2)], [])) (aMem Z I, t) (qX tvI Z t r) := by
  intro F
  induction F with
  | zero => intro a0 ha0 i1 i2 I r h; cases h
  | succ F ih =>
    intro a0 ha0 i1 i2 I r h
    unfold f164_b72 at h
    refine go_ops aMi164 2 _ (f1 := (74, ([(0, .ref a0), (1, .int i1), (2, .int i2)], [.int i1, .int i2]))) rfl ?_
    refine gg_br (b := decide (i1 ≤ i2)) (tg := 104) (off := 30) aMi164 rfl rfl rfl rfl (fun hb => ?_) (fun hb => ?_)
    · rw [if_pos (of_decide_eq_true hb)] at h
      refine go_le (lv1 := [(0, .ref a0)]) (aLe_of (show (List.map (fun q => q.1) ([(0, .ref a0)] : ALv)).Nodup from (by show ([0] : List Nat).Nodup; decide)) (aSubL_cons rfl aSubL_nil)) ?_
      exact Tf164_b104 hd a0 ha0 I _ h
    · rw [if_neg (of_decide_eq_false hb)] at h
      refine go_ops aMi164 1 _ (f1 := (78, ([(0, .ref a0), (1, .int i1), (2, .int i2)], [.ref a0]))) rfl ?_
      refine gg_gR (b := (a0 + 143)) aMi164 rfl rfl rfl (gR_of (sh10_z ha0) (sh10_r8 ha0)) ?_
      obtain ⟨r81_1, hxr81_1, h⟩ := Option.bind_eq_some_iff.mp h
      refine gg_cv (as := []) (r := []) aMi164 rfl rfl rfl aMi82 (Nat.le_of_ble_eq_true rfl) rfl (Nat.le_of_ble_eq_true rfl) (Nat.le_of_ble_eq_true rfl) (by omega) (isK_of (sh8_z (sh10_s8 ha0))) (Tf82 (by omega) (a0 + 143) (sh10_s8 ha0) I _ hxr81_1) ?_
      show aGo kad d 164 (84, ([(0, .ref a0), (1, .int i1), (2, .int i2)], [.int r81_1.1])) (aMem Z r81_1.2, t) _
      refine gg_br (b := decide (r81_1.1 = 0)) (tg := 104) (off := 20) aMi164 rfl rfl rfl rfl (fun hb => ?_) (fun hb => ?_)
      · rw [if_pos (of_decide_eq_true hb)] at h
        refine go_le (lv1 := [(0, .ref a0)]) (aLe_of (show (List.map (fun q => q.1) ([(0, .ref a0)] : ALv)).Nodup from (by show ([0] : List Nat).Nodup; decide)) (aSubL_cons rfl aSubL_nil)) ?_
        exact Tf164_b104 hd a0 ha0 r81_1.2 _ h
      · rw [if_neg (of_decide_eq_false hb)] at h
        refine go_ops aMi164 1 _ (f1 := (88, ([(0, .ref a0), (1, .int i1), (2, .int i2)], [.ref a0]))) rfl ?_
        refine gg_gR (b := (a0 + 143)) aMi164 rfl rfl rfl (gR_of (sh10_z ha0) (sh10_r8 ha0)) ?_
        refine go_ops aMi164 1 _ (f1 := (92, ([(0, .ref a0), (1, .int i1), (2, .int i2)], [.ref a0, .ref (a0 + 143)]))) rfl ?_
        refine gg_gR (b := (a0 + 169)) aMi164 rfl rfl rfl (gR_of (sh10_z ha0) (sh10_r9 ha0)) ?_
        obtain ⟨r95_2, hxr95_2, h⟩ := Option.bind_eq_some_iff.mp h
        refine gg_cv (as := [.ref (a0 + 169)]) (r := []) aMi164 rfl rfl rfl aMi83 (Nat.le_of_ble_eq_true rfl) rfl (Nat.le_of_ble_eq_true rfl) (Nat.le_of_ble_eq_true rfl) (by omega) (isK_of (sh8_z (sh10_s8 ha0))) (Tf83 (by omega) (a0 + 143) (sh10_s8 ha0) (a0 + 169) (sh10_s9 ha0) r81_1.2 _ hxr95_2) ?_
        show aGo kad d 164 (98, ([(0, .ref a0), (1, .int i1), (2, .int i2)], [])) (aMem Z r95_2.2, t) _
        refine go_ops aMi164 2 _ (f1 := (72, ([(2, .int (i2 + (1 : Int32))), (0, .ref a0), (1, .int i1)], []))) rfl ?_
        refine go_le (lv1 := [(0, .ref a0), (1, .int i1), (2, .int (i2 + (1 : Int32)))]) (aLe_of (show (List.map (fun q => q.1) ([(0, .ref a0), (1, .int i1), (2, .int (i2 + (1 : Int32)))] : ALv)).Nodup from (by show ([0, 1, 2] : List Nat).Nodup; decide)) (aSubL_cons rfl (aSubL_cons rfl (aSubL_cons rfl aSubL_nil)))) ?_
        exact ih a0 ha0 i1 (i2 + (1 : Int32)) r95_2.2 _ h
def f164 (kad : Nat → Nat) (N : Nat) (Z : AZ) (a0 : Nat) (i1 : Int32) (I : AI) : Option ((Int32 ⊕ String) × AI) :=
  (f165 kad N Z a0 I).bind fun r1_1 =>
  xB r1_1 fun vr1_1 Ir1_1 =>
  (f138 kad N Z i1 (0 : Int32) (Ir1_1 (a0 + 115) 2) Ir1_1).bind fun r16_2 =>
  xB r16_2 fun vr16_2 Ir16_2 =>
  (cA Ir16_2 (a0 + 142) 256 (0 : Int32) (a0 + 152) 256 (0 : Int32) (256 : Int32)).bind fun I38_3 =>
  (f73 kad N Z (a0 + 153) (a0 + 124) I38_3).bind fun r55_4 =>
  (f80 kad N Z (a0 + 143) (a0 + 141) r55_4.2).bind fun r66_5 =>
  f164_b72 kad N Z N a0 i1 (0 : Int32) r66_5.2
set_option maxRecDepth 20000 in
theorem Tf164 {kad : Nat → Nat} {N : Nat} {Z : AZ} {d : Nat} {t : Option Nat × (Nat × Nat)} (hd : 6 ≤ d) : ∀ (a0 : Nat) (ha0 : sh10 kad Z a0) (i1 : Int32) (I : AI) (r : (Int32 ⊕ String) × AI), f164 kad N Z a0 i1 I = some r → aGo kad d 164 (0, ([(0, .ref a0), (1, .int i1)], [])) (aMem Z I, t) (qX tvI Z t r) := by
  intro a0 ha0 i1 I r h
  unfold f164 at h
  refine go_ops aMi164 1 _ (f1 := (1, ([(0, .ref a0), (1, .int i1)], [.ref a0]))) rfl ?_
  obtain ⟨r1_1, hxr1_1, h⟩ := Option.bind_eq_some_iff.mp h
  rcases xB_eq h with ⟨vr1_1, Ir1_1, her1_1, h2⟩ | ⟨Er1_1, Ir1_1, her1_1, h2⟩
  rotate_left
  · clear h
    subst her1_1
    subst h2
    exact gg_cvt (as := []) (r := []) aMi164 rfl rfl rfl aMi165 (Nat.le_of_ble_eq_true rfl) rfl (Nat.le_of_ble_eq_true rfl) (Nat.le_of_ble_eq_true rfl) (by omega) (isK_of (sh10_z ha0)) (Tf165 (by omega) a0 ha0 I _ hxr1_1) qX_thr
  clear h
  subst her1_1
  have h := h2
  clear h2
  refine gg_cv (as := []) (r := []) aMi164 rfl rfl rfl aMi165 (Nat.le_of_ble_eq_true rfl) rfl (Nat.le_of_ble_eq_true rfl) (Nat.le_of_ble_eq_true rfl) (by omega) (isK_of (sh10_z ha0)) (Tf165 (by omega) a0 ha0 I _ hxr1_1) ?_
  show aGo kad d 164 (4, ([(0, .ref a0), (1, .int i1)], [])) (aMem Z Ir1_1, t) _
  refine go_ops aMi164 3 _ (f1 := (7, ([(0, .ref a0), (1, .int i1)], [.ref a0, .int (0 : Int32), .int i1]))) rfl ?_
  refine gg_gR (b := (a0 + 114)) aMi164 rfl rfl rfl (gR_of (sh10_z ha0) (sh10_r3 ha0)) ?_
  refine gg_gR (b := (a0 + 115)) aMi164 rfl rfl rfl (gR_of (sh8_z (sh10_s3 ha0)) (sh8_r0 (sh10_s3 ha0))) ?_
  refine gg_gI aMi164 rfl rfl rfl (gI_of (sh2_z (sh8_s0 (sh10_s3 ha0)))) ?_
  obtain ⟨r16_2, hxr16_2, h⟩ := Option.bind_eq_some_iff.mp h
  rcases xB_eq h with ⟨vr16_2, Ir16_2, her16_2, h2⟩ | ⟨Er16_2, Ir16_2, her16_2, h2⟩
  rotate_left
  · clear h
    subst her16_2
    subst h2
    exact gg_cst (as := [.int i1, .int (0 : Int32), .int (Ir1_1 (a0 + 115) 2)]) (r := []) aMi164 rfl rfl rfl aMi138 rfl (Nat.le_of_ble_eq_true rfl) (Nat.le_of_ble_eq_true rfl) (by omega) (Tf138 (by omega) i1 (0 : Int32) (Ir1_1 (a0 + 115) 2) Ir1_1 _ hxr16_2) qX_thr
  clear h
  subst her16_2
  have h := h2
  clear h2
  refine gg_cs (as := [.int i1, .int (0 : Int32), .int (Ir1_1 (a0 + 115) 2)]) (r := []) aMi164 rfl rfl rfl aMi138 rfl (Nat.le_of_ble_eq_true rfl) (Nat.le_of_ble_eq_true rfl) (by omega) (Tf138 (by omega) i1 (0 : Int32) (Ir1_1 (a0 + 115) 2) Ir1_1 _ hxr16_2) ?_
  show aGo kad d 164 (19, ([(0, .ref a0), (1, .int i1)], [])) (aMem Z Ir16_2, t) _
  refine go_ops aMi164 1 _ (f1 := (20, ([(0, .ref a0), (1, .int i1)], [.ref a0]))) rfl ?_
  refine gg_gR (b := (a0 + 142)) aMi164 rfl rfl rfl (gR_of (sh10_z ha0) (sh10_r7 ha0)) ?_
  refine go_ops aMi164 2 _ (f1 := (25, ([(0, .ref a0), (1, .int i1)], [.ref a0, .int (0 : Int32), .ref (a0 + 142)]))) rfl ?_
  refine gg_gR (b := (a0 + 143)) aMi164 rfl rfl rfl (gR_of (sh10_z ha0) (sh10_r8 ha0)) ?_
  refine gg_gR (b := (a0 + 151)) aMi164 rfl rfl rfl (gR_of (sh8_z (sh10_s8 ha0)) (sh8_r3 (sh10_s8 ha0))) ?_
  refine gg_gR (b := (a0 + 152)) aMi164 rfl rfl rfl (gR_of (sh3_z (sh8_s3 (sh10_s8 ha0))) (sh3_r0 (sh8_s3 (sh10_s8 ha0)))) ?_
  refine go_ops aMi164 2 _ (f1 := (38, ([(0, .ref a0), (1, .int i1)], [.int (256 : Int32), .int (0 : Int32), .ref (a0 + 152), .int (0 : Int32), .ref (a0 + 142)]))) rfl ?_
  obtain ⟨I38_3, hxI38_3, h⟩ := Option.bind_eq_some_iff.mp h
  refine gg_cp aMi164 rfl rfl (Nat.le_of_ble_eq_true rfl) (cI_of (sh10_a7 ha0) (sh3_a0 (sh8_s3 (sh10_s8 ha0))) hxI38_3) ?_
  refine go_ops aMi164 1 _ (f1 := (42, ([(0, .ref a0), (1, .int i1)], [.ref a0]))) rfl ?_
  refine gg_gR (b := (a0 + 143)) aMi164 rfl rfl rfl (gR_of (sh10_z ha0) (sh10_r8 ha0)) ?_
  refine gg_gR (b := (a0 + 153)) aMi164 rfl rfl rfl (gR_of (sh8_z (sh10_s8 ha0)) (sh8_r4 (sh10_s8 ha0))) ?_
  refine go_ops aMi164 1 _ (f1 := (49, ([(0, .ref a0), (1, .int i1)], [.ref a0, .ref (a0 + 153)]))) rfl ?_
  refine gg_gR (b := (a0 + 114)) aMi164 rfl rfl rfl (gR_of (sh10_z ha0) (sh10_r3 ha0)) ?_
  refine gg_gR (b := (a0 + 124)) aMi164 rfl rfl rfl (gR_of (sh8_z (sh10_s3 ha0)) (sh8_r4 (sh10_s3 ha0))) ?_
  obtain ⟨r55_4, hxr55_4, h⟩ := Option.bind_eq_some_iff.mp h
  refine gg_cv (as := [.ref (a0 + 124)]) (r := []) aMi164 rfl rfl rfl aMi73 (Nat.le_of_ble_eq_true rfl) rfl (Nat.le_of_ble_eq_true rfl) (Nat.le_of_ble_eq_true rfl) (by omega) (isK_of (sh6_z (sh8_s4 (sh10_s8 ha0)))) (Tf73 (by omega) (a0 + 153) (sh8_s4 (sh10_s8 ha0)) (a0 + 124) (sh8_s4 (sh10_s3 ha0)) I38_3 _ hxr55_4) ?_
  show aGo kad d 164 (58, ([(0, .ref a0), (1, .int i1)], [])) (aMem Z r55_4.2, t) _
  refine go_ops aMi164 1 _ (f1 := (59, ([(0, .ref a0), (1, .int i1)], [.ref a0]))) rfl ?_
  refine gg_gR (b := (a0 + 143)) aMi164 rfl rfl rfl (gR_of (sh10_z ha0) (sh10_r8 ha0)) ?_
  refine go_ops aMi164 1 _ (f1 := (63, ([(0, .ref a0), (1, .int i1)], [.ref a0, .ref (a0 + 143)]))) rfl ?_
  refine gg_gR (b := (a0 + 141)) aMi164 rfl rfl rfl (gR_of (sh10_z ha0) (sh10_r6 ha0)) ?_
  obtain ⟨r66_5, hxr66_5, h⟩ := Option.bind_eq_some_iff.mp h
  refine gg_cv (as := [.ref (a0 + 141)]) (r := []) aMi164 rfl rfl rfl aMi80 (Nat.le_of_ble_eq_true rfl) rfl (Nat.le_of_ble_eq_true rfl) (Nat.le_of_ble_eq_true rfl) (by omega) (isK_of (sh8_z (sh10_s8 ha0))) (Tf80 (by omega) (a0 + 143) (sh10_s8 ha0) (a0 + 141) r55_4.2 _ hxr66_5) ?_
  show aGo kad d 164 (69, ([(0, .ref a0), (1, .int i1)], [.int r66_5.1])) (aMem Z r66_5.2, t) _
  refine go_ops aMi164 3 _ (f1 := (72, ([(2, .int (0 : Int32)), (0, .ref a0), (1, .int i1)], []))) rfl ?_
  refine go_le (lv1 := [(0, .ref a0), (1, .int i1), (2, .int (0 : Int32))]) (aLe_of (show (List.map (fun q => q.1) ([(0, .ref a0), (1, .int i1), (2, .int (0 : Int32))] : ALv)).Nodup from (by show ([0, 1, 2] : List Nat).Nodup; decide)) (aSubL_cons rfl (aSubL_cons rfl (aSubL_cons rfl aSubL_nil)))) ?_
  exact Tf164_b72 hd N a0 ha0 i1 (0 : Int32) r66_5.2 _ h
-- KernelGym.written ()I
def f168 (kad : Nat → Nat) (N : Nat) (Z : AZ) (a0 : Nat) (I : AI) : Option (Int32 × AI) :=
  some ((I (a0 + 122) 1), I)
set_option maxRecDepth 20000 in
theorem Tf168 {kad : Nat → Nat} {N : Nat} {Z : AZ} {d : Nat} {t : Option Nat × (Nat × Nat)} (hd : 0 ≤ d) : ∀ (a0 : Nat) (ha0 : sh10 kad Z a0) (I : AI) (r : Int32 × AI), f168 kad N Z a0 I = some r → aGo kad d 168 (0, ([(0, .ref a0)], [])) (aMem Z I, t) (qI Z t r) := by
  intro a0 ha0 I r h
  unfold f168 at h
  refine go_ops aMi168 1 _ (f1 := (1, ([(0, .ref a0)], [.ref a0]))) rfl ?_
  refine gg_gR (b := (a0 + 114)) aMi168 rfl rfl rfl (gR_of (sh10_z ha0) (sh10_r3 ha0)) ?_
  refine gg_gR (b := (a0 + 122)) aMi168 rfl rfl rfl (gR_of (sh8_z (sh10_s3 ha0)) (sh8_r3 (sh10_s3 ha0))) ?_
  refine gg_gI aMi168 rfl rfl rfl (gI_of (sh3_z (sh8_s3 (sh10_s3 ha0)))) ?_
  cases h
  exact go_ret aMi168 rfl aRetI ⟨rfl, rfl⟩
-- KernelGym.disk (II)I
def f169 (kad : Nat → Nat) (N : Nat) (Z : AZ) (a0 : Nat) (i1 : Int32) (i2 : Int32) (I : AI) : Option ((Int32 ⊕ String) × AI) :=
  (f138 kad N Z i1 (0 : Int32) (31 : Int32) I).bind fun r4_1 =>
  xB r4_1 fun vr4_1 Ir4_1 =>
  (f138 kad N Z i2 (0 : Int32) (7 : Int32) Ir4_1).bind fun r11_2 =>
  xB r11_2 fun vr11_2 Ir11_2 =>
  (f43 kad N Z (a0 + 122) i1 i2 Ir11_2).bind fun r23_3 =>
  some (.inl r23_3.1, r23_3.2)
set_option maxRecDepth 20000 in
theorem Tf169 {kad : Nat → Nat} {N : Nat} {Z : AZ} {d : Nat} {t : Option Nat × (Nat × Nat)} (hd : 1 ≤ d) : ∀ (a0 : Nat) (ha0 : sh10 kad Z a0) (i1 : Int32) (i2 : Int32) (I : AI) (r : (Int32 ⊕ String) × AI), f169 kad N Z a0 i1 i2 I = some r → aGo kad d 169 (0, ([(0, .ref a0), (1, .int i1), (2, .int i2)], [])) (aMem Z I, t) (qX tvI Z t r) := by
  intro a0 ha0 i1 i2 I r h
  unfold f169 at h
  refine go_ops aMi169 3 _ (f1 := (4, ([(0, .ref a0), (1, .int i1), (2, .int i2)], [.int (31 : Int32), .int (0 : Int32), .int i1]))) rfl ?_
  obtain ⟨r4_1, hxr4_1, h⟩ := Option.bind_eq_some_iff.mp h
  rcases xB_eq h with ⟨vr4_1, Ir4_1, her4_1, h2⟩ | ⟨Er4_1, Ir4_1, her4_1, h2⟩
  rotate_left
  · clear h
    subst her4_1
    subst h2
    exact gg_cst (as := [.int i1, .int (0 : Int32), .int (31 : Int32)]) (r := []) aMi169 rfl rfl rfl aMi138 rfl (Nat.le_of_ble_eq_true rfl) (Nat.le_of_ble_eq_true rfl) (by omega) (Tf138 (by omega) i1 (0 : Int32) (31 : Int32) I _ hxr4_1) qX_thr
  clear h
  subst her4_1
  have h := h2
  clear h2
  refine gg_cs (as := [.int i1, .int (0 : Int32), .int (31 : Int32)]) (r := []) aMi169 rfl rfl rfl aMi138 rfl (Nat.le_of_ble_eq_true rfl) (Nat.le_of_ble_eq_true rfl) (by omega) (Tf138 (by omega) i1 (0 : Int32) (31 : Int32) I _ hxr4_1) ?_
  show aGo kad d 169 (7, ([(0, .ref a0), (1, .int i1), (2, .int i2)], [])) (aMem Z Ir4_1, t) _
  refine go_ops aMi169 3 _ (f1 := (11, ([(0, .ref a0), (1, .int i1), (2, .int i2)], [.int (7 : Int32), .int (0 : Int32), .int i2]))) rfl ?_
  obtain ⟨r11_2, hxr11_2, h⟩ := Option.bind_eq_some_iff.mp h
  rcases xB_eq h with ⟨vr11_2, Ir11_2, her11_2, h2⟩ | ⟨Er11_2, Ir11_2, her11_2, h2⟩
  rotate_left
  · clear h
    subst her11_2
    subst h2
    exact gg_cst (as := [.int i2, .int (0 : Int32), .int (7 : Int32)]) (r := []) aMi169 rfl rfl rfl aMi138 rfl (Nat.le_of_ble_eq_true rfl) (Nat.le_of_ble_eq_true rfl) (by omega) (Tf138 (by omega) i2 (0 : Int32) (7 : Int32) Ir4_1 _ hxr11_2) qX_thr
  clear h
  subst her11_2
  have h := h2
  clear h2
  refine gg_cs (as := [.int i2, .int (0 : Int32), .int (7 : Int32)]) (r := []) aMi169 rfl rfl rfl aMi138 rfl (Nat.le_of_ble_eq_true rfl) (Nat.le_of_ble_eq_true rfl) (by omega) (Tf138 (by omega) i2 (0 : Int32) (7 : Int32) Ir4_1 _ hxr11_2) ?_
  show aGo kad d 169 (14, ([(0, .ref a0), (1, .int i1), (2, .int i2)], [])) (aMem Z Ir11_2, t) _
  refine go_ops aMi169 1 _ (f1 := (15, ([(0, .ref a0), (1, .int i1), (2, .int i2)], [.ref a0]))) rfl ?_
  refine gg_gR (b := (a0 + 114)) aMi169 rfl rfl rfl (gR_of (sh10_z ha0) (sh10_r3 ha0)) ?_
  refine gg_gR (b := (a0 + 122)) aMi169 rfl rfl rfl (gR_of (sh8_z (sh10_s3 ha0)) (sh8_r3 (sh10_s3 ha0))) ?_
  refine go_ops aMi169 2 _ (f1 := (23, ([(0, .ref a0), (1, .int i1), (2, .int i2)], [.int i2, .int i1, .ref (a0 + 122)]))) rfl ?_
  obtain ⟨r23_3, hxr23_3, h⟩ := Option.bind_eq_some_iff.mp h
  refine gg_cv (as := [.int i1, .int i2]) (r := []) aMi169 rfl rfl rfl aMi43 (Nat.le_of_ble_eq_true rfl) rfl (Nat.le_of_ble_eq_true rfl) (Nat.le_of_ble_eq_true rfl) (by omega) (isK_of (sh3_z (sh8_s3 (sh10_s3 ha0)))) (Tf43 (by omega) (a0 + 122) (sh8_s3 (sh10_s3 ha0)) i1 i2 Ir11_2 _ hxr23_3) ?_
  show aGo kad d 169 (26, ([(0, .ref a0), (1, .int i1), (2, .int i2)], [.int r23_3.1])) (aMem Z r23_3.2, t) _
  cases h
  exact go_ret aMi169 rfl aRetI qX_ret
-- KernelGym.files ()I
def f170 (kad : Nat → Nat) (N : Nat) (Z : AZ) (a0 : Nat) (I : AI) : Option (Int32 × AI) :=
  (f52 kad N Z (a0 + 122) I).bind fun r7_1 =>
  some (r7_1.1, r7_1.2)
set_option maxRecDepth 20000 in
theorem Tf170 {kad : Nat → Nat} {N : Nat} {Z : AZ} {d : Nat} {t : Option Nat × (Nat × Nat)} (hd : 2 ≤ d) : ∀ (a0 : Nat) (ha0 : sh10 kad Z a0) (I : AI) (r : Int32 × AI), f170 kad N Z a0 I = some r → aGo kad d 170 (0, ([(0, .ref a0)], [])) (aMem Z I, t) (qI Z t r) := by
  intro a0 ha0 I r h
  unfold f170 at h
  refine go_ops aMi170 1 _ (f1 := (1, ([(0, .ref a0)], [.ref a0]))) rfl ?_
  refine gg_gR (b := (a0 + 114)) aMi170 rfl rfl rfl (gR_of (sh10_z ha0) (sh10_r3 ha0)) ?_
  refine gg_gR (b := (a0 + 122)) aMi170 rfl rfl rfl (gR_of (sh8_z (sh10_s3 ha0)) (sh8_r3 (sh10_s3 ha0))) ?_
  obtain ⟨r7_1, hxr7_1, h⟩ := Option.bind_eq_some_iff.mp h
  refine gg_cv (as := []) (r := []) aMi170 rfl rfl rfl aMi52 (Nat.le_of_ble_eq_true rfl) rfl (Nat.le_of_ble_eq_true rfl) (Nat.le_of_ble_eq_true rfl) (by omega) (isK_of (sh3_z (sh8_s3 (sh10_s3 ha0)))) (Tf52 (by omega) (a0 + 122) (sh8_s3 (sh10_s3 ha0)) I _ hxr7_1) ?_
  show aGo kad d 170 (10, ([(0, .ref a0)], [.int r7_1.1])) (aMem Z r7_1.2, t) _
  cases h
  exact go_ret aMi170 rfl aRetI ⟨rfl, rfl⟩
-- KernelGym$Assembler.errorAt (II)I
def f172 (kad : Nat → Nat) (N : Nat) (Z : AZ) (i0 : Int32) (i1 : Int32) (I : AI) : Option (Int32 × AI) :=
  some ((((100 : Int32) * i0) + i1), I)
set_option maxRecDepth 20000 in
theorem Tf172 {kad : Nat → Nat} {N : Nat} {Z : AZ} {d : Nat} {t : Option Nat × (Nat × Nat)} (hd : 0 ≤ d) : ∀ (i0 : Int32) (i1 : Int32) (I : AI) (r : Int32 × AI), f172 kad N Z i0 i1 I = some r → aGo kad d 172 (0, ([(0, .int i0), (1, .int i1)], [])) (aMem Z I, t) (qI Z t r) := by
  intro i0 i1 I r h
  unfold f172 at h
  refine go_ops aMi172 5 _ (f1 := (6, ([(0, .int i0), (1, .int i1)], [.int (((100 : Int32) * i0) + i1)]))) rfl ?_
  cases h
  exact go_ret aMi172 rfl aRetI ⟨rfl, rfl⟩
-- KernelGym.freeBlocks ()I
def f173 (kad : Nat → Nat) (N : Nat) (Z : AZ) (a0 : Nat) (I : AI) : Option (Int32 × AI) :=
  (f57 kad N Z (a0 + 122) I).bind fun r7_1 =>
  some (r7_1.1, r7_1.2)
set_option maxRecDepth 20000 in
theorem Tf173 {kad : Nat → Nat} {N : Nat} {Z : AZ} {d : Nat} {t : Option Nat × (Nat × Nat)} (hd : 2 ≤ d) : ∀ (a0 : Nat) (ha0 : sh10 kad Z a0) (I : AI) (r : Int32 × AI), f173 kad N Z a0 I = some r → aGo kad d 173 (0, ([(0, .ref a0)], [])) (aMem Z I, t) (qI Z t r) := by
  intro a0 ha0 I r h
  unfold f173 at h
  refine go_ops aMi173 1 _ (f1 := (1, ([(0, .ref a0)], [.ref a0]))) rfl ?_
  refine gg_gR (b := (a0 + 114)) aMi173 rfl rfl rfl (gR_of (sh10_z ha0) (sh10_r3 ha0)) ?_
  refine gg_gR (b := (a0 + 122)) aMi173 rfl rfl rfl (gR_of (sh8_z (sh10_s3 ha0)) (sh8_r3 (sh10_s3 ha0))) ?_
  obtain ⟨r7_1, hxr7_1, h⟩ := Option.bind_eq_some_iff.mp h
  refine gg_cv (as := []) (r := []) aMi173 rfl rfl rfl aMi57 (Nat.le_of_ble_eq_true rfl) rfl (Nat.le_of_ble_eq_true rfl) (Nat.le_of_ble_eq_true rfl) (by omega) (isK_of (sh3_z (sh8_s3 (sh10_s3 ha0)))) (Tf57 (by omega) (a0 + 122) (sh8_s3 (sh10_s3 ha0)) I _ hxr7_1) ?_
  show aGo kad d 173 (10, ([(0, .ref a0)], [.int r7_1.1])) (aMem Z r7_1.2, t) _
  cases h
  exact go_ret aMi173 rfl aRetI ⟨rfl, rfl⟩
-- KernelGym.isWhole ()Z
def f174 (kad : Nat → Nat) (N : Nat) (Z : AZ) (a0 : Nat) (I : AI) : Option (Int32 × AI) :=
  (f58 kad N Z (a0 + 122) I).bind fun r7_1 =>
  if r7_1.1 = 0 ∨ r7_1.1 = 1 then some (r7_1.1, r7_1.2) else none
set_option maxRecDepth 20000 in
theorem Tf174 {kad : Nat → Nat} {N : Nat} {Z : AZ} {d : Nat} {t : Option Nat × (Nat × Nat)} (hd : 4 ≤ d) : ∀ (a0 : Nat) (ha0 : sh10 kad Z a0) (I : AI) (r : Int32 × AI), f174 kad N Z a0 I = some r → aGo kad d 174 (0, ([(0, .ref a0)], [])) (aMem Z I, t) (qI Z t r) := by
  intro a0 ha0 I r h
  unfold f174 at h
  refine go_ops aMi174 1 _ (f1 := (1, ([(0, .ref a0)], [.ref a0]))) rfl ?_
  refine gg_gR (b := (a0 + 114)) aMi174 rfl rfl rfl (gR_of (sh10_z ha0) (sh10_r3 ha0)) ?_
  refine gg_gR (b := (a0 + 122)) aMi174 rfl rfl rfl (gR_of (sh8_z (sh10_s3 ha0)) (sh8_r3 (sh10_s3 ha0))) ?_
  obtain ⟨r7_1, hxr7_1, h⟩ := Option.bind_eq_some_iff.mp h
  refine gg_cv (as := []) (r := []) aMi174 rfl rfl rfl aMi58 (Nat.le_of_ble_eq_true rfl) rfl (Nat.le_of_ble_eq_true rfl) (Nat.le_of_ble_eq_true rfl) (by omega) (isK_of (sh3_z (sh8_s3 (sh10_s3 ha0)))) (Tf58 (by omega) (a0 + 122) (sh8_s3 (sh10_s3 ha0)) I _ hxr7_1) ?_
  show aGo kad d 174 (10, ([(0, .ref a0)], [.int r7_1.1])) (aMem Z r7_1.2, t) _
  split at h
  · rename_i hz
    cases h
    exact go_ret aMi174 rfl (aRetZ hz) ⟨rfl, rfl⟩
  · cases h
-- KernelGym.testKey (I)I
def f176 (kad : Nat → Nat) (N : Nat) (Z : AZ) (a0 : Nat) (i1 : Int32) (I : AI) : Option ((Int32 ⊕ String) × AI) :=
  (f138 kad N Z i1 (0 : Int32) (65535 : Int32) I).bind fun r4_1 =>
  xB r4_1 fun vr4_1 Ir4_1 =>
  if (Ir4_1 (a0 + 178) 0) < (6 : Int32) then
    (f116 kad N Z (a0 + 178) i1 Ir4_1).bind fun r35_2 =>
    some (.inl r35_2.1, r35_2.2)
  else
    some (.inr (aEC 1), Ir4_1)
set_option maxRecDepth 20000 in
theorem Tf176 {kad : Nat → Nat} {N : Nat} {Z : AZ} {d : Nat} {t : Option Nat × (Nat × Nat)} (hd : 1 ≤ d) : ∀ (a0 : Nat) (ha0 : sh10 kad Z a0) (i1 : Int32) (I : AI) (r : (Int32 ⊕ String) × AI), f176 kad N Z a0 i1 I = some r → aGo kad d 176 (0, ([(0, .ref a0), (1, .int i1)], [])) (aMem Z I, t) (qX tvI Z t r) := by
  intro a0 ha0 i1 I r h
  unfold f176 at h
  refine go_ops aMi176 2 _ (f1 := (2, ([(0, .ref a0), (1, .int i1)], [.int (0 : Int32), .int i1]))) rfl ?_
  refine gg_kI (Or.inl ⟨rfl, rfl⟩) aMi176 rfl rfl ?_
  obtain ⟨r4_1, hxr4_1, h⟩ := Option.bind_eq_some_iff.mp h
  rcases xB_eq h with ⟨vr4_1, Ir4_1, her4_1, h2⟩ | ⟨Er4_1, Ir4_1, her4_1, h2⟩
  rotate_left
  · clear h
    subst her4_1
    subst h2
    exact gg_cst (as := [.int i1, .int (0 : Int32), .int (65535 : Int32)]) (r := []) aMi176 rfl rfl rfl aMi138 rfl (Nat.le_of_ble_eq_true rfl) (Nat.le_of_ble_eq_true rfl) (by omega) (Tf138 (by omega) i1 (0 : Int32) (65535 : Int32) I _ hxr4_1) qX_thr
  clear h
  subst her4_1
  have h := h2
  clear h2
  refine gg_cs (as := [.int i1, .int (0 : Int32), .int (65535 : Int32)]) (r := []) aMi176 rfl rfl rfl aMi138 rfl (Nat.le_of_ble_eq_true rfl) (Nat.le_of_ble_eq_true rfl) (by omega) (Tf138 (by omega) i1 (0 : Int32) (65535 : Int32) I _ hxr4_1) ?_
  show aGo kad d 176 (7, ([(0, .ref a0), (1, .int i1)], [])) (aMem Z Ir4_1, t) _
  refine go_ops aMi176 1 _ (f1 := (8, ([(0, .ref a0), (1, .int i1)], [.ref a0]))) rfl ?_
  refine gg_gR (b := (a0 + 178)) aMi176 rfl rfl rfl (gR_of (sh10_z ha0) (sh10_r10 ha0)) ?_
  refine gg_gI aMi176 rfl rfl rfl (gI_of (sh9_z (sh10_s10 ha0))) ?_
  refine go_ops aMi176 1 _ (f1 := (16, ([(0, .ref a0), (1, .int i1)], [.int (6 : Int32), .int (Ir4_1 (a0 + 178) 0)]))) rfl ?_
  refine gg_br (b := decide ((Ir4_1 (a0 + 178) 0) < (6 : Int32))) (tg := 30) (off := 14) aMi176 rfl rfl rfl rfl (fun hb => ?_) (fun hb => ?_)
  · rw [if_pos (of_decide_eq_true hb)] at h
    refine go_ops aMi176 1 _ (f1 := (31, ([(0, .ref a0), (1, .int i1)], [.ref a0]))) rfl ?_
    refine gg_gR (b := (a0 + 178)) aMi176 rfl rfl rfl (gR_of (sh10_z ha0) (sh10_r10 ha0)) ?_
    refine go_ops aMi176 1 _ (f1 := (35, ([(0, .ref a0), (1, .int i1)], [.int i1, .ref (a0 + 178)]))) rfl ?_
    obtain ⟨r35_2, hxr35_2, h⟩ := Option.bind_eq_some_iff.mp h
    refine gg_cv (as := [.int i1]) (r := []) aMi176 rfl rfl rfl aMi116 (Nat.le_of_ble_eq_true rfl) rfl (Nat.le_of_ble_eq_true rfl) (Nat.le_of_ble_eq_true rfl) (by omega) (isK_of (sh9_z (sh10_s10 ha0))) (Tf116 (by omega) (a0 + 178) (sh10_s10 ha0) i1 Ir4_1 _ hxr35_2) ?_
    show aGo kad d 176 (38, ([(0, .ref a0), (1, .int i1)], [.int r35_2.1])) (aMem Z r35_2.2, t) _
    cases h
    exact go_ret aMi176 rfl aRetI qX_ret
  · rw [if_neg (of_decide_eq_false hb)] at h
    cases h
    exact go_thr (E := aEC 1) aMi176 rfl rfl rfl rfl rfl rfl qX_thr
-- KernelGym.testWord (I)I
def f177 (kad : Nat → Nat) (N : Nat) (Z : AZ) (a0 : Nat) (i1 : Int32) (I : AI) : Option ((Int32 ⊕ String) × AI) :=
  (f138 kad N Z i1 (0 : Int32) (65535 : Int32) I).bind fun r4_1 =>
  xB r4_1 fun vr4_1 Ir4_1 =>
  if (Ir4_1 (a0 + 178) 1) < (6 : Int32) then
    (f117 kad N Z (a0 + 178) i1 Ir4_1).bind fun r35_2 =>
    some (.inl r35_2.1, r35_2.2)
  else
    some (.inr (aEC 1), Ir4_1)
set_option maxRecDepth 20000 in
theorem Tf177 {kad : Nat → Nat} {N : Nat} {Z : AZ} {d : Nat} {t : Option Nat × (Nat × Nat)} (hd : 1 ≤ d) : ∀ (a0 : Nat) (ha0 : sh10 kad Z a0) (i1 : Int32) (I : AI) (r : (Int32 ⊕ String) × AI), f177 kad N Z a0 i1 I = some r → aGo kad d 177 (0, ([(0, .ref a0), (1, .int i1)], [])) (aMem Z I, t) (qX tvI Z t r) := by
  intro a0 ha0 i1 I r h
  unfold f177 at h
  refine go_ops aMi177 2 _ (f1 := (2, ([(0, .ref a0), (1, .int i1)], [.int (0 : Int32), .int i1]))) rfl ?_
  refine gg_kI (Or.inl ⟨rfl, rfl⟩) aMi177 rfl rfl ?_
  obtain ⟨r4_1, hxr4_1, h⟩ := Option.bind_eq_some_iff.mp h
  rcases xB_eq h with ⟨vr4_1, Ir4_1, her4_1, h2⟩ | ⟨Er4_1, Ir4_1, her4_1, h2⟩
  rotate_left
  · clear h
    subst her4_1
    subst h2
    exact gg_cst (as := [.int i1, .int (0 : Int32), .int (65535 : Int32)]) (r := []) aMi177 rfl rfl rfl aMi138 rfl (Nat.le_of_ble_eq_true rfl) (Nat.le_of_ble_eq_true rfl) (by omega) (Tf138 (by omega) i1 (0 : Int32) (65535 : Int32) I _ hxr4_1) qX_thr
  clear h
  subst her4_1
  have h := h2
  clear h2
  refine gg_cs (as := [.int i1, .int (0 : Int32), .int (65535 : Int32)]) (r := []) aMi177 rfl rfl rfl aMi138 rfl (Nat.le_of_ble_eq_true rfl) (Nat.le_of_ble_eq_true rfl) (by omega) (Tf138 (by omega) i1 (0 : Int32) (65535 : Int32) I _ hxr4_1) ?_
  show aGo kad d 177 (7, ([(0, .ref a0), (1, .int i1)], [])) (aMem Z Ir4_1, t) _
  refine go_ops aMi177 1 _ (f1 := (8, ([(0, .ref a0), (1, .int i1)], [.ref a0]))) rfl ?_
  refine gg_gR (b := (a0 + 178)) aMi177 rfl rfl rfl (gR_of (sh10_z ha0) (sh10_r10 ha0)) ?_
  refine gg_gI aMi177 rfl rfl rfl (gI_of (sh9_z (sh10_s10 ha0))) ?_
  refine go_ops aMi177 1 _ (f1 := (16, ([(0, .ref a0), (1, .int i1)], [.int (6 : Int32), .int (Ir4_1 (a0 + 178) 1)]))) rfl ?_
  refine gg_br (b := decide ((Ir4_1 (a0 + 178) 1) < (6 : Int32))) (tg := 30) (off := 14) aMi177 rfl rfl rfl rfl (fun hb => ?_) (fun hb => ?_)
  · rw [if_pos (of_decide_eq_true hb)] at h
    refine go_ops aMi177 1 _ (f1 := (31, ([(0, .ref a0), (1, .int i1)], [.ref a0]))) rfl ?_
    refine gg_gR (b := (a0 + 178)) aMi177 rfl rfl rfl (gR_of (sh10_z ha0) (sh10_r10 ha0)) ?_
    refine go_ops aMi177 1 _ (f1 := (35, ([(0, .ref a0), (1, .int i1)], [.int i1, .ref (a0 + 178)]))) rfl ?_
    obtain ⟨r35_2, hxr35_2, h⟩ := Option.bind_eq_some_iff.mp h
    refine gg_cv (as := [.int i1]) (r := []) aMi177 rfl rfl rfl aMi117 (Nat.le_of_ble_eq_true rfl) rfl (Nat.le_of_ble_eq_true rfl) (Nat.le_of_ble_eq_true rfl) (by omega) (isK_of (sh9_z (sh10_s10 ha0))) (Tf117 (by omega) (a0 + 178) (sh10_s10 ha0) i1 Ir4_1 _ hxr35_2) ?_
    show aGo kad d 177 (38, ([(0, .ref a0), (1, .int i1)], [.int r35_2.1])) (aMem Z r35_2.2, t) _
    cases h
    exact go_ret aMi177 rfl aRetI qX_ret
  · rw [if_neg (of_decide_eq_false hb)] at h
    cases h
    exact go_thr (E := aEC 1) aMi177 rfl rfl rfl rfl rfl rfl qX_thr
-- KernelGym.addTest (IIII)I
def f178 (kad : Nat → Nat) (N : Nat) (Z : AZ) (a0 : Nat) (i1 : Int32) (i2 : Int32) (i3 : Int32) (i4 : Int32) (I : AI) : Option ((Int32 ⊕ String) × AI) :=
  (f138 kad N Z i1 (1 : Int32) (500 : Int32) I).bind fun r5_1 =>
  xB r5_1 fun vr5_1 Ir5_1 =>
  (f138 kad N Z i2 (0 : Int32) (100 : Int32) Ir5_1).bind fun r12_2 =>
  xB r12_2 fun vr12_2 Ir12_2 =>
  (f138 kad N Z i3 (1 : Int32) (20 : Int32) Ir12_2).bind fun r19_3 =>
  xB r19_3 fun vr19_3 Ir19_3 =>
  (f138 kad N Z i4 (0 : Int32) (500 : Int32) Ir19_3).bind fun r28_4 =>
  xB r28_4 fun vr28_4 Ir28_4 =>
  if (Ir28_4 a0 12) < (5 : Int32) then
    (ixA 5 (Ir28_4 a0 12)).bind fun j58_5 =>
    (f118 kad N Z (a0 + (1982 + 3 * j58_5)) (a0 + 178) Ir28_4).bind fun r67_6 =>
    (f119 kad N Z (a0 + (1982 + 3 * j58_5)) i1 i2 i3 i4 r67_6.2).bind fun r77_7 =>
    (wI r77_7.2 a0 12 (((r77_7.2) a0 12) + (1 : Int32))).bind fun I87_8 =>
    some (.inl ((I87_8 a0 12) - (1 : Int32)), I87_8)
  else
    some (.inr (aEC 1), Ir28_4)
set_option maxRecDepth 20000 in
theorem Tf178 {kad : Nat → Nat} {N : Nat} {Z : AZ} {d : Nat} {t : Option Nat × (Nat × Nat)} (hd : 1 ≤ d) : ∀ (a0 : Nat) (ha0 : sh10 kad Z a0) (i1 : Int32) (i2 : Int32) (i3 : Int32) (i4 : Int32) (I : AI) (r : (Int32 ⊕ String) × AI), f178 kad N Z a0 i1 i2 i3 i4 I = some r → aGo kad d 178 (0, ([(0, .ref a0), (1, .int i1), (2, .int i2), (3, .int i3), (4, .int i4)], [])) (aMem Z I, t) (qX tvI Z t r) := by
  intro a0 ha0 i1 i2 i3 i4 I r h
  unfold f178 at h
  refine go_ops aMi178 3 _ (f1 := (5, ([(0, .ref a0), (1, .int i1), (2, .int i2), (3, .int i3), (4, .int i4)], [.int (500 : Int32), .int (1 : Int32), .int i1]))) rfl ?_
  obtain ⟨r5_1, hxr5_1, h⟩ := Option.bind_eq_some_iff.mp h
  rcases xB_eq h with ⟨vr5_1, Ir5_1, her5_1, h2⟩ | ⟨Er5_1, Ir5_1, her5_1, h2⟩
  rotate_left
  · clear h
    subst her5_1
    subst h2
    exact gg_cst (as := [.int i1, .int (1 : Int32), .int (500 : Int32)]) (r := []) aMi178 rfl rfl rfl aMi138 rfl (Nat.le_of_ble_eq_true rfl) (Nat.le_of_ble_eq_true rfl) (by omega) (Tf138 (by omega) i1 (1 : Int32) (500 : Int32) I _ hxr5_1) qX_thr
  clear h
  subst her5_1
  have h := h2
  clear h2
  refine gg_cs (as := [.int i1, .int (1 : Int32), .int (500 : Int32)]) (r := []) aMi178 rfl rfl rfl aMi138 rfl (Nat.le_of_ble_eq_true rfl) (Nat.le_of_ble_eq_true rfl) (by omega) (Tf138 (by omega) i1 (1 : Int32) (500 : Int32) I _ hxr5_1) ?_
  show aGo kad d 178 (8, ([(0, .ref a0), (1, .int i1), (2, .int i2), (3, .int i3), (4, .int i4)], [])) (aMem Z Ir5_1, t) _
  refine go_ops aMi178 3 _ (f1 := (12, ([(0, .ref a0), (1, .int i1), (2, .int i2), (3, .int i3), (4, .int i4)], [.int (100 : Int32), .int (0 : Int32), .int i2]))) rfl ?_
  obtain ⟨r12_2, hxr12_2, h⟩ := Option.bind_eq_some_iff.mp h
  rcases xB_eq h with ⟨vr12_2, Ir12_2, her12_2, h2⟩ | ⟨Er12_2, Ir12_2, her12_2, h2⟩
  rotate_left
  · clear h
    subst her12_2
    subst h2
    exact gg_cst (as := [.int i2, .int (0 : Int32), .int (100 : Int32)]) (r := []) aMi178 rfl rfl rfl aMi138 rfl (Nat.le_of_ble_eq_true rfl) (Nat.le_of_ble_eq_true rfl) (by omega) (Tf138 (by omega) i2 (0 : Int32) (100 : Int32) Ir5_1 _ hxr12_2) qX_thr
  clear h
  subst her12_2
  have h := h2
  clear h2
  refine gg_cs (as := [.int i2, .int (0 : Int32), .int (100 : Int32)]) (r := []) aMi178 rfl rfl rfl aMi138 rfl (Nat.le_of_ble_eq_true rfl) (Nat.le_of_ble_eq_true rfl) (by omega) (Tf138 (by omega) i2 (0 : Int32) (100 : Int32) Ir5_1 _ hxr12_2) ?_
  show aGo kad d 178 (15, ([(0, .ref a0), (1, .int i1), (2, .int i2), (3, .int i3), (4, .int i4)], [])) (aMem Z Ir12_2, t) _
  refine go_ops aMi178 3 _ (f1 := (19, ([(0, .ref a0), (1, .int i1), (2, .int i2), (3, .int i3), (4, .int i4)], [.int (20 : Int32), .int (1 : Int32), .int i3]))) rfl ?_
  obtain ⟨r19_3, hxr19_3, h⟩ := Option.bind_eq_some_iff.mp h
  rcases xB_eq h with ⟨vr19_3, Ir19_3, her19_3, h2⟩ | ⟨Er19_3, Ir19_3, her19_3, h2⟩
  rotate_left
  · clear h
    subst her19_3
    subst h2
    exact gg_cst (as := [.int i3, .int (1 : Int32), .int (20 : Int32)]) (r := []) aMi178 rfl rfl rfl aMi138 rfl (Nat.le_of_ble_eq_true rfl) (Nat.le_of_ble_eq_true rfl) (by omega) (Tf138 (by omega) i3 (1 : Int32) (20 : Int32) Ir12_2 _ hxr19_3) qX_thr
  clear h
  subst her19_3
  have h := h2
  clear h2
  refine gg_cs (as := [.int i3, .int (1 : Int32), .int (20 : Int32)]) (r := []) aMi178 rfl rfl rfl aMi138 rfl (Nat.le_of_ble_eq_true rfl) (Nat.le_of_ble_eq_true rfl) (by omega) (Tf138 (by omega) i3 (1 : Int32) (20 : Int32) Ir12_2 _ hxr19_3) ?_
  show aGo kad d 178 (22, ([(0, .ref a0), (1, .int i1), (2, .int i2), (3, .int i3), (4, .int i4)], [])) (aMem Z Ir19_3, t) _
  refine go_ops aMi178 3 _ (f1 := (28, ([(0, .ref a0), (1, .int i1), (2, .int i2), (3, .int i3), (4, .int i4)], [.int (500 : Int32), .int (0 : Int32), .int i4]))) rfl ?_
  obtain ⟨r28_4, hxr28_4, h⟩ := Option.bind_eq_some_iff.mp h
  rcases xB_eq h with ⟨vr28_4, Ir28_4, her28_4, h2⟩ | ⟨Er28_4, Ir28_4, her28_4, h2⟩
  rotate_left
  · clear h
    subst her28_4
    subst h2
    exact gg_cst (as := [.int i4, .int (0 : Int32), .int (500 : Int32)]) (r := []) aMi178 rfl rfl rfl aMi138 rfl (Nat.le_of_ble_eq_true rfl) (Nat.le_of_ble_eq_true rfl) (by omega) (Tf138 (by omega) i4 (0 : Int32) (500 : Int32) Ir19_3 _ hxr28_4) qX_thr
  clear h
  subst her28_4
  have h := h2
  clear h2
  refine gg_cs (as := [.int i4, .int (0 : Int32), .int (500 : Int32)]) (r := []) aMi178 rfl rfl rfl aMi138 rfl (Nat.le_of_ble_eq_true rfl) (Nat.le_of_ble_eq_true rfl) (by omega) (Tf138 (by omega) i4 (0 : Int32) (500 : Int32) Ir19_3 _ hxr28_4) ?_
  show aGo kad d 178 (31, ([(0, .ref a0), (1, .int i1), (2, .int i2), (3, .int i3), (4, .int i4)], [])) (aMem Z Ir28_4, t) _
  refine go_ops aMi178 1 _ (f1 := (32, ([(0, .ref a0), (1, .int i1), (2, .int i2), (3, .int i3), (4, .int i4)], [.ref a0]))) rfl ?_
  refine gg_gI aMi178 rfl rfl rfl (gI_of (sh10_z ha0)) ?_
  refine go_ops aMi178 1 _ (f1 := (36, ([(0, .ref a0), (1, .int i1), (2, .int i2), (3, .int i3), (4, .int i4)], [.int (5 : Int32), .int (Ir28_4 a0 12)]))) rfl ?_
  refine gg_br (b := decide ((Ir28_4 a0 12) < (5 : Int32))) (tg := 50) (off := 14) aMi178 rfl rfl rfl rfl (fun hb => ?_) (fun hb => ?_)
  · rw [if_pos (of_decide_eq_true hb)] at h
    refine go_ops aMi178 1 _ (f1 := (51, ([(0, .ref a0), (1, .int i1), (2, .int i2), (3, .int i3), (4, .int i4)], [.ref a0]))) rfl ?_
    refine gg_gR (b := (a0 + 181)) aMi178 rfl rfl rfl (gR_of (sh10_z ha0) (sh10_r11 ha0)) ?_
    refine go_ops aMi178 1 _ (f1 := (55, ([(0, .ref a0), (1, .int i1), (2, .int i2), (3, .int i3), (4, .int i4)], [.ref a0, .ref (a0 + 181)]))) rfl ?_
    refine gg_gI aMi178 rfl rfl rfl (gI_of (sh10_z ha0)) ?_
    obtain ⟨j58_5, hxj58_5, h⟩ := Option.bind_eq_some_iff.mp h
    refine gg_lR (b := (a0 + (1982 + 3 * j58_5))) aMi178 rfl (lR_of (sh10_a11 ha0) (by decide) hxj58_5 (sh10_e11 ha0 j58_5 (ixA_lt hxj58_5))) ?_
    refine go_ops aMi178 3 _ (f1 := (64, ([(5, .ref (a0 + (1982 + 3 * j58_5))), (0, .ref a0), (1, .int i1), (2, .int i2), (3, .int i3), (4, .int i4)], [.ref a0, .ref (a0 + (1982 + 3 * j58_5))]))) rfl ?_
    refine gg_gR (b := (a0 + 178)) aMi178 rfl rfl rfl (gR_of (sh10_z ha0) (sh10_r10 ha0)) ?_
    obtain ⟨r67_6, hxr67_6, h⟩ := Option.bind_eq_some_iff.mp h
    refine gg_cv (as := [.ref (a0 + 178)]) (r := []) aMi178 rfl rfl rfl aMi118 (Nat.le_of_ble_eq_true rfl) rfl (Nat.le_of_ble_eq_true rfl) (Nat.le_of_ble_eq_true rfl) (by omega) (isK_of (sh9_z (sh10_f11 ha0 j58_5 (ixA_lt hxj58_5)))) (Tf118 (by omega) (a0 + (1982 + 3 * j58_5)) (sh10_f11 ha0 j58_5 (ixA_lt hxj58_5)) (a0 + 178) (sh10_s10 ha0) Ir28_4 _ hxr67_6) ?_
    show aGo kad d 178 (70, ([(5, .ref (a0 + (1982 + 3 * j58_5))), (0, .ref a0), (1, .int i1), (2, .int i2), (3, .int i3), (4, .int i4)], [])) (aMem Z r67_6.2, t) _
    refine go_ops aMi178 5 _ (f1 := (77, ([(5, .ref (a0 + (1982 + 3 * j58_5))), (0, .ref a0), (1, .int i1), (2, .int i2), (3, .int i3), (4, .int i4)], [.int i4, .int i3, .int i2, .int i1, .ref (a0 + (1982 + 3 * j58_5))]))) rfl ?_
    obtain ⟨r77_7, hxr77_7, h⟩ := Option.bind_eq_some_iff.mp h
    refine gg_cv (as := [.int i1, .int i2, .int i3, .int i4]) (r := []) aMi178 rfl rfl rfl aMi119 (Nat.le_of_ble_eq_true rfl) rfl (Nat.le_of_ble_eq_true rfl) (Nat.le_of_ble_eq_true rfl) (by omega) (isK_of (sh9_z (sh10_f11 ha0 j58_5 (ixA_lt hxj58_5)))) (Tf119 (by omega) (a0 + (1982 + 3 * j58_5)) (sh10_f11 ha0 j58_5 (ixA_lt hxj58_5)) i1 i2 i3 i4 r67_6.2 _ hxr77_7) ?_
    show aGo kad d 178 (80, ([(5, .ref (a0 + (1982 + 3 * j58_5))), (0, .ref a0), (1, .int i1), (2, .int i2), (3, .int i3), (4, .int i4)], [])) (aMem Z r77_7.2, t) _
    refine go_ops aMi178 2 _ (f1 := (82, ([(5, .ref (a0 + (1982 + 3 * j58_5))), (0, .ref a0), (1, .int i1), (2, .int i2), (3, .int i3), (4, .int i4)], [.ref a0, .ref a0]))) rfl ?_
    refine gg_gI aMi178 rfl rfl rfl (gI_of (sh10_z ha0)) ?_
    refine go_ops aMi178 2 _ (f1 := (87, ([(5, .ref (a0 + (1982 + 3 * j58_5))), (0, .ref a0), (1, .int i1), (2, .int i2), (3, .int i3), (4, .int i4)], [.int (((r77_7.2) a0 12) + (1 : Int32)), .ref a0]))) rfl ?_
    obtain ⟨I87_8, hxI87_8, h⟩ := Option.bind_eq_some_iff.mp h
    refine gg_pI aMi178 rfl rfl rfl rfl (by decide) (pI_of (sh10_z ha0) hxI87_8) ?_
    refine go_ops aMi178 1 _ (f1 := (91, ([(5, .ref (a0 + (1982 + 3 * j58_5))), (0, .ref a0), (1, .int i1), (2, .int i2), (3, .int i3), (4, .int i4)], [.ref a0]))) rfl ?_
    refine gg_gI aMi178 rfl rfl rfl (gI_of (sh10_z ha0)) ?_
    refine go_ops aMi178 2 _ (f1 := (96, ([(5, .ref (a0 + (1982 + 3 * j58_5))), (0, .ref a0), (1, .int i1), (2, .int i2), (3, .int i3), (4, .int i4)], [.int ((I87_8 a0 12) - (1 : Int32))]))) rfl ?_
    cases h
    exact go_ret aMi178 rfl aRetI qX_ret
  · rw [if_neg (of_decide_eq_false hb)] at h
    cases h
    exact go_thr (E := aEC 1) aMi178 rfl rfl rfl rfl rfl rfl qX_thr
-- KernelGym.tests ()I
def f179 (kad : Nat → Nat) (N : Nat) (Z : AZ) (a0 : Nat) (I : AI) : Option (Int32 × AI) :=
  some ((I a0 12), I)
set_option maxRecDepth 20000 in
theorem Tf179 {kad : Nat → Nat} {N : Nat} {Z : AZ} {d : Nat} {t : Option Nat × (Nat × Nat)} (hd : 0 ≤ d) : ∀ (a0 : Nat) (ha0 : sh10 kad Z a0) (I : AI) (r : Int32 × AI), f179 kad N Z a0 I = some r → aGo kad d 179 (0, ([(0, .ref a0)], [])) (aMem Z I, t) (qI Z t r) := by
  intro a0 ha0 I r h
  unfold f179 at h
  refine go_ops aMi179 1 _ (f1 := (1, ([(0, .ref a0)], [.ref a0]))) rfl ?_
  refine gg_gI aMi179 rfl rfl rfl (gI_of (sh10_z ha0)) ?_
  cases h
  exact go_ret aMi179 rfl aRetI ⟨rfl, rfl⟩
-- KernelGym.submit ()I
def f180_b54 (kad : Nat → Nat) (N : Nat) (Z : AZ) (k8 : Nat → Int32 → Int32 → AI → Option ((Int32 ⊕ String) × AI)) (a0 : Nat) (i1 : Int32) (i2 : Int32) (I : AI) : Option ((Int32 ⊕ String) × AI) :=
  k8 a0 i1 (i2 + (1 : Int32)) I
set_option maxRecDepth 20000 in
theorem Tf180_b54 {kad : Nat → Nat} {N : Nat} {Z : AZ} {d : Nat} {t : Option Nat × (Nat × Nat)} (hd : 7 ≤ d) (k8 : Nat → Int32 → Int32 → AI → Option ((Int32 ⊕ String) × AI))  (hk8 : ∀ (a0 : Nat) (ha0 : sh10 kad Z a0) (i1 : Int32) (i2 : Int32) (I : AI) (r : (Int32 ⊕ String) × AI), k8 a0 i1 i2 I = some r → aGo kad d 180 (8, ([(0, .ref a0), (1, .int i1), (2, .int i2)], [])) (aMem Z I, t) (qX tvI Z t r)) : ∀ (a0 : Nat) (ha0 : sh10 kad Z a0) (i1 : Int32) (i2 : Int32) (I : AI) (r : (Int32 ⊕ String) × AI), f180_b54 kad N Z k8 a0 i1 i2 I = some r → aGo kad d 180 (54, ([(0, .ref a0), (1, .int i1), (2, .int i2)], [])) (aMem Z I, t) (qX tvI Z t r) := by
  intro a0 ha0 i1 i2 I r h
  unfold f180_b54 at h
  refine go_ops aMi180 2 _ (f1 := (8, ([(2, .int (i2 + (1 : Int32))), (0, .ref a0), (1, .int i1)], []))) rfl ?_
  refine go_le (lv1 := [(0, .ref a0), (1, .int i1), (2, .int (i2 + (1 : Int32)))]) (aLe_of (show (List.map (fun q => q.1) ([(0, .ref a0), (1, .int i1), (2, .int (i2 + (1 : Int32)))] : ALv)).Nodup from (by show ([0, 1, 2] : List Nat).Nodup; decide)) (aSubL_cons rfl (aSubL_cons rfl (aSubL_cons rfl aSubL_nil)))) ?_
  exact hk8 a0 ha0 i1 (i2 + (1 : Int32)) I _ h
def f180_b60 (kad : Nat → Nat) (N : Nat) (Z : AZ) (a0 : Nat) (i1 : Int32) (I : AI) : Option ((Int32 ⊕ String) × AI) :=
  some (.inl i1, I)
set_option maxRecDepth 20000 in
theorem Tf180_b60 {kad : Nat → Nat} {N : Nat} {Z : AZ} {d : Nat} {t : Option Nat × (Nat × Nat)} (hd : 7 ≤ d) : ∀ (a0 : Nat) (ha0 : sh10 kad Z a0) (i1 : Int32) (I : AI) (r : (Int32 ⊕ String) × AI), f180_b60 kad N Z a0 i1 I = some r → aGo kad d 180 (60, ([(1, .int i1)], [])) (aMem Z I, t) (qX tvI Z t r) := by
  intro a0 ha0 i1 I r h
  unfold f180_b60 at h
  refine go_ops aMi180 1 _ (f1 := (61, ([(1, .int i1)], [.int i1]))) rfl ?_
  cases h
  exact go_ret aMi180 rfl aRetI qX_ret
def f180_b8 (kad : Nat → Nat) (N : Nat) (Z : AZ) : Nat → Nat → Int32 → Int32 → AI → Option ((Int32 ⊕ String) × AI)
  | 0, _, _, _, _ => none
  | F + 1, a0, i1, i2, I =>
    if (I a0 12) ≤ i2 then
      f180_b60 kad N Z a0 i1 I
    else
      if (5 : Int32) ≤ i2 then
        f180_b60 kad N Z a0 i1 I
      else
        (ixA 5 i2).bind fun j26_1 =>
        (f120 kad N Z (a0 + (1982 + 3 * j26_1)) (a0 + 143) (a0 + 113) (a0 + 169) I).bind fun r41_2 =>
        if ¬ ((r41_2.2) (a0 + (1982 + 3 * j26_1)) 2) = 0 then
          f180_b54 kad N Z (fun p0 p1 p2 I => f180_b8 kad N Z F p0 p1 p2 I) a0 i1 i2 r41_2.2
        else
          f180_b54 kad N Z (fun p0 p1 p2 I => f180_b8 kad N Z F p0 p1 p2 I) a0 (i1 + (1 : Int32)) i2 r41_2.2
set_option maxRecDepth 20000 in
theorem Tf180_b8 {kad : Nat → Nat} {N : Nat} {Z : AZ} {d : Nat} {t : Option Nat × (Nat × Nat)} (hd : 7 ≤ d) : ∀ (F : Nat) (a0 : Nat) (ha0 : sh10 kad Z a0) (i1 : Int32) (i2 : Int32) (I : AI) (r : (Int32 ⊕ String) × AI), f180_b8 kad N Z F a0 i1 i2 I = some r → aGo kad d 180 (8, ([(0, .ref a0), (1, .int i1), (2, .int i2)], [])) (aMem Z I, t) (qX tvI Z t r) := by
  intro F
  induction F with
  | zero => intro a0 ha0 i1 i2 I r h; cases h
  | succ F ih =>
    intro a0 ha0 i1 i2 I r h
    unfold f180_b8 at h
    refine go_ops aMi180 2 _ (f1 := (10, ([(0, .ref a0), (1, .int i1), (2, .int i2)], [.ref a0, .int i2]))) rfl ?_
    refine gg_gI aMi180 rfl rfl rfl (gI_of (sh10_z ha0)) ?_
    refine gg_br (b := decide ((I a0 12) ≤ i2)) (tg := 60) (off := 47) aMi180 rfl rfl rfl rfl (fun hb => ?_) (fun hb => ?_)
    · rw [if_pos (of_decide_eq_true hb)] at h
      refine go_le (lv1 := [(1, .int i1)]) (aLe_of (show (List.map (fun q => q.1) ([(1, .int i1)] : ALv)).Nodup from (by show ([1] : List Nat).Nodup; decide)) (aSubL_cons rfl aSubL_nil)) ?_
      exact Tf180_b60 hd a0 ha0 i1 I _ h
    · rw [if_neg (of_decide_eq_false hb)] at h
      refine go_ops aMi180 2 _ (f1 := (18, ([(0, .ref a0), (1, .int i1), (2, .int i2)], [.int (5 : Int32), .int i2]))) rfl ?_
      refine gg_br (b := decide ((5 : Int32) ≤ i2)) (tg := 60) (off := 42) aMi180 rfl rfl rfl rfl (fun hb => ?_) (fun hb => ?_)
      · rw [if_pos (of_decide_eq_true hb)] at h
        refine go_le (lv1 := [(1, .int i1)]) (aLe_of (show (List.map (fun q => q.1) ([(1, .int i1)] : ALv)).Nodup from (by show ([1] : List Nat).Nodup; decide)) (aSubL_cons rfl aSubL_nil)) ?_
        exact Tf180_b60 hd a0 ha0 i1 I _ h
      · rw [if_neg (of_decide_eq_false hb)] at h
        refine go_ops aMi180 1 _ (f1 := (22, ([(0, .ref a0), (1, .int i1), (2, .int i2)], [.ref a0]))) rfl ?_
        refine gg_gR (b := (a0 + 181)) aMi180 rfl rfl rfl (gR_of (sh10_z ha0) (sh10_r11 ha0)) ?_
        refine go_ops aMi180 1 _ (f1 := (26, ([(0, .ref a0), (1, .int i1), (2, .int i2)], [.int i2, .ref (a0 + 181)]))) rfl ?_
        obtain ⟨j26_1, hxj26_1, h⟩ := Option.bind_eq_some_iff.mp h
        refine gg_lR (b := (a0 + (1982 + 3 * j26_1))) aMi180 rfl (lR_of (sh10_a11 ha0) (by decide) hxj26_1 (sh10_e11 ha0 j26_1 (ixA_lt hxj26_1))) ?_
        refine go_ops aMi180 3 _ (f1 := (30, ([(3, .ref (a0 + (1982 + 3 * j26_1))), (0, .ref a0), (1, .int i1), (2, .int i2)], [.ref a0, .ref (a0 + (1982 + 3 * j26_1))]))) rfl ?_
        refine gg_gR (b := (a0 + 143)) aMi180 rfl rfl rfl (gR_of (sh10_z ha0) (sh10_r8 ha0)) ?_
        refine go_ops aMi180 1 _ (f1 := (34, ([(3, .ref (a0 + (1982 + 3 * j26_1))), (0, .ref a0), (1, .int i1), (2, .int i2)], [.ref a0, .ref (a0 + 143), .ref (a0 + (1982 + 3 * j26_1))]))) rfl ?_
        refine gg_gR (b := (a0 + 113)) aMi180 rfl rfl rfl (gR_of (sh10_z ha0) (sh10_r1 ha0)) ?_
        refine go_ops aMi180 1 _ (f1 := (38, ([(3, .ref (a0 + (1982 + 3 * j26_1))), (0, .ref a0), (1, .int i1), (2, .int i2)], [.ref a0, .ref (a0 + 113), .ref (a0 + 143), .ref (a0 + (1982 + 3 * j26_1))]))) rfl ?_
        refine gg_gR (b := (a0 + 169)) aMi180 rfl rfl rfl (gR_of (sh10_z ha0) (sh10_r9 ha0)) ?_
        obtain ⟨r41_2, hxr41_2, h⟩ := Option.bind_eq_some_iff.mp h
        refine gg_cv (as := [.ref (a0 + 143), .ref (a0 + 113), .ref (a0 + 169)]) (r := []) aMi180 rfl rfl rfl aMi120 (Nat.le_of_ble_eq_true rfl) rfl (Nat.le_of_ble_eq_true rfl) (Nat.le_of_ble_eq_true rfl) (by omega) (isK_of (sh9_z (sh10_f11 ha0 j26_1 (ixA_lt hxj26_1)))) (Tf120 (by omega) (a0 + (1982 + 3 * j26_1)) (sh10_f11 ha0 j26_1 (ixA_lt hxj26_1)) (a0 + 143) (sh10_s8 ha0) (a0 + 113) (a0 + 169) (sh10_s9 ha0) I _ hxr41_2) ?_
        show aGo kad d 180 (44, ([(3, .ref (a0 + (1982 + 3 * j26_1))), (0, .ref a0), (1, .int i1), (2, .int i2)], [])) (aMem Z r41_2.2, t) _
        refine go_ops aMi180 1 _ (f1 := (45, ([(3, .ref (a0 + (1982 + 3 * j26_1))), (0, .ref a0), (1, .int i1), (2, .int i2)], [.ref (a0 + (1982 + 3 * j26_1))]))) rfl ?_
        refine gg_gI aMi180 rfl rfl rfl (gI_of (sh9_z (sh10_f11 ha0 j26_1 (ixA_lt hxj26_1)))) ?_
        refine gg_br (b := decide (¬ ((r41_2.2) (a0 + (1982 + 3 * j26_1)) 2) = 0)) (tg := 54) (off := 6) aMi180 rfl rfl rfl rfl (fun hb => ?_) (fun hb => ?_)
        · rw [if_pos (of_decide_eq_true hb)] at h
          refine go_le (lv1 := [(0, .ref a0), (1, .int i1), (2, .int i2)]) (aLe_of (show (List.map (fun q => q.1) ([(0, .ref a0), (1, .int i1), (2, .int i2)] : ALv)).Nodup from (by show ([0, 1, 2] : List Nat).Nodup; decide)) (aSubL_cons rfl (aSubL_cons rfl (aSubL_cons rfl aSubL_nil)))) ?_
          exact Tf180_b54 hd (fun p0 p1 p2 I => f180_b8 kad N Z F p0 p1 p2 I) (fun p0 q0 p1 p2 I r hh => ih p0 q0 p1 p2 I r hh) a0 ha0 i1 i2 r41_2.2 _ h
        · rw [if_neg (of_decide_eq_false hb)] at h
          refine go_ops aMi180 1 _ (f1 := (54, ([(1, .int (i1 + (1 : Int32))), (3, .ref (a0 + (1982 + 3 * j26_1))), (0, .ref a0), (2, .int i2)], []))) rfl ?_
          refine go_le (lv1 := [(0, .ref a0), (1, .int (i1 + (1 : Int32))), (2, .int i2)]) (aLe_of (show (List.map (fun q => q.1) ([(0, .ref a0), (1, .int (i1 + (1 : Int32))), (2, .int i2)] : ALv)).Nodup from (by show ([0, 1, 2] : List Nat).Nodup; decide)) (aSubL_cons rfl (aSubL_cons rfl (aSubL_cons rfl aSubL_nil)))) ?_
          exact Tf180_b54 hd (fun p0 p1 p2 I => f180_b8 kad N Z F p0 p1 p2 I) (fun p0 q0 p1 p2 I r hh => ih p0 q0 p1 p2 I r hh) a0 ha0 (i1 + (1 : Int32)) i2 r41_2.2 _ h
def f180 (kad : Nat → Nat) (N : Nat) (Z : AZ) (a0 : Nat) (I : AI) : Option ((Int32 ⊕ String) × AI) :=
  (f140 kad N Z a0 I).bind fun r1_1 =>
  xB r1_1 fun vr1_1 Ir1_1 =>
  f180_b8 kad N Z N a0 (0 : Int32) (0 : Int32) Ir1_1
set_option maxRecDepth 20000 in
theorem Tf180 {kad : Nat → Nat} {N : Nat} {Z : AZ} {d : Nat} {t : Option Nat × (Nat × Nat)} (hd : 7 ≤ d) : ∀ (a0 : Nat) (ha0 : sh10 kad Z a0) (I : AI) (r : (Int32 ⊕ String) × AI), f180 kad N Z a0 I = some r → aGo kad d 180 (0, ([(0, .ref a0)], [])) (aMem Z I, t) (qX tvI Z t r) := by
  intro a0 ha0 I r h
  unfold f180 at h
  refine go_ops aMi180 1 _ (f1 := (1, ([(0, .ref a0)], [.ref a0]))) rfl ?_
  obtain ⟨r1_1, hxr1_1, h⟩ := Option.bind_eq_some_iff.mp h
  rcases xB_eq h with ⟨vr1_1, Ir1_1, her1_1, h2⟩ | ⟨Er1_1, Ir1_1, her1_1, h2⟩
  rotate_left
  · clear h
    subst her1_1
    subst h2
    exact gg_cvt (as := []) (r := []) aMi180 rfl rfl rfl aMi140 (Nat.le_of_ble_eq_true rfl) rfl (Nat.le_of_ble_eq_true rfl) (Nat.le_of_ble_eq_true rfl) (by omega) (isK_of (sh10_z ha0)) (Tf140 (by omega) a0 ha0 I _ hxr1_1) qX_thr
  clear h
  subst her1_1
  have h := h2
  clear h2
  refine gg_cv (as := []) (r := []) aMi180 rfl rfl rfl aMi140 (Nat.le_of_ble_eq_true rfl) rfl (Nat.le_of_ble_eq_true rfl) (Nat.le_of_ble_eq_true rfl) (by omega) (isK_of (sh10_z ha0)) (Tf140 (by omega) a0 ha0 I _ hxr1_1) ?_
  show aGo kad d 180 (4, ([(0, .ref a0)], [])) (aMem Z Ir1_1, t) _
  refine go_ops aMi180 4 _ (f1 := (8, ([(2, .int (0 : Int32)), (1, .int (0 : Int32)), (0, .ref a0)], []))) rfl ?_
  refine go_le (lv1 := [(0, .ref a0), (1, .int (0 : Int32)), (2, .int (0 : Int32))]) (aLe_of (show (List.map (fun q => q.1) ([(0, .ref a0), (1, .int (0 : Int32)), (2, .int (0 : Int32))] : ALv)).Nodup from (by show ([0, 1, 2] : List Nat).Nodup; decide)) (aSubL_cons rfl (aSubL_cons rfl (aSubL_cons rfl aSubL_nil)))) ?_
  exact Tf180_b8 hd N a0 ha0 (0 : Int32) (0 : Int32) Ir1_1 _ h
-- KernelGym.result (I)I
def f181_b17 (kad : Nat → Nat) (N : Nat) (Z : AZ) (a0 : Nat) (I : AI) : Option ((Int32 ⊕ String) × AI) :=
  some (.inr (aEC 2), I)
set_option maxRecDepth 20000 in
theorem Tf181_b17 {kad : Nat → Nat} {N : Nat} {Z : AZ} {d : Nat} {t : Option Nat × (Nat × Nat)} (hd : 0 ≤ d) : ∀ (a0 : Nat) (ha0 : sh10 kad Z a0) (I : AI) (r : (Int32 ⊕ String) × AI), f181_b17 kad N Z a0 I = some r → aGo kad d 181 (17, ([], [])) (aMem Z I, t) (qX tvI Z t r) := by
  intro a0 ha0 I r h
  unfold f181_b17 at h
  cases h
  exact go_thr (E := aEC 2) aMi181 rfl rfl rfl rfl rfl rfl qX_thr
def f181 (kad : Nat → Nat) (N : Nat) (Z : AZ) (a0 : Nat) (i1 : Int32) (I : AI) : Option ((Int32 ⊕ String) × AI) :=
  if i1 < 0 then
    f181_b17 kad N Z a0 I
  else
    if (I a0 12) ≤ i1 then
      f181_b17 kad N Z a0 I
    else
      if i1 < (5 : Int32) then
        (ixA 5 i1).bind fun j33_1 =>
        some (.inl (I (a0 + (1982 + 3 * j33_1)) 2), I)
      else
        f181_b17 kad N Z a0 I
set_option maxRecDepth 20000 in
theorem Tf181 {kad : Nat → Nat} {N : Nat} {Z : AZ} {d : Nat} {t : Option Nat × (Nat × Nat)} (hd : 0 ≤ d) : ∀ (a0 : Nat) (ha0 : sh10 kad Z a0) (i1 : Int32) (I : AI) (r : (Int32 ⊕ String) × AI), f181 kad N Z a0 i1 I = some r → aGo kad d 181 (0, ([(0, .ref a0), (1, .int i1)], [])) (aMem Z I, t) (qX tvI Z t r) := by
  intro a0 ha0 i1 I r h
  unfold f181 at h
  refine go_ops aMi181 1 _ (f1 := (1, ([(0, .ref a0), (1, .int i1)], [.int i1]))) rfl ?_
  refine gg_br (b := decide (i1 < 0)) (tg := 17) (off := 16) aMi181 rfl rfl rfl rfl (fun hb => ?_) (fun hb => ?_)
  · rw [if_pos (of_decide_eq_true hb)] at h
    refine go_le (lv1 := []) (aLe_of (show (List.map (fun q => q.1) ([] : ALv)).Nodup from (by show ([] : List Nat).Nodup; decide)) aSubL_nil) ?_
    exact Tf181_b17 hd a0 ha0 I _ h
  · rw [if_neg (of_decide_eq_false hb)] at h
    refine go_ops aMi181 2 _ (f1 := (6, ([(0, .ref a0), (1, .int i1)], [.ref a0, .int i1]))) rfl ?_
    refine gg_gI aMi181 rfl rfl rfl (gI_of (sh10_z ha0)) ?_
    refine gg_br (b := decide ((I a0 12) ≤ i1)) (tg := 17) (off := 8) aMi181 rfl rfl rfl rfl (fun hb => ?_) (fun hb => ?_)
    · rw [if_pos (of_decide_eq_true hb)] at h
      refine go_le (lv1 := []) (aLe_of (show (List.map (fun q => q.1) ([] : ALv)).Nodup from (by show ([] : List Nat).Nodup; decide)) aSubL_nil) ?_
      exact Tf181_b17 hd a0 ha0 I _ h
    · rw [if_neg (of_decide_eq_false hb)] at h
      refine go_ops aMi181 2 _ (f1 := (14, ([(0, .ref a0), (1, .int i1)], [.int (5 : Int32), .int i1]))) rfl ?_
      refine gg_br (b := decide (i1 < (5 : Int32))) (tg := 28) (off := 14) aMi181 rfl rfl rfl rfl (fun hb => ?_) (fun hb => ?_)
      · rw [if_pos (of_decide_eq_true hb)] at h
        refine go_ops aMi181 1 _ (f1 := (29, ([(0, .ref a0), (1, .int i1)], [.ref a0]))) rfl ?_
        refine gg_gR (b := (a0 + 181)) aMi181 rfl rfl rfl (gR_of (sh10_z ha0) (sh10_r11 ha0)) ?_
        refine go_ops aMi181 1 _ (f1 := (33, ([(0, .ref a0), (1, .int i1)], [.int i1, .ref (a0 + 181)]))) rfl ?_
        obtain ⟨j33_1, hxj33_1, h⟩ := Option.bind_eq_some_iff.mp h
        refine gg_lR (b := (a0 + (1982 + 3 * j33_1))) aMi181 rfl (lR_of (sh10_a11 ha0) (by decide) hxj33_1 (sh10_e11 ha0 j33_1 (ixA_lt hxj33_1))) ?_
        refine gg_gI aMi181 rfl rfl rfl (gI_of (sh9_z (sh10_f11 ha0 j33_1 (ixA_lt hxj33_1)))) ?_
        cases h
        exact go_ret aMi181 rfl aRetI qX_ret
      · rw [if_neg (of_decide_eq_false hb)] at h
        refine go_le (lv1 := []) (aLe_of (show (List.map (fun q => q.1) ([] : ALv)).Nodup from (by show ([] : List Nat).Nodup; decide)) aSubL_nil) ?_
        exact Tf181_b17 hd a0 ha0 I _ h
-- KernelGym.mark ()I
def f182_b35 (kad : Nat → Nat) (N : Nat) (Z : AZ) (a0 : Nat) (i1 : Int32) (I : AI) : Option (Int32 × AI) :=
  some ((if i1 < (0 : Int32) then (0 : Int32) else i1), I)
set_option maxRecDepth 20000 in
theorem Tf182_b35 {kad : Nat → Nat} {N : Nat} {Z : AZ} {d : Nat} {t : Option Nat × (Nat × Nat)} (hd : 1 ≤ d) : ∀ (a0 : Nat) (ha0 : sh10 kad Z a0) (i1 : Int32) (I : AI) (r : Int32 × AI), f182_b35 kad N Z a0 i1 I = some r → aGo kad d 182 (35, ([(1, .int i1)], [])) (aMem Z I, t) (qI Z t r) := by
  intro a0 ha0 i1 I r h
  unfold f182_b35 at h
  refine go_ops aMi182 2 _ (f1 := (37, ([(1, .int i1)], [.int (0 : Int32), .int i1]))) rfl ?_
  refine gg_mx aMi182 rfl rfl (Nat.le_of_ble_eq_true rfl) ?_
  cases h
  exact go_ret aMi182 rfl aRetI ⟨rfl, rfl⟩
def f182_b4 (kad : Nat → Nat) (N : Nat) (Z : AZ) : Nat → Nat → Int32 → Int32 → AI → Option (Int32 × AI)
  | 0, _, _, _, _ => none
  | F + 1, a0, i1, i2, I =>
    if (I a0 12) ≤ i2 then
      f182_b35 kad N Z a0 i1 I
    else
      if (5 : Int32) ≤ i2 then
        f182_b35 kad N Z a0 i1 I
      else
        (ixA 5 i2).bind fun j23_1 =>
        (f122 kad N Z (a0 + (1982 + 3 * j23_1)) I).bind fun r24_2 =>
        f182_b4 kad N Z F a0 (i1 + r24_2.1) (i2 + (1 : Int32)) r24_2.2
set_option maxRecDepth 20000 in
theorem Tf182_b4 {kad : Nat → Nat} {N : Nat} {Z : AZ} {d : Nat} {t : Option Nat × (Nat × Nat)} (hd : 1 ≤ d) : ∀ (F : Nat) (a0 : Nat) (ha0 : sh10 kad Z a0) (i1 : Int32) (i2 : Int32) (I : AI) (r : Int32 × AI), f182_b4 kad N Z F a0 i1 i2 I = some r → aGo kad d 182 (4, ([(0, .ref a0), (1, .int i1), (2, .int i2)], [])) (aMem Z I, t) (qI Z t r) := by
  intro F
  induction F with
  | zero => intro a0 ha0 i1 i2 I r h; cases h
  | succ F ih =>
    intro a0 ha0 i1 i2 I r h
    unfold f182_b4 at h
    refine go_ops aMi182 2 _ (f1 := (6, ([(0, .ref a0), (1, .int i1), (2, .int i2)], [.ref a0, .int i2]))) rfl ?_
    refine gg_gI aMi182 rfl rfl rfl (gI_of (sh10_z ha0)) ?_
    refine gg_br (b := decide ((I a0 12) ≤ i2)) (tg := 35) (off := 26) aMi182 rfl rfl rfl rfl (fun hb => ?_) (fun hb => ?_)
    · rw [if_pos (of_decide_eq_true hb)] at h
      refine go_le (lv1 := [(1, .int i1)]) (aLe_of (show (List.map (fun q => q.1) ([(1, .int i1)] : ALv)).Nodup from (by show ([1] : List Nat).Nodup; decide)) (aSubL_cons rfl aSubL_nil)) ?_
      exact Tf182_b35 hd a0 ha0 i1 I _ h
    · rw [if_neg (of_decide_eq_false hb)] at h
      refine go_ops aMi182 2 _ (f1 := (14, ([(0, .ref a0), (1, .int i1), (2, .int i2)], [.int (5 : Int32), .int i2]))) rfl ?_
      refine gg_br (b := decide ((5 : Int32) ≤ i2)) (tg := 35) (off := 21) aMi182 rfl rfl rfl rfl (fun hb => ?_) (fun hb => ?_)
      · rw [if_pos (of_decide_eq_true hb)] at h
        refine go_le (lv1 := [(1, .int i1)]) (aLe_of (show (List.map (fun q => q.1) ([(1, .int i1)] : ALv)).Nodup from (by show ([1] : List Nat).Nodup; decide)) (aSubL_cons rfl aSubL_nil)) ?_
        exact Tf182_b35 hd a0 ha0 i1 I _ h
      · rw [if_neg (of_decide_eq_false hb)] at h
        refine go_ops aMi182 2 _ (f1 := (19, ([(0, .ref a0), (1, .int i1), (2, .int i2)], [.ref a0, .int i1]))) rfl ?_
        refine gg_gR (b := (a0 + 181)) aMi182 rfl rfl rfl (gR_of (sh10_z ha0) (sh10_r11 ha0)) ?_
        refine go_ops aMi182 1 _ (f1 := (23, ([(0, .ref a0), (1, .int i1), (2, .int i2)], [.int i2, .ref (a0 + 181), .int i1]))) rfl ?_
        obtain ⟨j23_1, hxj23_1, h⟩ := Option.bind_eq_some_iff.mp h
        refine gg_lR (b := (a0 + (1982 + 3 * j23_1))) aMi182 rfl (lR_of (sh10_a11 ha0) (by decide) hxj23_1 (sh10_e11 ha0 j23_1 (ixA_lt hxj23_1))) ?_
        obtain ⟨r24_2, hxr24_2, h⟩ := Option.bind_eq_some_iff.mp h
        refine gg_cv (as := []) (r := [.int i1]) aMi182 rfl rfl rfl aMi122 (Nat.le_of_ble_eq_true rfl) rfl (Nat.le_of_ble_eq_true rfl) (Nat.le_of_ble_eq_true rfl) (by omega) (isK_of (sh9_z (sh10_f11 ha0 j23_1 (ixA_lt hxj23_1)))) (Tf122 (by omega) (a0 + (1982 + 3 * j23_1)) (sh10_f11 ha0 j23_1 (ixA_lt hxj23_1)) I _ hxr24_2) ?_
        show aGo kad d 182 (27, ([(0, .ref a0), (1, .int i1), (2, .int i2)], [.int r24_2.1, .int i1])) (aMem Z r24_2.2, t) _
        refine go_ops aMi182 4 _ (f1 := (4, ([(2, .int (i2 + (1 : Int32))), (1, .int (i1 + r24_2.1)), (0, .ref a0)], []))) rfl ?_
        refine go_le (lv1 := [(0, .ref a0), (1, .int (i1 + r24_2.1)), (2, .int (i2 + (1 : Int32)))]) (aLe_of (show (List.map (fun q => q.1) ([(0, .ref a0), (1, .int (i1 + r24_2.1)), (2, .int (i2 + (1 : Int32)))] : ALv)).Nodup from (by show ([0, 1, 2] : List Nat).Nodup; decide)) (aSubL_cons rfl (aSubL_cons rfl (aSubL_cons rfl aSubL_nil)))) ?_
        exact ih a0 ha0 (i1 + r24_2.1) (i2 + (1 : Int32)) r24_2.2 _ h
def f182 (kad : Nat → Nat) (N : Nat) (Z : AZ) (a0 : Nat) (I : AI) : Option (Int32 × AI) :=
  f182_b4 kad N Z N a0 (0 : Int32) (0 : Int32) I
set_option maxRecDepth 20000 in
theorem Tf182 {kad : Nat → Nat} {N : Nat} {Z : AZ} {d : Nat} {t : Option Nat × (Nat × Nat)} (hd : 1 ≤ d) : ∀ (a0 : Nat) (ha0 : sh10 kad Z a0) (I : AI) (r : Int32 × AI), f182 kad N Z a0 I = some r → aGo kad d 182 (0, ([(0, .ref a0)], [])) (aMem Z I, t) (qI Z t r) := by
  intro a0 ha0 I r h
  unfold f182 at h
  refine go_ops aMi182 4 _ (f1 := (4, ([(2, .int (0 : Int32)), (1, .int (0 : Int32)), (0, .ref a0)], []))) rfl ?_
  refine go_le (lv1 := [(0, .ref a0), (1, .int (0 : Int32)), (2, .int (0 : Int32))]) (aLe_of (show (List.map (fun q => q.1) ([(0, .ref a0), (1, .int (0 : Int32)), (2, .int (0 : Int32))] : ALv)).Nodup from (by show ([0, 1, 2] : List Nat).Nodup; decide)) (aSubL_cons rfl (aSubL_cons rfl (aSubL_cons rfl aSubL_nil)))) ?_
  exact Tf182_b4 hd N a0 ha0 (0 : Int32) (0 : Int32) I _ h
-- KernelGymLaw.cell ([II)I
def f183_b27 (kad : Nat → Nat) (N : Nat) (Z : AZ) (s0 : Int32) (I : AI) : Option (Int32 × AI) :=
  some (s0, I)
set_option maxRecDepth 20000 in
theorem Tf183_b27 {kad : Nat → Nat} {N : Nat} {Z : AZ} {d : Nat} {t : Option Nat × (Nat × Nat)} (hd : 0 ≤ d) : ∀ (s0 : Int32) (I : AI) (r : Int32 × AI), f183_b27 kad N Z s0 I = some r → aGo kad d 183 (27, ([], [.int s0])) (aMem Z I, t) (qI Z t r) := by
  intro s0 I r h
  unfold f183_b27 at h
  cases h
  exact go_ret aMi183 rfl aRetI ⟨rfl, rfl⟩
def f183 (kad : Nat → Nat) (N : Nat) (Z : AZ) (b0 : Nat) (i1 : Int32) (I : AI) : Option (Int32 × AI) :=
  (nL Z b0).bind fun x2_1 =>
  if x2_1 ≤ i1 then
    f183_b27 kad N Z (((7919 : Int32) * (i1 + (997 : Int32))) * (i1 + (3433 : Int32))) I
  else
    (lI Z I 100 b0 i1).bind fun x8_2 =>
    f183_b27 kad N Z x8_2 I
set_option maxRecDepth 20000 in
theorem Tf183 {kad : Nat → Nat} {N : Nat} {Z : AZ} {d : Nat} {t : Option Nat × (Nat × Nat)} (hd : 0 ≤ d) : ∀ (b0 : Nat) (i1 : Int32) (I : AI) (r : Int32 × AI), f183 kad N Z b0 i1 I = some r → aGo kad d 183 (0, ([(0, .ref b0), (1, .int i1)], [])) (aMem Z I, t) (qI Z t r) := by
  intro b0 i1 I r h
  unfold f183 at h
  refine go_ops aMi183 2 _ (f1 := (2, ([(0, .ref b0), (1, .int i1)], [.ref b0, .int i1]))) rfl ?_
  obtain ⟨x2_1, hxx2_1, h⟩ := Option.bind_eq_some_iff.mp h
  refine gg_len aMi183 rfl hxx2_1 ?_
  refine gg_br (b := decide (x2_1 ≤ i1)) (tg := 12) (off := 9) aMi183 rfl rfl rfl rfl (fun hb => ?_) (fun hb => ?_)
  · rw [if_pos (of_decide_eq_true hb)] at h
    refine go_ops aMi183 9 _ (f1 := (27, ([(0, .ref b0), (1, .int i1)], [.int (((7919 : Int32) * (i1 + (997 : Int32))) * (i1 + (3433 : Int32)))]))) rfl ?_
    refine go_le (lv1 := []) (aLe_of (show (List.map (fun q => q.1) ([] : ALv)).Nodup from (by show ([] : List Nat).Nodup; decide)) aSubL_nil) ?_
    exact Tf183_b27 hd (((7919 : Int32) * (i1 + (997 : Int32))) * (i1 + (3433 : Int32))) I _ h
  · rw [if_neg (of_decide_eq_false hb)] at h
    refine go_ops aMi183 2 _ (f1 := (8, ([(0, .ref b0), (1, .int i1)], [.int i1, .ref b0]))) rfl ?_
    obtain ⟨x8_2, hxx8_2, h⟩ := Option.bind_eq_some_iff.mp h
    refine gg_lI (Or.inl ⟨rfl, rfl⟩) aMi183 rfl hxx8_2 ?_
    refine go_ops aMi183 1 _ (f1 := (27, ([(0, .ref b0), (1, .int i1)], [.int x8_2]))) rfl ?_
    refine go_le (lv1 := []) (aLe_of (show (List.map (fun q => q.1) ([] : ALv)).Nodup from (by show ([] : List Nat).Nodup; decide)) aSubL_nil) ?_
    exact Tf183_b27 hd x8_2 I _ h
-- KernelGymLaw.low (II)I
def f184 (kad : Nat → Nat) (N : Nat) (Z : AZ) (i0 : Int32) (i1 : Int32) (I : AI) : Option (Int32 × AI) :=
  if i1 = 0 then none else
  some (((i0 &&& (2147483647 : Int32)) - (i0 &&& (2147483647 : Int32)) / i1 * i1), I)
set_option maxRecDepth 20000 in
theorem Tf184 {kad : Nat → Nat} {N : Nat} {Z : AZ} {d : Nat} {t : Option Nat × (Nat × Nat)} (hd : 0 ≤ d) : ∀ (i0 : Int32) (i1 : Int32) (I : AI) (r : Int32 × AI), f184 kad N Z i0 i1 I = some r → aGo kad d 184 (0, ([(0, .int i0), (1, .int i1)], [])) (aMem Z I, t) (qI Z t r) := by
  intro i0 i1 I r h
  unfold f184 at h
  refine go_ops aMi184 1 _ (f1 := (1, ([(0, .int i0), (1, .int i1)], [.int i0]))) rfl ?_
  refine gg_kI (Or.inl ⟨rfl, rfl⟩) aMi184 rfl rfl ?_
  refine go_ops aMi184 2 _ (f1 := (5, ([(0, .int i0), (1, .int i1)], [.int i1, .int (i0 &&& (2147483647 : Int32))]))) rfl ?_
  by_cases hz5 : i1 = 0
  · rw [if_pos hz5] at h
    cases h
  rw [if_neg hz5] at h
  refine go_op (f1 := (6, ([(0, .int i0), (1, .int i1)], [.int ((i0 &&& (2147483647 : Int32)) - (i0 &&& (2147483647 : Int32)) / i1 * i1)]))) aMi184 rfl rfl (by show (if i1 = 0 then none else some _) = some _; rw [if_neg hz5]) ?_
  cases h
  exact go_ret aMi184 rfl aRetI ⟨rfl, rfl⟩
