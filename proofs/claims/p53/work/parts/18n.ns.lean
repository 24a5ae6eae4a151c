-- KernelGym.requireFile (I)I
def f175 (kad : Nat → Nat) (N : Nat) (Z : AZ) (a0 : Nat) (i1 : Int32) (I : AI) : Option ((Int32 ⊕ String) × AI) :=
  (f138 kad N Z i1 (1 : Int32) (65535 : Int32) I).bind fun r4_1 =>
  xB r4_1 fun vr4_1 Ir4_1 =>
  (f51 kad N Z (a0 + 122) i1 Ir4_1).bind fun r15_2 =>
  if 0 ≤ r15_2.1 then
    some (.inl r15_2.1, r15_2.2)
  else
    some (.inr (aEC 3), r15_2.2)
set_option maxRecDepth 20000 in
theorem Tf175 {kad : Nat → Nat} {N : Nat} {Z : AZ} {d : Nat} {t : Option Nat × (Nat × Nat)} (hd : 2 ≤ d) : ∀ (a0 : Nat) (ha0 : sh10 kad Z a0) (i1 : Int32) (I : AI) (r : (Int32 ⊕ String) × AI), f175 kad N Z a0 i1 I = some r → aGo kad d 175 (0, ([(0, .ref a0), (1, .int i1)], [])) (aMem Z I, t) (qX tvI Z t r) := by
  intro a0 ha0 i1 I r h
  unfold f175 at h
  refine go_ops aMi175 2 _ (f1 := (2, ([(0, .ref a0), (1, .int i1)], [.int (1 : Int32), .int i1]))) rfl ?_
  refine gg_kI (Or.inl ⟨rfl, rfl⟩) aMi175 rfl rfl ?_
  obtain ⟨r4_1, hxr4_1, h⟩ := Option.bind_eq_some_iff.mp h
  rcases xB_eq h with ⟨vr4_1, Ir4_1, her4_1, h2⟩ | ⟨Er4_1, Ir4_1, her4_1, h2⟩
  rotate_left
  · clear h
    subst her4_1
    subst h2
    exact gg_cst (as := [.int i1, .int (1 : Int32), .int (65535 : Int32)]) (r := []) aMi175 rfl rfl rfl aMi138 rfl (Nat.le_of_ble_eq_true rfl) (Nat.le_of_ble_eq_true rfl) (by omega) (Tf138 (by omega) i1 (1 : Int32) (65535 : Int32) I _ hxr4_1) qX_thr
  clear h
  subst her4_1
  have h := h2
  clear h2
  refine gg_cs (as := [.int i1, .int (1 : Int32), .int (65535 : Int32)]) (r := []) aMi175 rfl rfl rfl aMi138 rfl (Nat.le_of_ble_eq_true rfl) (Nat.le_of_ble_eq_true rfl) (by omega) (Tf138 (by omega) i1 (1 : Int32) (65535 : Int32) I _ hxr4_1) ?_
  show aGo kad d 175 (7, ([(0, .ref a0), (1, .int i1)], [])) (aMem Z Ir4_1, t) _
  refine go_ops aMi175 1 _ (f1 := (8, ([(0, .ref a0), (1, .int i1)], [.ref a0]))) rfl ?_
  refine gg_gR (b := (a0 + 114)) aMi175 rfl rfl rfl (gR_of (sh10_z ha0) (sh10_r3 ha0)) ?_
  refine gg_gR (b := (a0 + 122)) aMi175 rfl rfl rfl (gR_of (sh8_z (sh10_s3 ha0)) (sh8_r3 (sh10_s3 ha0))) ?_
  refine go_ops aMi175 1 _ (f1 := (15, ([(0, .ref a0), (1, .int i1)], [.int i1, .ref (a0 + 122)]))) rfl ?_
  obtain ⟨r15_2, hxr15_2, h⟩ := Option.bind_eq_some_iff.mp h
  refine gg_cv (as := [.int i1]) (r := []) aMi175 rfl rfl rfl aMi51 (Nat.le_of_ble_eq_true rfl) rfl (Nat.le_of_ble_eq_true rfl) (Nat.le_of_ble_eq_true rfl) (by omega) (isK_of (sh3_z (sh8_s3 (sh10_s3 ha0)))) (Tf51 (by omega) (a0 + 122) (sh8_s3 (sh10_s3 ha0)) i1 Ir4_1 _ hxr15_2) ?_
  show aGo kad d 175 (18, ([(0, .ref a0), (1, .int i1)], [.int r15_2.1])) (aMem Z r15_2.2, t) _
  refine go_ops aMi175 2 _ (f1 := (20, ([(2, .int r15_2.1), (0, .ref a0), (1, .int i1)], [.int r15_2.1]))) rfl ?_
  refine gg_br (b := decide (0 ≤ r15_2.1)) (tg := 34) (off := 14) aMi175 rfl rfl rfl rfl (fun hb => ?_) (fun hb => ?_)
  · rw [if_pos (of_decide_eq_true hb)] at h
    refine go_ops aMi175 1 _ (f1 := (35, ([(2, .int r15_2.1), (0, .ref a0), (1, .int i1)], [.int r15_2.1]))) rfl ?_
    cases h
    exact go_ret aMi175 rfl aRetI qX_ret
  · rw [if_neg (of_decide_eq_false hb)] at h
    cases h
    exact go_thr (E := aEC 3) aMi175 rfl rfl rfl rfl rfl rfl qX_thr
-- KernelGym.size (I)I
def f171 (kad : Nat → Nat) (N : Nat) (Z : AZ) (a0 : Nat) (i1 : Int32) (I : AI) : Option ((Int32 ⊕ String) × AI) :=
  (f175 kad N Z a0 i1 I).bind fun r9_1 =>
  xB r9_1 fun vr9_1 Ir9_1 =>
  (f50 kad N Z (a0 + 122) vr9_1 (1 : Int32) Ir9_1).bind fun r13_2 =>
  some (.inl r13_2.1, r13_2.2)
set_option maxRecDepth 20000 in
theorem Tf171 {kad : Nat → Nat} {N : Nat} {Z : AZ} {d : Nat} {t : Option Nat × (Nat × Nat)} (hd : 3 ≤ d) : ∀ (a0 : Nat) (ha0 : sh10 kad Z a0) (i1 : Int32) (I : AI) (r : (Int32 ⊕ String) × AI), f171 kad N Z a0 i1 I = some r → aGo kad d 171 (0, ([(0, .ref a0), (1, .int i1)], [])) (aMem Z I, t) (qX tvI Z t r) := by
  intro a0 ha0 i1 I r h
  unfold f171 at h
  refine go_ops aMi171 1 _ (f1 := (1, ([(0, .ref a0), (1, .int i1)], [.ref a0]))) rfl ?_
  refine gg_gR (b := (a0 + 114)) aMi171 rfl rfl rfl (gR_of (sh10_z ha0) (sh10_r3 ha0)) ?_
  refine gg_gR (b := (a0 + 122)) aMi171 rfl rfl rfl (gR_of (sh8_z (sh10_s3 ha0)) (sh8_r3 (sh10_s3 ha0))) ?_
  refine go_ops aMi171 2 _ (f1 := (9, ([(0, .ref a0), (1, .int i1)], [.int i1, .ref a0, .ref (a0 + 122)]))) rfl ?_
  obtain ⟨r9_1, hxr9_1, h⟩ := Option.bind_eq_some_iff.mp h
  rcases xB_eq h with ⟨vr9_1, Ir9_1, her9_1, h2⟩ | ⟨Er9_1, Ir9_1, her9_1, h2⟩
  rotate_left
  · clear h
    subst her9_1
    subst h2
    exact gg_cvt (as := [.int i1]) (r := [.ref (a0 + 122)]) aMi171 rfl rfl rfl aMi175 (Nat.le_of_ble_eq_true rfl) rfl (Nat.le_of_ble_eq_true rfl) (Nat.le_of_ble_eq_true rfl) (by omega) (isK_of (sh10_z ha0)) (Tf175 (by omega) a0 ha0 i1 I _ hxr9_1) qX_thr
  clear h
  subst her9_1
  have h := h2
  clear h2
  refine gg_cv (as := [.int i1]) (r := [.ref (a0 + 122)]) aMi171 rfl rfl rfl aMi175 (Nat.le_of_ble_eq_true rfl) rfl (Nat.le_of_ble_eq_true rfl) (Nat.le_of_ble_eq_true rfl) (by omega) (isK_of (sh10_z ha0)) (Tf175 (by omega) a0 ha0 i1 I _ hxr9_1) ?_
  show aGo kad d 171 (12, ([(0, .ref a0), (1, .int i1)], [.int vr9_1, .ref (a0 + 122)])) (aMem Z Ir9_1, t) _
  refine go_ops aMi171 1 _ (f1 := (13, ([(0, .ref a0), (1, .int i1)], [.int (1 : Int32), .int vr9_1, .ref (a0 + 122)]))) rfl ?_
  obtain ⟨r13_2, hxr13_2, h⟩ := Option.bind_eq_some_iff.mp h
  refine gg_cv (as := [.int vr9_1, .int (1 : Int32)]) (r := []) aMi171 rfl rfl rfl aMi50 (Nat.le_of_ble_eq_true rfl) rfl (Nat.le_of_ble_eq_true rfl) (Nat.le_of_ble_eq_true rfl) (by omega) (isK_of (sh3_z (sh8_s3 (sh10_s3 ha0)))) (Tf50 (by omega) (a0 + 122) (sh8_s3 (sh10_s3 ha0)) vr9_1 (1 : Int32) Ir9_1 _ hxr13_2) ?_
  show aGo kad d 171 (16, ([(0, .ref a0), (1, .int i1)], [.int r13_2.1])) (aMem Z r13_2.2, t) _
  cases h
  exact go_ret aMi171 rfl aRetI qX_ret
