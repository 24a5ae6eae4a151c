-- KernelGym.press (I)I
def f149 (kad : Nat → Nat) (N : Nat) (Z : AZ) (a0 : Nat) (i1 : Int32) (I : AI) : Option ((Int32 ⊕ String) × AI) :=
  (f138 kad N Z i1 (0 : Int32) (65535 : Int32) I).bind fun r4_1 =>
  xB r4_1 fun vr4_1 Ir4_1 =>
  (gR Z Ir4_1 10 3 a0).bind fun b8_2 =>
  (gR Z Ir4_1 8 0 b8_2).bind fun b11_3 =>
  (gI Z Ir4_1 2 0 b11_3).bind fun x14_4 =>
  if x14_4 = (1 : Int32) then
    (gR Z Ir4_1 10 3 a0).bind fun b32_5 =>
    (gR Z Ir4_1 8 4 b32_5).bind fun b35_6 =>
    (gI Z Ir4_1 6 0 b35_6).bind fun x38_7 =>
    if x38_7 < (20 : Int32) then
      (gR Z Ir4_1 10 3 a0).bind fun b57_8 =>
      (gR Z Ir4_1 8 4 b57_8).bind fun b60_9 =>
      (gR Z Ir4_1 10 3 a0).bind fun b65_10 =>
      (gR Z Ir4_1 8 0 b65_10).bind fun b68_11 =>
      (gI Z Ir4_1 2 2 b68_11).bind fun x71_12 =>
      (isK Z b60_9 6).bind fun u74_13 =>
      (f74 kad N Z b60_9 i1 x71_12 Ir4_1).bind fun r74_14 =>
      (gR Z r74_14.2 10 3 a0).bind fun b78_15 =>
      (isK Z b78_15 8).bind fun u81_16 =>
      (f85 kad N Z b78_15 r74_14.2).bind fun r81_17 =>
      (gR Z r81_17.2 10 3 a0).bind fun b85_18 =>
      (gR Z r81_17.2 8 4 b85_18).bind fun b88_19 =>
      (gI Z r81_17.2 6 0 b88_19).bind fun x91_20 =>
      some (.inl x91_20, r81_17.2)
    else
      some (.inr (aEC 1), Ir4_1)
  else
    some (.inr (aEC 1), Ir4_1)
set_option maxRecDepth 20000 in
theorem Tf149 {kad : Nat → Nat} {N : Nat} {Z : AZ} {d : Nat} {t : Option Nat × (Nat × Nat)} (hd : 2 ≤ d) : ∀ (a0 : Nat) (i1 : Int32) (I : AI) (r : (Int32 ⊕ String) × AI), f149 kad N Z a0 i1 I = some r → aGo kad d 149 (0, ([(0, .ref a0), (1, .int i1)], [])) (aMem Z I, t) (qX tvI Z t r) := by
  intro a0 i1 I r h
  unfold f149 at h
  refine go_ops aMi149 2 _ (f1 := (2, ([(0, .ref a0), (1, .int i1)], [.int (0 : Int32), .int i1]))) rfl ?_
  refine gg_kI (Or.inl ⟨rfl, rfl⟩) aMi149 rfl rfl ?_
  obtain ⟨r4_1, hxr4_1, h⟩ := Option.bind_eq_some_iff.mp h
  rcases xB_eq h with ⟨vr4_1, Ir4_1, her4_1, h2⟩ | ⟨Er4_1, Ir4_1, her4_1, h2⟩
  rotate_left
  · clear h
    subst her4_1
    subst h2
    exact gg_cst (as := [.int i1, .int (0 : Int32), .int (65535 : Int32)]) (r := []) aMi149 rfl rfl rfl aMi138 rfl (Nat.le_of_ble_eq_true rfl) (Nat.le_of_ble_eq_true rfl) (by omega) (Tf138 (by omega) i1 (0 : Int32) (65535 : Int32) I _ hxr4_1) qX_thr
  clear h
  subst her4_1
  have h := h2
  clear h2
  refine gg_cs (as := [.int i1, .int (0 : Int32), .int (65535 : Int32)]) (r := []) aMi149 rfl rfl rfl aMi138 rfl (Nat.le_of_ble_eq_true rfl) (Nat.le_of_ble_eq_true rfl) (by omega) (Tf138 (by omega) i1 (0 : Int32) (65535 : Int32) I _ hxr4_1) ?_
  show aGo kad d 149 (7, ([(0, .ref a0), (1, .int i1)], [])) (aMem Z Ir4_1, t) _
  refine go_ops aMi149 1 _ (f1 := (8, ([(0, .ref a0), (1, .int i1)], [.ref a0]))) rfl ?_
  obtain ⟨b8_2, hxb8_2, h⟩ := Option.bind_eq_some_iff.mp h
  refine gg_gR aMi149 rfl rfl rfl hxb8_2 ?_
  obtain ⟨b11_3, hxb11_3, h⟩ := Option.bind_eq_some_iff.mp h
  refine gg_gR aMi149 rfl rfl rfl hxb11_3 ?_
  obtain ⟨x14_4, hxx14_4, h⟩ := Option.bind_eq_some_iff.mp h
  refine gg_gI aMi149 rfl rfl rfl hxx14_4 ?_
  refine go_ops aMi149 1 _ (f1 := (18, ([(0, .ref a0), (1, .int i1)], [.int (1 : Int32), .int x14_4]))) rfl ?_
  refine gg_br (b := decide (x14_4 = (1 : Int32))) (tg := 31) (off := 13) aMi149 rfl rfl rfl rfl (fun hb => ?_) (fun hb => ?_)
  · rw [if_pos (of_decide_eq_true hb)] at h
    refine go_ops aMi149 1 _ (f1 := (32, ([(0, .ref a0), (1, .int i1)], [.ref a0]))) rfl ?_
    obtain ⟨b32_5, hxb32_5, h⟩ := Option.bind_eq_some_iff.mp h
    refine gg_gR aMi149 rfl rfl rfl hxb32_5 ?_
    obtain ⟨b35_6, hxb35_6, h⟩ := Option.bind_eq_some_iff.mp h
    refine gg_gR aMi149 rfl rfl rfl hxb35_6 ?_
    obtain ⟨x38_7, hxx38_7, h⟩ := Option.bind_eq_some_iff.mp h
    refine gg_gI aMi149 rfl rfl rfl hxx38_7 ?_
    refine go_ops aMi149 1 _ (f1 := (43, ([(0, .ref a0), (1, .int i1)], [.int (20 : Int32), .int x38_7]))) rfl ?_
    refine gg_br (b := decide (x38_7 < (20 : Int32))) (tg := 56) (off := 13) aMi149 rfl rfl rfl rfl (fun hb => ?_) (fun hb => ?_)
    · rw [if_pos (of_decide_eq_true hb)] at h
      refine go_ops aMi149 1 _ (f1 := (57, ([(0, .ref a0), (1, .int i1)], [.ref a0]))) rfl ?_
      obtain ⟨b57_8, hxb57_8, h⟩ := Option.bind_eq_some_iff.mp h
      refine gg_gR aMi149 rfl rfl rfl hxb57_8 ?_
      obtain ⟨b60_9, hxb60_9, h⟩ := Option.bind_eq_some_iff.mp h
      refine gg_gR aMi149 rfl rfl rfl hxb60_9 ?_
      refine go_ops aMi149 2 _ (f1 := (65, ([(0, .ref a0), (1, .int i1)], [.ref a0, .int i1, .ref b60_9]))) rfl ?_
      obtain ⟨b65_10, hxb65_10, h⟩ := Option.bind_eq_some_iff.mp h
      refine gg_gR aMi149 rfl rfl rfl hxb65_10 ?_
      obtain ⟨b68_11, hxb68_11, h⟩ := Option.bind_eq_some_iff.mp h
      refine gg_gR aMi149 rfl rfl rfl hxb68_11 ?_
      obtain ⟨x71_12, hxx71_12, h⟩ := Option.bind_eq_some_iff.mp h
      refine gg_gI aMi149 rfl rfl rfl hxx71_12 ?_
      obtain ⟨u74_13, hxu74_13, h⟩ := Option.bind_eq_some_iff.mp h
      obtain ⟨r74_14, hxr74_14, h⟩ := Option.bind_eq_some_iff.mp h
      refine gg_cv (as := [.int i1, .int x71_12]) (r := []) aMi149 rfl rfl rfl aMi74 (Nat.le_of_ble_eq_true rfl) rfl (Nat.le_of_ble_eq_true rfl) (Nat.le_of_ble_eq_true rfl) (by omega) hxu74_13 (Tf74 (by omega) b60_9 i1 x71_12 Ir4_1 _ hxr74_14) ?_
      show aGo kad d 149 (77, ([(0, .ref a0), (1, .int i1)], [])) (aMem Z r74_14.2, t) _
      refine go_ops aMi149 1 _ (f1 := (78, ([(0, .ref a0), (1, .int i1)], [.ref a0]))) rfl ?_
      obtain ⟨b78_15, hxb78_15, h⟩ := Option.bind_eq_some_iff.mp h
      refine gg_gR aMi149 rfl rfl rfl hxb78_15 ?_
      obtain ⟨u81_16, hxu81_16, h⟩ := Option.bind_eq_some_iff.mp h
      obtain ⟨r81_17, hxr81_17, h⟩ := Option.bind_eq_some_iff.mp h
      refine gg_cv (as := []) (r := []) aMi149 rfl rfl rfl aMi85 (Nat.le_of_ble_eq_true rfl) rfl (Nat.le_of_ble_eq_true rfl) (Nat.le_of_ble_eq_true rfl) (by omega) hxu81_16 (Tf85 (by omega) b78_15 r74_14.2 _ hxr81_17) ?_
      show aGo kad d 149 (84, ([(0, .ref a0), (1, .int i1)], [])) (aMem Z r81_17.2, t) _
      refine go_ops aMi149 1 _ (f1 := (85, ([(0, .ref a0), (1, .int i1)], [.ref a0]))) rfl ?_
      obtain ⟨b85_18, hxb85_18, h⟩ := Option.bind_eq_some_iff.mp h
      refine gg_gR aMi149 rfl rfl rfl hxb85_18 ?_
      obtain ⟨b88_19, hxb88_19, h⟩ := Option.bind_eq_some_iff.mp h
      refine gg_gR aMi149 rfl rfl rfl hxb88_19 ?_
      obtain ⟨x91_20, hxx91_20, h⟩ := Option.bind_eq_some_iff.mp h
      refine gg_gI aMi149 rfl rfl rfl hxx91_20 ?_
      cases h
      exact go_ret aMi149 rfl aRetI qX_ret
    · rw [if_neg (of_decide_eq_false hb)] at h
      cases h
      exact go_thr (E := aEC 1) aMi149 rfl rfl rfl rfl rfl rfl qX_thr
  · rw [if_neg (of_decide_eq_false hb)] at h
    cases h
    exact go_thr (E := aEC 1) aMi149 rfl rfl rfl rfl rfl rfl qX_thr
-- KernelGym.state ()I
def f150 (kad : Nat → Nat) (N : Nat) (Z : AZ) (a0 : Nat) (I : AI) : Option (Int32 × AI) :=
  (gR Z I 10 3 a0).bind fun b1_1 =>
  (gR Z I 8 0 b1_1).bind fun b4_2 =>
  (gI Z I 2 0 b4_2).bind fun x7_3 =>
  some (x7_3, I)
set_option maxRecDepth 20000 in
theorem Tf150 {kad : Nat → Nat} {N : Nat} {Z : AZ} {d : Nat} {t : Option Nat × (Nat × Nat)} (hd : 0 ≤ d) : ∀ (a0 : Nat) (I : AI) (r : Int32 × AI), f150 kad N Z a0 I = some r → aGo kad d 150 (0, ([(0, .ref a0)], [])) (aMem Z I, t) (qI Z t r) := by
  intro a0 I r h
  unfold f150 at h
  refine go_ops aMi150 1 _ (f1 := (1, ([(0, .ref a0)], [.ref a0]))) rfl ?_
  obtain ⟨b1_1, hxb1_1, h⟩ := Option.bind_eq_some_iff.mp h
  refine gg_gR aMi150 rfl rfl rfl hxb1_1 ?_
  obtain ⟨b4_2, hxb4_2, h⟩ := Option.bind_eq_some_iff.mp h
  refine gg_gR aMi150 rfl rfl rfl hxb4_2 ?_
  obtain ⟨x7_3, hxx7_3, h⟩ := Option.bind_eq_some_iff.mp h
  refine gg_gI aMi150 rfl rfl rfl hxx7_3 ?_
  cases h
  exact go_ret aMi150 rfl aRetI ⟨rfl, rfl⟩
-- KernelGym.fault ()I
def f151 (kad : Nat → Nat) (N : Nat) (Z : AZ) (a0 : Nat) (I : AI) : Option (Int32 × AI) :=
  (gR Z I 10 3 a0).bind fun b1_1 =>
  (gR Z I 8 0 b1_1).bind fun b4_2 =>
  (gI Z I 2 1 b4_2).bind fun x7_3 =>
  some (x7_3, I)
set_option maxRecDepth 20000 in
theorem Tf151 {kad : Nat → Nat} {N : Nat} {Z : AZ} {d : Nat} {t : Option Nat × (Nat × Nat)} (hd : 0 ≤ d) : ∀ (a0 : Nat) (I : AI) (r : Int32 × AI), f151 kad N Z a0 I = some r → aGo kad d 151 (0, ([(0, .ref a0)], [])) (aMem Z I, t) (qI Z t r) := by
  intro a0 I r h
  unfold f151 at h
  refine go_ops aMi151 1 _ (f1 := (1, ([(0, .ref a0)], [.ref a0]))) rfl ?_
  obtain ⟨b1_1, hxb1_1, h⟩ := Option.bind_eq_some_iff.mp h
  refine gg_gR aMi151 rfl rfl rfl hxb1_1 ?_
  obtain ⟨b4_2, hxb4_2, h⟩ := Option.bind_eq_some_iff.mp h
  refine gg_gR aMi151 rfl rfl rfl hxb4_2 ?_
  obtain ⟨x7_3, hxx7_3, h⟩ := Option.bind_eq_some_iff.mp h
  refine gg_gI aMi151 rfl rfl rfl hxx7_3 ?_
  cases h
  exact go_ret aMi151 rfl aRetI ⟨rfl, rfl⟩
-- KernelGym.steps ()I
def f152 (kad : Nat → Nat) (N : Nat) (Z : AZ) (a0 : Nat) (I : AI) : Option (Int32 × AI) :=
  (gR Z I 10 3 a0).bind fun b1_1 =>
  (gR Z I 8 0 b1_1).bind fun b4_2 =>
  (gI Z I 2 2 b4_2).bind fun x7_3 =>
  some (x7_3, I)
set_option maxRecDepth 20000 in
theorem Tf152 {kad : Nat → Nat} {N : Nat} {Z : AZ} {d : Nat} {t : Option Nat × (Nat × Nat)} (hd : 0 ≤ d) : ∀ (a0 : Nat) (I : AI) (r : Int32 × AI), f152 kad N Z a0 I = some r → aGo kad d 152 (0, ([(0, .ref a0)], [])) (aMem Z I, t) (qI Z t r) := by
  intro a0 I r h
  unfold f152 at h
  refine go_ops aMi152 1 _ (f1 := (1, ([(0, .ref a0)], [.ref a0]))) rfl ?_
  obtain ⟨b1_1, hxb1_1, h⟩ := Option.bind_eq_some_iff.mp h
  refine gg_gR aMi152 rfl rfl rfl hxb1_1 ?_
  obtain ⟨b4_2, hxb4_2, h⟩ := Option.bind_eq_some_iff.mp h
  refine gg_gR aMi152 rfl rfl rfl hxb4_2 ?_
  obtain ⟨x7_3, hxx7_3, h⟩ := Option.bind_eq_some_iff.mp h
  refine gg_gI aMi152 rfl rfl rfl hxx7_3 ?_
  cases h
  exact go_ret aMi152 rfl aRetI ⟨rfl, rfl⟩
-- KernelGym.kept ()I
def f153 (kad : Nat → Nat) (N : Nat) (Z : AZ) (a0 : Nat) (I : AI) : Option (Int32 × AI) :=
  (gI Z I 10 5 a0).bind fun x1_1 =>
  some (x1_1, I)
set_option maxRecDepth 20000 in
theorem Tf153 {kad : Nat → Nat} {N : Nat} {Z : AZ} {d : Nat} {t : Option Nat × (Nat × Nat)} (hd : 0 ≤ d) : ∀ (a0 : Nat) (I : AI) (r : Int32 × AI), f153 kad N Z a0 I = some r → aGo kad d 153 (0, ([(0, .ref a0)], [])) (aMem Z I, t) (qI Z t r) := by
  intro a0 I r h
  unfold f153 at h
  refine go_ops aMi153 1 _ (f1 := (1, ([(0, .ref a0)], [.ref a0]))) rfl ?_
  obtain ⟨x1_1, hxx1_1, h⟩ := Option.bind_eq_some_iff.mp h
  refine gg_gI aMi153 rfl rfl rfl hxx1_1 ?_
  cases h
  exact go_ret aMi153 rfl aRetI ⟨rfl, rfl⟩
-- KernelGym.counter ()I
def f154 (kad : Nat → Nat) (N : Nat) (Z : AZ) (a0 : Nat) (I : AI) : Option (Int32 × AI) :=
  (gR Z I 10 3 a0).bind fun b1_1 =>
  (gR Z I 8 0 b1_1).bind fun b4_2 =>
  (gI Z I 2 3 b4_2).bind fun x7_3 =>
  some (x7_3, I)
set_option maxRecDepth 20000 in
theorem Tf154 {kad : Nat → Nat} {N : Nat} {Z : AZ} {d : Nat} {t : Option Nat × (Nat × Nat)} (hd : 0 ≤ d) : ∀ (a0 : Nat) (I : AI) (r : Int32 × AI), f154 kad N Z a0 I = some r → aGo kad d 154 (0, ([(0, .ref a0)], [])) (aMem Z I, t) (qI Z t r) := by
  intro a0 I r h
  unfold f154 at h
  refine go_ops aMi154 1 _ (f1 := (1, ([(0, .ref a0)], [.ref a0]))) rfl ?_
  obtain ⟨b1_1, hxb1_1, h⟩ := Option.bind_eq_some_iff.mp h
  refine gg_gR aMi154 rfl rfl rfl hxb1_1 ?_
  obtain ⟨b4_2, hxb4_2, h⟩ := Option.bind_eq_some_iff.mp h
  refine gg_gR aMi154 rfl rfl rfl hxb4_2 ?_
  obtain ⟨x7_3, hxx7_3, h⟩ := Option.bind_eq_some_iff.mp h
  refine gg_gI aMi154 rfl rfl rfl hxx7_3 ?_
  cases h
  exact go_ret aMi154 rfl aRetI ⟨rfl, rfl⟩
-- KernelGym.stack ()I
def f155 (kad : Nat → Nat) (N : Nat) (Z : AZ) (a0 : Nat) (I : AI) : Option (Int32 × AI) :=
  (gR Z I 10 3 a0).bind fun b1_1 =>
  (gR Z I 8 0 b1_1).bind fun b4_2 =>
  (gI Z I 2 4 b4_2).bind fun x7_3 =>
  some (x7_3, I)
set_option maxRecDepth 20000 in
theorem Tf155 {kad : Nat → Nat} {N : Nat} {Z : AZ} {d : Nat} {t : Option Nat × (Nat × Nat)} (hd : 0 ≤ d) : ∀ (a0 : Nat) (I : AI) (r : Int32 × AI), f155 kad N Z a0 I = some r → aGo kad d 155 (0, ([(0, .ref a0)], [])) (aMem Z I, t) (qI Z t r) := by
  intro a0 I r h
  unfold f155 at h
  refine go_ops aMi155 1 _ (f1 := (1, ([(0, .ref a0)], [.ref a0]))) rfl ?_
  obtain ⟨b1_1, hxb1_1, h⟩ := Option.bind_eq_some_iff.mp h
  refine gg_gR aMi155 rfl rfl rfl hxb1_1 ?_
  obtain ⟨b4_2, hxb4_2, h⟩ := Option.bind_eq_some_iff.mp h
  refine gg_gR aMi155 rfl rfl rfl hxb4_2 ?_
  obtain ⟨x7_3, hxx7_3, h⟩ := Option.bind_eq_some_iff.mp h
  refine gg_gI aMi155 rfl rfl rfl hxx7_3 ?_
  cases h
  exact go_ret aMi155 rfl aRetI ⟨rfl, rfl⟩
-- KernelGym.flags ()I
def f156 (kad : Nat → Nat) (N : Nat) (Z : AZ) (a0 : Nat) (I : AI) : Option (Int32 × AI) :=
  (gR Z I 10 3 a0).bind fun b1_1 =>
  (gR Z I 8 0 b1_1).bind fun b4_2 =>
  (isK Z b4_2 2).bind fun u7_3 =>
  (f40 kad N Z b4_2 I).bind fun r7_4 =>
  some (r7_4.1, r7_4.2)
set_option maxRecDepth 20000 in
theorem Tf156 {kad : Nat → Nat} {N : Nat} {Z : AZ} {d : Nat} {t : Option Nat × (Nat × Nat)} (hd : 2 ≤ d) : ∀ (a0 : Nat) (I : AI) (r : Int32 × AI), f156 kad N Z a0 I = some r → aGo kad d 156 (0, ([(0, .ref a0)], [])) (aMem Z I, t) (qI Z t r) := by
  intro a0 I r h
  unfold f156 at h
  refine go_ops aMi156 1 _ (f1 := (1, ([(0, .ref a0)], [.ref a0]))) rfl ?_
  obtain ⟨b1_1, hxb1_1, h⟩ := Option.bind_eq_some_iff.mp h
  refine gg_gR aMi156 rfl rfl rfl hxb1_1 ?_
  obtain ⟨b4_2, hxb4_2, h⟩ := Option.bind_eq_some_iff.mp h
  refine gg_gR aMi156 rfl rfl rfl hxb4_2 ?_
  obtain ⟨u7_3, hxu7_3, h⟩ := Option.bind_eq_some_iff.mp h
  obtain ⟨r7_4, hxr7_4, h⟩ := Option.bind_eq_some_iff.mp h
  refine gg_cv (as := []) (r := []) aMi156 rfl rfl rfl aMi40 (Nat.le_of_ble_eq_true rfl) rfl (Nat.le_of_ble_eq_true rfl) (Nat.le_of_ble_eq_true rfl) (by omega) hxu7_3 (Tf40 (by omega) b4_2 I _ hxr7_4) ?_
  show aGo kad d 156 (10, ([(0, .ref a0)], [.int r7_4.1])) (aMem Z r7_4.2, t) _
  cases h
  exact go_ret aMi156 rfl aRetI ⟨rfl, rfl⟩
-- KernelGym.writesLeft ()I
def f157 (kad : Nat → Nat) (N : Nat) (Z : AZ) (a0 : Nat) (I : AI) : Option (Int32 × AI) :=
  (gR Z I 10 3 a0).bind fun b1_1 =>
  (gR Z I 8 0 b1_1).bind fun b4_2 =>
  (gR Z I 2 15 b4_2).bind fun b7_3 =>
  (isK Z b7_3 4).bind fun u10_4 =>
  (f63 kad N Z b7_3 I).bind fun r10_5 =>
  some (r10_5.1, r10_5.2)
set_option maxRecDepth 20000 in
theorem Tf157 {kad : Nat → Nat} {N : Nat} {Z : AZ} {d : Nat} {t : Option Nat × (Nat × Nat)} (hd : 1 ≤ d) : ∀ (a0 : Nat) (I : AI) (r : Int32 × AI), f157 kad N Z a0 I = some r → aGo kad d 157 (0, ([(0, .ref a0)], [])) (aMem Z I, t) (qI Z t r) := by
  intro a0 I r h
  unfold f157 at h
  refine go_ops aMi157 1 _ (f1 := (1, ([(0, .ref a0)], [.ref a0]))) rfl ?_
  obtain ⟨b1_1, hxb1_1, h⟩ := Option.bind_eq_some_iff.mp h
  refine gg_gR aMi157 rfl rfl rfl hxb1_1 ?_
  obtain ⟨b4_2, hxb4_2, h⟩ := Option.bind_eq_some_iff.mp h
  refine gg_gR aMi157 rfl rfl rfl hxb4_2 ?_
  obtain ⟨b7_3, hxb7_3, h⟩ := Option.bind_eq_some_iff.mp h
  refine gg_gR aMi157 rfl rfl rfl hxb7_3 ?_
  obtain ⟨u10_4, hxu10_4, h⟩ := Option.bind_eq_some_iff.mp h
  obtain ⟨r10_5, hxr10_5, h⟩ := Option.bind_eq_some_iff.mp h
  refine gg_cv (as := []) (r := []) aMi157 rfl rfl rfl aMi63 (Nat.le_of_ble_eq_true rfl) rfl (Nat.le_of_ble_eq_true rfl) (Nat.le_of_ble_eq_true rfl) (by omega) hxu10_4 (Tf63 (by omega) b7_3 I _ hxr10_5) ?_
  show aGo kad d 157 (13, ([(0, .ref a0)], [.int r10_5.1])) (aMem Z r10_5.2, t) _
  cases h
  exact go_ret aMi157 rfl aRetI ⟨rfl, rfl⟩
-- KernelGym.register (I)I
def f158 (kad : Nat → Nat) (N : Nat) (Z : AZ) (a0 : Nat) (i1 : Int32) (I : AI) : Option ((Int32 ⊕ String) × AI) :=
  (f138 kad N Z i1 (0 : Int32) (3 : Int32) I).bind fun r3_1 =>
  xB r3_1 fun vr3_1 Ir3_1 =>
  (gR Z Ir3_1 10 3 a0).bind fun b7_2 =>
  (gR Z Ir3_1 8 0 b7_2).bind fun b10_3 =>
  (gR Z Ir3_1 2 14 b10_3).bind fun b13_4 =>
  (lI Z Ir3_1 100 b13_4 i1).bind fun x17_5 =>
  some (.inl x17_5, Ir3_1)
set_option maxRecDepth 20000 in
theorem Tf158 {kad : Nat → Nat} {N : Nat} {Z : AZ} {d : Nat} {t : Option Nat × (Nat × Nat)} (hd : 1 ≤ d) : ∀ (a0 : Nat) (i1 : Int32) (I : AI) (r : (Int32 ⊕ String) × AI), f158 kad N Z a0 i1 I = some r → aGo kad d 158 (0, ([(0, .ref a0), (1, .int i1)], [])) (aMem Z I, t) (qX tvI Z t r) := by
  intro a0 i1 I r h
  unfold f158 at h
  refine go_ops aMi158 3 _ (f1 := (3, ([(0, .ref a0), (1, .int i1)], [.int (3 : Int32), .int (0 : Int32), .int i1]))) rfl ?_
  obtain ⟨r3_1, hxr3_1, h⟩ := Option.bind_eq_some_iff.mp h
  rcases xB_eq h with ⟨vr3_1, Ir3_1, her3_1, h2⟩ | ⟨Er3_1, Ir3_1, her3_1, h2⟩
  rotate_left
  · clear h
    subst her3_1
    subst h2
    exact gg_cst (as := [.int i1, .int (0 : Int32), .int (3 : Int32)]) (r := []) aMi158 rfl rfl rfl aMi138 rfl (Nat.le_of_ble_eq_true rfl) (Nat.le_of_ble_eq_true rfl) (by omega) (Tf138 (by omega) i1 (0 : Int32) (3 : Int32) I _ hxr3_1) qX_thr
  clear h
  subst her3_1
  have h := h2
  clear h2
  refine gg_cs (as := [.int i1, .int (0 : Int32), .int (3 : Int32)]) (r := []) aMi158 rfl rfl rfl aMi138 rfl (Nat.le_of_ble_eq_true rfl) (Nat.le_of_ble_eq_true rfl) (by omega) (Tf138 (by omega) i1 (0 : Int32) (3 : Int32) I _ hxr3_1) ?_
  show aGo kad d 158 (6, ([(0, .ref a0), (1, .int i1)], [])) (aMem Z Ir3_1, t) _
  refine go_ops aMi158 1 _ (f1 := (7, ([(0, .ref a0), (1, .int i1)], [.ref a0]))) rfl ?_
  obtain ⟨b7_2, hxb7_2, h⟩ := Option.bind_eq_some_iff.mp h
  refine gg_gR aMi158 rfl rfl rfl hxb7_2 ?_
  obtain ⟨b10_3, hxb10_3, h⟩ := Option.bind_eq_some_iff.mp h
  refine gg_gR aMi158 rfl rfl rfl hxb10_3 ?_
  obtain ⟨b13_4, hxb13_4, h⟩ := Option.bind_eq_some_iff.mp h
  refine gg_gR aMi158 rfl rfl rfl hxb13_4 ?_
  refine go_ops aMi158 1 _ (f1 := (17, ([(0, .ref a0), (1, .int i1)], [.int i1, .ref b13_4]))) rfl ?_
  obtain ⟨x17_5, hxx17_5, h⟩ := Option.bind_eq_some_iff.mp h
  refine gg_lI (Or.inl ⟨rfl, rfl⟩) aMi158 rfl hxx17_5 ?_
  cases h
  exact go_ret aMi158 rfl aRetI qX_ret
-- KernelGym.memory (I)I
def f159 (kad : Nat → Nat) (N : Nat) (Z : AZ) (a0 : Nat) (i1 : Int32) (I : AI) : Option ((Int32 ⊕ String) × AI) :=
  (f138 kad N Z i1 (0 : Int32) (255 : Int32) I).bind fun r5_1 =>
  xB r5_1 fun vr5_1 Ir5_1 =>
  (gR Z Ir5_1 10 3 a0).bind fun b9_2 =>
  (gR Z Ir5_1 8 1 b9_2).bind fun b12_3 =>
  (lI Z Ir5_1 100 b12_3 i1).bind fun x16_4 =>
  some (.inl x16_4, Ir5_1)
set_option maxRecDepth 20000 in
theorem Tf159 {kad : Nat → Nat} {N : Nat} {Z : AZ} {d : Nat} {t : Option Nat × (Nat × Nat)} (hd : 1 ≤ d) : ∀ (a0 : Nat) (i1 : Int32) (I : AI) (r : (Int32 ⊕ String) × AI), f159 kad N Z a0 i1 I = some r → aGo kad d 159 (0, ([(0, .ref a0), (1, .int i1)], [])) (aMem Z I, t) (qX tvI Z t r) := by
  intro a0 i1 I r h
  unfold f159 at h
  refine go_ops aMi159 3 _ (f1 := (5, ([(0, .ref a0), (1, .int i1)], [.int (255 : Int32), .int (0 : Int32), .int i1]))) rfl ?_
  obtain ⟨r5_1, hxr5_1, h⟩ := Option.bind_eq_some_iff.mp h
  rcases xB_eq h with ⟨vr5_1, Ir5_1, her5_1, h2⟩ | ⟨Er5_1, Ir5_1, her5_1, h2⟩
  rotate_left
  · clear h
    subst her5_1
    subst h2
    exact gg_cst (as := [.int i1, .int (0 : Int32), .int (255 : Int32)]) (r := []) aMi159 rfl rfl rfl aMi138 rfl (Nat.le_of_ble_eq_true rfl) (Nat.le_of_ble_eq_true rfl) (by omega) (Tf138 (by omega) i1 (0 : Int32) (255 : Int32) I _ hxr5_1) qX_thr
  clear h
  subst her5_1
  have h := h2
  clear h2
  refine gg_cs (as := [.int i1, .int (0 : Int32), .int (255 : Int32)]) (r := []) aMi159 rfl rfl rfl aMi138 rfl (Nat.le_of_ble_eq_true rfl) (Nat.le_of_ble_eq_true rfl) (by omega) (Tf138 (by omega) i1 (0 : Int32) (255 : Int32) I _ hxr5_1) ?_
  show aGo kad d 159 (8, ([(0, .ref a0), (1, .int i1)], [])) (aMem Z Ir5_1, t) _
  refine go_ops aMi159 1 _ (f1 := (9, ([(0, .ref a0), (1, .int i1)], [.ref a0]))) rfl ?_
  obtain ⟨b9_2, hxb9_2, h⟩ := Option.bind_eq_some_iff.mp h
  refine gg_gR aMi159 rfl rfl rfl hxb9_2 ?_
  obtain ⟨b12_3, hxb12_3, h⟩ := Option.bind_eq_some_iff.mp h
  refine gg_gR aMi159 rfl rfl rfl hxb12_3 ?_
  refine go_ops aMi159 1 _ (f1 := (16, ([(0, .ref a0), (1, .int i1)], [.int i1, .ref b12_3]))) rfl ?_
  obtain ⟨x16_4, hxx16_4, h⟩ := Option.bind_eq_some_iff.mp h
  refine gg_lI (Or.inl ⟨rfl, rfl⟩) aMi159 rfl hxx16_4 ?_
  cases h
  exact go_ret aMi159 rfl aRetI qX_ret
-- KernelGym.changedAt (I)I
def f160_b23 (kad : Nat → Nat) (N : Nat) (Z : AZ) : Nat → Nat → Int32 → Int32 → Int32 → AI → Option ((Int32 ⊕ String) × AI)
  | 0, _, _, _, _, _ => none
  | F + 1, a0, i1, i2, i3, I =>
    (gI Z I 10 5 a0).bind fun x26_1 =>
    if i3 < (i2 - x26_1) then
      some (.inl (Int32.ofInt (-1)), I)
    else
      (isK Z a0 10).bind fun u35_2 =>
      (f167 kad N Z a0 i3 I).bind fun r35_3 =>
      (isK Z r35_3.1 5).bind fun u39_4 =>
      (f70 kad N Z r35_3.1 i1 r35_3.2).bind fun r39_5 =>
      if r39_5.1 = 0 then
        f160_b23 kad N Z F a0 i1 i2 (i3 + (Int32.ofInt (-1))) r39_5.2
      else
        some (.inl i3, r39_5.2)
set_option maxRecDepth 20000 in
theorem Tf160_b23 {kad : Nat → Nat} {N : Nat} {Z : AZ} {d : Nat} {t : Option Nat × (Nat × Nat)} (hd : 2 ≤ d) : ∀ (F : Nat) (a0 : Nat) (i1 : Int32) (i2 : Int32) (i3 : Int32) (I : AI) (r : (Int32 ⊕ String) × AI), f160_b23 kad N Z F a0 i1 i2 i3 I = some r → aGo kad d 160 (23, ([(0, .ref a0), (1, .int i1), (2, .int i2), (3, .int i3)], [])) (aMem Z I, t) (qX tvI Z t r) := by
  intro F
  induction F with
  | zero => intro a0 i1 i2 i3 I r h; cases h
  | succ F ih =>
    intro a0 i1 i2 i3 I r h
    unfold f160_b23 at h
    refine go_ops aMi160 3 _ (f1 := (26, ([(0, .ref a0), (1, .int i1), (2, .int i2), (3, .int i3)], [.ref a0, .int i2, .int i3]))) rfl ?_
    obtain ⟨x26_1, hxx26_1, h⟩ := Option.bind_eq_some_iff.mp h
    refine gg_gI aMi160 rfl rfl rfl hxx26_1 ?_
    refine go_ops aMi160 1 _ (f1 := (30, ([(0, .ref a0), (1, .int i1), (2, .int i2), (3, .int i3)], [.int (i2 - x26_1), .int i3]))) rfl ?_
    refine gg_br (b := decide (i3 < (i2 - x26_1))) (tg := 53) (off := 23) aMi160 rfl rfl rfl rfl (fun hb => ?_) (fun hb => ?_)
    · rw [if_pos (of_decide_eq_true hb)] at h
      refine go_ops aMi160 1 _ (f1 := (54, ([(0, .ref a0), (1, .int i1), (2, .int i2), (3, .int i3)], [.int (Int32.ofInt (-1))]))) rfl ?_
      cases h
      exact go_ret aMi160 rfl aRetI qX_ret
    · rw [if_neg (of_decide_eq_false hb)] at h
      refine go_ops aMi160 2 _ (f1 := (35, ([(0, .ref a0), (1, .int i1), (2, .int i2), (3, .int i3)], [.int i3, .ref a0]))) rfl ?_
      obtain ⟨u35_2, hxu35_2, h⟩ := Option.bind_eq_some_iff.mp h
      obtain ⟨r35_3, hxr35_3, h⟩ := Option.bind_eq_some_iff.mp h
      refine gg_cv (as := [.int i3]) (r := []) aMi160 rfl rfl rfl aMi167 (Nat.le_of_ble_eq_true rfl) rfl (Nat.le_of_ble_eq_true rfl) (Nat.le_of_ble_eq_true rfl) (by omega) hxu35_2 (Tf167 (by omega) a0 i3 I _ hxr35_3) ?_
      show aGo kad d 160 (38, ([(0, .ref a0), (1, .int i1), (2, .int i2), (3, .int i3)], [.ref r35_3.1])) (aMem Z r35_3.2, t) _
      refine go_ops aMi160 1 _ (f1 := (39, ([(0, .ref a0), (1, .int i1), (2, .int i2), (3, .int i3)], [.int i1, .ref r35_3.1]))) rfl ?_
      obtain ⟨u39_4, hxu39_4, h⟩ := Option.bind_eq_some_iff.mp h
      obtain ⟨r39_5, hxr39_5, h⟩ := Option.bind_eq_some_iff.mp h
      refine gg_cv (as := [.int i1]) (r := []) aMi160 rfl rfl rfl aMi70 (Nat.le_of_ble_eq_true rfl) rfl (Nat.le_of_ble_eq_true rfl) (Nat.le_of_ble_eq_true rfl) (by omega) hxu39_4 (Tf70 (by omega) r35_3.1 i1 r35_3.2 _ hxr39_5) ?_
      show aGo kad d 160 (42, ([(0, .ref a0), (1, .int i1), (2, .int i2), (3, .int i3)], [.int r39_5.1])) (aMem Z r39_5.2, t) _
      refine gg_br (b := decide (r39_5.1 = 0)) (tg := 47) (off := 5) aMi160 rfl rfl rfl rfl (fun hb => ?_) (fun hb => ?_)
      · rw [if_pos (of_decide_eq_true hb)] at h
        refine go_ops aMi160 2 _ (f1 := (23, ([(3, .int (i3 + (Int32.ofInt (-1)))), (0, .ref a0), (1, .int i1), (2, .int i2)], []))) rfl ?_
        refine go_le (lv1 := [(0, .ref a0), (1, .int i1), (2, .int i2), (3, .int (i3 + (Int32.ofInt (-1))))]) (aLe_of (show (List.map (fun q => q.1) ([(0, .ref a0), (1, .int i1), (2, .int i2), (3, .int (i3 + (Int32.ofInt (-1))))] : ALv)).Nodup from (by show ([0, 1, 2, 3] : List Nat).Nodup; decide)) (aSubL_cons rfl (aSubL_cons rfl (aSubL_cons rfl (aSubL_cons rfl aSubL_nil))))) ?_
        exact ih a0 i1 i2 (i3 + (Int32.ofInt (-1))) r39_5.2 _ h
      · rw [if_neg (of_decide_eq_false hb)] at h
        refine go_ops aMi160 1 _ (f1 := (46, ([(0, .ref a0), (1, .int i1), (2, .int i2), (3, .int i3)], [.int i3]))) rfl ?_
        cases h
        exact go_ret aMi160 rfl aRetI qX_ret
def f160 (kad : Nat → Nat) (N : Nat) (Z : AZ) (a0 : Nat) (i1 : Int32) (I : AI) : Option ((Int32 ⊕ String) × AI) :=
  (f138 kad N Z i1 (0 : Int32) (255 : Int32) I).bind fun r5_1 =>
  xB r5_1 fun vr5_1 Ir5_1 =>
  (gR Z Ir5_1 10 3 a0).bind fun b9_2 =>
  (gR Z Ir5_1 8 0 b9_2).bind fun b12_3 =>
  (gI Z Ir5_1 2 2 b12_3).bind fun x15_4 =>
  f160_b23 kad N Z N a0 i1 x15_4 (x15_4 - (1 : Int32)) Ir5_1
set_option maxRecDepth 20000 in
theorem Tf160 {kad : Nat → Nat} {N : Nat} {Z : AZ} {d : Nat} {t : Option Nat × (Nat × Nat)} (hd : 2 ≤ d) : ∀ (a0 : Nat) (i1 : Int32) (I : AI) (r : (Int32 ⊕ String) × AI), f160 kad N Z a0 i1 I = some r → aGo kad d 160 (0, ([(0, .ref a0), (1, .int i1)], [])) (aMem Z I, t) (qX tvI Z t r) := by
  intro a0 i1 I r h
  unfold f160 at h
  refine go_ops aMi160 3 _ (f1 := (5, ([(0, .ref a0), (1, .int i1)], [.int (255 : Int32), .int (0 : Int32), .int i1]))) rfl ?_
  obtain ⟨r5_1, hxr5_1, h⟩ := Option.bind_eq_some_iff.mp h
  rcases xB_eq h with ⟨vr5_1, Ir5_1, her5_1, h2⟩ | ⟨Er5_1, Ir5_1, her5_1, h2⟩
  rotate_left
  · clear h
    subst her5_1
    subst h2
    exact gg_cst (as := [.int i1, .int (0 : Int32), .int (255 : Int32)]) (r := []) aMi160 rfl rfl rfl aMi138 rfl (Nat.le_of_ble_eq_true rfl) (Nat.le_of_ble_eq_true rfl) (by omega) (Tf138 (by omega) i1 (0 : Int32) (255 : Int32) I _ hxr5_1) qX_thr
  clear h
  subst her5_1
  have h := h2
  clear h2
  refine gg_cs (as := [.int i1, .int (0 : Int32), .int (255 : Int32)]) (r := []) aMi160 rfl rfl rfl aMi138 rfl (Nat.le_of_ble_eq_true rfl) (Nat.le_of_ble_eq_true rfl) (by omega) (Tf138 (by omega) i1 (0 : Int32) (255 : Int32) I _ hxr5_1) ?_
  show aGo kad d 160 (8, ([(0, .ref a0), (1, .int i1)], [])) (aMem Z Ir5_1, t) _
  refine go_ops aMi160 1 _ (f1 := (9, ([(0, .ref a0), (1, .int i1)], [.ref a0]))) rfl ?_
  obtain ⟨b9_2, hxb9_2, h⟩ := Option.bind_eq_some_iff.mp h
  refine gg_gR aMi160 rfl rfl rfl hxb9_2 ?_
  obtain ⟨b12_3, hxb12_3, h⟩ := Option.bind_eq_some_iff.mp h
  refine gg_gR aMi160 rfl rfl rfl hxb12_3 ?_
  obtain ⟨x15_4, hxx15_4, h⟩ := Option.bind_eq_some_iff.mp h
  refine gg_gI aMi160 rfl rfl rfl hxx15_4 ?_
  refine go_ops aMi160 5 _ (f1 := (23, ([(3, .int (x15_4 - (1 : Int32))), (2, .int x15_4), (0, .ref a0), (1, .int i1)], []))) rfl ?_
  refine go_le (lv1 := [(0, .ref a0), (1, .int i1), (2, .int x15_4), (3, .int (x15_4 - (1 : Int32)))]) (aLe_of (show (List.map (fun q => q.1) ([(0, .ref a0), (1, .int i1), (2, .int x15_4), (3, .int (x15_4 - (1 : Int32)))] : ALv)).Nodup from (by show ([0, 1, 2, 3] : List Nat).Nodup; decide)) (aSubL_cons rfl (aSubL_cons rfl (aSubL_cons rfl (aSubL_cons rfl aSubL_nil))))) ?_
  exact Tf160_b23 hd N a0 i1 x15_4 (x15_4 - (1 : Int32)) Ir5_1 _ h
-- KernelGym.tape ()I
def f161 (kad : Nat → Nat) (N : Nat) (Z : AZ) (a0 : Nat) (I : AI) : Option (Int32 × AI) :=
  (gR Z I 10 3 a0).bind fun b1_1 =>
  (gR Z I 8 0 b1_1).bind fun b4_2 =>
  (gI Z I 2 12 b4_2).bind fun x7_3 =>
  some (x7_3, I)
set_option maxRecDepth 20000 in
theorem Tf161 {kad : Nat → Nat} {N : Nat} {Z : AZ} {d : Nat} {t : Option Nat × (Nat × Nat)} (hd : 0 ≤ d) : ∀ (a0 : Nat) (I : AI) (r : Int32 × AI), f161 kad N Z a0 I = some r → aGo kad d 161 (0, ([(0, .ref a0)], [])) (aMem Z I, t) (qI Z t r) := by
  intro a0 I r h
  unfold f161 at h
  refine go_ops aMi161 1 _ (f1 := (1, ([(0, .ref a0)], [.ref a0]))) rfl ?_
  obtain ⟨b1_1, hxb1_1, h⟩ := Option.bind_eq_some_iff.mp h
  refine gg_gR aMi161 rfl rfl rfl hxb1_1 ?_
  obtain ⟨b4_2, hxb4_2, h⟩ := Option.bind_eq_some_iff.mp h
  refine gg_gR aMi161 rfl rfl rfl hxb4_2 ?_
  obtain ⟨x7_3, hxx7_3, h⟩ := Option.bind_eq_some_iff.mp h
  refine gg_gI aMi161 rfl rfl rfl hxx7_3 ?_
  cases h
  exact go_ret aMi161 rfl aRetI ⟨rfl, rfl⟩
-- KernelGym.tapeAt (I)I
def f162_b24 (kad : Nat → Nat) (N : Nat) (Z : AZ)  (I : AI) : Option ((Int32 ⊕ String) × AI) :=
  some (.inr (aEC 2), I)
set_option maxRecDepth 20000 in
theorem Tf162_b24 {kad : Nat → Nat} {N : Nat} {Z : AZ} {d : Nat} {t : Option Nat × (Nat × Nat)} (hd : 0 ≤ d) : ∀  (I : AI) (r : (Int32 ⊕ String) × AI), f162_b24 kad N Z  I = some r → aGo kad d 162 (24, ([], [])) (aMem Z I, t) (qX tvI Z t r) := by
  intro  I r h
  unfold f162_b24 at h
  cases h
  exact go_thr (E := aEC 2) aMi162 rfl rfl rfl rfl rfl rfl qX_thr
def f162 (kad : Nat → Nat) (N : Nat) (Z : AZ) (a0 : Nat) (i1 : Int32) (I : AI) : Option ((Int32 ⊕ String) × AI) :=
  if i1 < 0 then
    f162_b24 kad N Z  I
  else
    (gR Z I 10 3 a0).bind fun b6_1 =>
    (gR Z I 8 0 b6_1).bind fun b9_2 =>
    (gI Z I 2 12 b9_2).bind fun x12_3 =>
    if x12_3 ≤ i1 then
      f162_b24 kad N Z  I
    else
      if i1 < (60 : Int32) then
        (gR Z I 10 3 a0).bind fun b36_4 =>
        (gR Z I 8 2 b36_4).bind fun b39_5 =>
        (lI Z I 100 b39_5 i1).bind fun x43_6 =>
        some (.inl x43_6, I)
      else
        f162_b24 kad N Z  I
set_option maxRecDepth 20000 in
theorem Tf162 {kad : Nat → Nat} {N : Nat} {Z : AZ} {d : Nat} {t : Option Nat × (Nat × Nat)} (hd : 0 ≤ d) : ∀ (a0 : Nat) (i1 : Int32) (I : AI) (r : (Int32 ⊕ String) × AI), f162 kad N Z a0 i1 I = some r → aGo kad d 162 (0, ([(0, .ref a0), (1, .int i1)], [])) (aMem Z I, t) (qX tvI Z t r) := by
  intro a0 i1 I r h
  unfold f162 at h
  refine go_ops aMi162 1 _ (f1 := (1, ([(0, .ref a0), (1, .int i1)], [.int i1]))) rfl ?_
  refine gg_br (b := decide (i1 < 0)) (tg := 24) (off := 23) aMi162 rfl rfl rfl rfl (fun hb => ?_) (fun hb => ?_)
  · rw [if_pos (of_decide_eq_true hb)] at h
    refine go_le (lv1 := []) (aLe_of (show (List.map (fun q => q.1) ([] : ALv)).Nodup from (by show ([] : List Nat).Nodup; decide)) aSubL_nil) ?_
    exact Tf162_b24 hd  I _ h
  · rw [if_neg (of_decide_eq_false hb)] at h
    refine go_ops aMi162 2 _ (f1 := (6, ([(0, .ref a0), (1, .int i1)], [.ref a0, .int i1]))) rfl ?_
    obtain ⟨b6_1, hxb6_1, h⟩ := Option.bind_eq_some_iff.mp h
    refine gg_gR aMi162 rfl rfl rfl hxb6_1 ?_
    obtain ⟨b9_2, hxb9_2, h⟩ := Option.bind_eq_some_iff.mp h
    refine gg_gR aMi162 rfl rfl rfl hxb9_2 ?_
    obtain ⟨x12_3, hxx12_3, h⟩ := Option.bind_eq_some_iff.mp h
    refine gg_gI aMi162 rfl rfl rfl hxx12_3 ?_
    refine gg_br (b := decide (x12_3 ≤ i1)) (tg := 24) (off := 9) aMi162 rfl rfl rfl rfl (fun hb => ?_) (fun hb => ?_)
    · rw [if_pos (of_decide_eq_true hb)] at h
      refine go_le (lv1 := []) (aLe_of (show (List.map (fun q => q.1) ([] : ALv)).Nodup from (by show ([] : List Nat).Nodup; decide)) aSubL_nil) ?_
      exact Tf162_b24 hd  I _ h
    · rw [if_neg (of_decide_eq_false hb)] at h
      refine go_ops aMi162 2 _ (f1 := (21, ([(0, .ref a0), (1, .int i1)], [.int (60 : Int32), .int i1]))) rfl ?_
      refine gg_br (b := decide (i1 < (60 : Int32))) (tg := 35) (off := 14) aMi162 rfl rfl rfl rfl (fun hb => ?_) (fun hb => ?_)
      · rw [if_pos (of_decide_eq_true hb)] at h
        refine go_ops aMi162 1 _ (f1 := (36, ([(0, .ref a0), (1, .int i1)], [.ref a0]))) rfl ?_
        obtain ⟨b36_4, hxb36_4, h⟩ := Option.bind_eq_some_iff.mp h
        refine gg_gR aMi162 rfl rfl rfl hxb36_4 ?_
        obtain ⟨b39_5, hxb39_5, h⟩ := Option.bind_eq_some_iff.mp h
        refine gg_gR aMi162 rfl rfl rfl hxb39_5 ?_
        refine go_ops aMi162 1 _ (f1 := (43, ([(0, .ref a0), (1, .int i1)], [.int i1, .ref b39_5]))) rfl ?_
        obtain ⟨x43_6, hxx43_6, h⟩ := Option.bind_eq_some_iff.mp h
        refine gg_lI (Or.inl ⟨rfl, rfl⟩) aMi162 rfl hxx43_6 ?_
        cases h
        exact go_ret aMi162 rfl aRetI qX_ret
      · rw [if_neg (of_decide_eq_false hb)] at h
        refine go_le (lv1 := []) (aLe_of (show (List.map (fun q => q.1) ([] : ALv)).Nodup from (by show ([] : List Nat).Nodup; decide)) aSubL_nil) ?_
        exact Tf162_b24 hd  I _ h
-- KernelGym.sum ()I
def f163 (kad : Nat → Nat) (N : Nat) (Z : AZ) (a0 : Nat) (I : AI) : Option (Int32 × AI) :=
  (gR Z I 10 3 a0).bind fun b1_1 =>
  (isK Z b1_1 8).bind fun u4_2 =>
  (f112 kad N Z b1_1 I).bind fun r4_3 =>
  some (r4_3.1, r4_3.2)
set_option maxRecDepth 20000 in
theorem Tf163 {kad : Nat → Nat} {N : Nat} {Z : AZ} {d : Nat} {t : Option Nat × (Nat × Nat)} (hd : 3 ≤ d) : ∀ (a0 : Nat) (I : AI) (r : Int32 × AI), f163 kad N Z a0 I = some r → aGo kad d 163 (0, ([(0, .ref a0)], [])) (aMem Z I, t) (qI Z t r) := by
  intro a0 I r h
  unfold f163 at h
  refine go_ops aMi163 1 _ (f1 := (1, ([(0, .ref a0)], [.ref a0]))) rfl ?_
  obtain ⟨b1_1, hxb1_1, h⟩ := Option.bind_eq_some_iff.mp h
  refine gg_gR aMi163 rfl rfl rfl hxb1_1 ?_
  obtain ⟨u4_2, hxu4_2, h⟩ := Option.bind_eq_some_iff.mp h
  obtain ⟨r4_3, hxr4_3, h⟩ := Option.bind_eq_some_iff.mp h
  refine gg_cv (as := []) (r := []) aMi163 rfl rfl rfl aMi112 (Nat.le_of_ble_eq_true rfl) rfl (Nat.le_of_ble_eq_true rfl) (Nat.le_of_ble_eq_true rfl) (by omega) hxu4_2 (Tf112 (by omega) b1_1 I _ hxr4_3) ?_
  show aGo kad d 163 (7, ([(0, .ref a0)], [.int r4_3.1])) (aMem Z r4_3.2, t) _
  cases h
  exact go_ret aMi163 rfl aRetI ⟨rfl, rfl⟩
-- KernelGym.sumAnew (I)I
def f164_b104 (kad : Nat → Nat) (N : Nat) (Z : AZ) (a0 : Nat) (I : AI) : Option ((Int32 ⊕ String) × AI) :=
  (gR Z I 10 8 a0).bind fun b105_1 =>
  (isK Z b105_1 8).bind fun u108_2 =>
  (f112 kad N Z b105_1 I).bind fun r108_3 =>
  some (.inl r108_3.1, r108_3.2)
set_option maxRecDepth 20000 in
theorem Tf164_b104 {kad : Nat → Nat} {N : Nat} {Z : AZ} {d : Nat} {t : Option Nat × (Nat × Nat)} (hd : 10 ≤ d) : ∀ (a0 : Nat) (I : AI) (r : (Int32 ⊕ String) × AI), f164_b104 kad N Z a0 I = some r → aGo kad d 164 (104, ([(0, .ref a0)], [])) (aMem Z I, t) (qX tvI Z t r) := by
  intro a0 I r h
  unfold f164_b104 at h
  refine go_ops aMi164 1 _ (f1 := (105, ([(0, .ref a0)], [.ref a0]))) rfl ?_
  obtain ⟨b105_1, hxb105_1, h⟩ := Option.bind_eq_some_iff.mp h
  refine gg_gR aMi164 rfl rfl rfl hxb105_1 ?_
  obtain ⟨u108_2, hxu108_2, h⟩ := Option.bind_eq_some_iff.mp h
  obtain ⟨r108_3, hxr108_3, h⟩ := Option.bind_eq_some_iff.mp h
  refine gg_cv (as := []) (r := []) aMi164 rfl rfl rfl aMi112 (Nat.le_of_ble_eq_true rfl) rfl (Nat.le_of_ble_eq_true rfl) (Nat.le_of_ble_eq_true rfl) (by omega) hxu108_2 (Tf112 (by omega) b105_1 I _ hxr108_3) ?_
  show aGo kad d 164 (111, ([(0, .ref a0)], [.int r108_3.1])) (aMem Z r108_3.2, t) _
  cases h
  exact go_ret aMi164 rfl aRetI qX_ret
def f164_b72 (kad : Nat → Nat) (N : Nat) (Z : AZ) : Nat → Nat → Int32 → Int32 → AI → Option ((Int32 ⊕ String) × AI)
  | 0, _, _, _, _ => none
  | F + 1, a0, i1, i2, I =>
    if i1 ≤ i2 then
      f164_b104 kad N Z a0 I
    else
      (gR Z I 10 8 a0).bind fun b78_1 =>
      (isK Z b78_1 8).bind fun u81_2 =>
      (f82 kad N Z b78_1 I).bind fun r81_3 =>
      if r81_3.1 = 0 then
        f164_b104 kad N Z a0 r81_3.2
      else
        (gR Z r81_3.2 10 8 a0).bind fun b88_4 =>
        (gR Z r81_3.2 10 9 a0).bind fun b92_5 =>
        (isK Z b88_4 8).bind fun u95_6 =>
        (f83 kad N Z b88_4 b92_5 r81_3.2).bind fun r95_7 =>
        f164_b72 kad N Z F a0 i1 (i2 + (1 : Int32)) r95_7.2
set_option maxRecDepth 20000 in
theorem Tf164_b72 {kad : Nat → Nat} {N : Nat} {Z : AZ} {d : Nat} {t : Option Nat × (Nat × Nat)} (hd : 10 ≤ d) : ∀ (F : Nat) (a0 : Nat) (i1 : Int32) (i2 : Int32) (I : AI) (r : (Int32 ⊕ String) × AI), f164_b72 kad N Z F a0 i1 i2 I = some r → aGo kad d 164 (72, ([(0, .ref a0), (1, .int i1), (2, .int i2)], [])) (aMem Z I, t) (qX tvI Z t r) := by
  intro F
  induction F with
  | zero => intro a0 i1 i2 I r h; cases h
  | succ F ih =>
    intro a0 i1 i2 I r h
    unfold f164_b72 at h
    refine go_ops aMi164 2 _ (f1 := (74, ([(0, .ref a0), (1, .int i1), (2, .int i2)], [.int i1, .int i2]))) rfl ?_
    refine gg_br (b := decide (i1 ≤ i2)) (tg := 104) (off := 30) aMi164 rfl rfl rfl rfl (fun hb => ?_) (fun hb => ?_)
    · rw [if_pos (of_decide_eq_true hb)] at h
      refine go_le (lv1 := [(0, .ref a0)]) (aLe_of (show (List.map (fun q => q.1) ([(0, .ref a0)] : ALv)).Nodup from (by show ([0] : List Nat).Nodup; decide)) (aSubL_cons rfl aSubL_nil)) ?_
      exact Tf164_b104 hd a0 I _ h
    · rw [if_neg (of_decide_eq_false hb)] at h
      refine go_ops aMi164 1 _ (f1 := (78, ([(0, .ref a0), (1, .int i1), (2, .int i2)], [.ref a0]))) rfl ?_
      obtain ⟨b78_1, hxb78_1, h⟩ := Option.bind_eq_some_iff.mp h
      refine gg_gR aMi164 rfl rfl rfl hxb78_1 ?_
      obtain ⟨u81_2, hxu81_2, h⟩ := Option.bind_eq_some_iff.mp h
      obtain ⟨r81_3, hxr81_3, h⟩ := Option.bind_eq_some_iff.mp h
      refine gg_cv (as := []) (r := []) aMi164 rfl rfl rfl aMi82 (Nat.le_of_ble_eq_true rfl) rfl (Nat.le_of_ble_eq_true rfl) (Nat.le_of_ble_eq_true rfl) (by omega) hxu81_2 (Tf82 (by omega) b78_1 I _ hxr81_3) ?_
      show aGo kad d 164 (84, ([(0, .ref a0), (1, .int i1), (2, .int i2)], [.int r81_3.1])) (aMem Z r81_3.2, t) _
      refine gg_br (b := decide (r81_3.1 = 0)) (tg := 104) (off := 20) aMi164 rfl rfl rfl rfl (fun hb => ?_) (fun hb => ?_)
      · rw [if_pos (of_decide_eq_true hb)] at h
        refine go_le (lv1 := [(0, .ref a0)]) (aLe_of (show (List.map (fun q => q.1) ([(0, .ref a0)] : ALv)).Nodup from (by show ([0] : List Nat).Nodup; decide)) (aSubL_cons rfl aSubL_nil)) ?_
        exact Tf164_b104 hd a0 r81_3.2 _ h
      · rw [if_neg (of_decide_eq_false hb)] at h
        refine go_ops aMi164 1 _ (f1 := (88, ([(0, .ref a0), (1, .int i1), (2, .int i2)], [.ref a0]))) rfl ?_
        obtain ⟨b88_4, hxb88_4, h⟩ := Option.bind_eq_some_iff.mp h
        refine gg_gR aMi164 rfl rfl rfl hxb88_4 ?_
        refine go_ops aMi164 1 _ (f1 := (92, ([(0, .ref a0), (1, .int i1), (2, .int i2)], [.ref a0, .ref b88_4]))) rfl ?_
        obtain ⟨b92_5, hxb92_5, h⟩ := Option.bind_eq_some_iff.mp h
        refine gg_gR aMi164 rfl rfl rfl hxb92_5 ?_
        obtain ⟨u95_6, hxu95_6, h⟩ := Option.bind_eq_some_iff.mp h
        obtain ⟨r95_7, hxr95_7, h⟩ := Option.bind_eq_some_iff.mp h
        refine gg_cv (as := [.ref b92_5]) (r := []) aMi164 rfl rfl rfl aMi83 (Nat.le_of_ble_eq_true rfl) rfl (Nat.le_of_ble_eq_true rfl) (Nat.le_of_ble_eq_true rfl) (by omega) hxu95_6 (Tf83 (by omega) b88_4 b92_5 r81_3.2 _ hxr95_7) ?_
        show aGo kad d 164 (98, ([(0, .ref a0), (1, .int i1), (2, .int i2)], [])) (aMem Z r95_7.2, t) _
        refine go_ops aMi164 2 _ (f1 := (72, ([(2, .int (i2 + (1 : Int32))), (0, .ref a0), (1, .int i1)], []))) rfl ?_
        refine go_le (lv1 := [(0, .ref a0), (1, .int i1), (2, .int (i2 + (1 : Int32)))]) (aLe_of (show (List.map (fun q => q.1) ([(0, .ref a0), (1, .int i1), (2, .int (i2 + (1 : Int32)))] : ALv)).Nodup from (by show ([0, 1, 2] : List Nat).Nodup; decide)) (aSubL_cons rfl (aSubL_cons rfl (aSubL_cons rfl aSubL_nil)))) ?_
        exact ih a0 i1 (i2 + (1 : Int32)) r95_7.2 _ h
def f164 (kad : Nat → Nat) (N : Nat) (Z : AZ) (a0 : Nat) (i1 : Int32) (I : AI) : Option ((Int32 ⊕ String) × AI) :=
  (isK Z a0 10).bind fun u1_1 =>
  (f165 kad N Z a0 I).bind fun r1_2 =>
  xB r1_2 fun vr1_2 Ir1_2 =>
  (gR Z Ir1_2 10 3 a0).bind fun b7_3 =>
  (gR Z Ir1_2 8 0 b7_3).bind fun b10_4 =>
  (gI Z Ir1_2 2 2 b10_4).bind fun x13_5 =>
  (f138 kad N Z i1 (0 : Int32) x13_5 Ir1_2).bind fun r16_6 =>
  xB r16_6 fun vr16_6 Ir16_6 =>
  (gR Z Ir16_6 10 7 a0).bind fun b20_7 =>
  (gR Z Ir16_6 10 8 a0).bind fun b25_8 =>
  (gR Z Ir16_6 8 3 b25_8).bind fun b28_9 =>
  (gR Z Ir16_6 3 0 b28_9).bind fun b31_10 =>
  (cI Z Ir16_6 b20_7 (0 : Int32) b31_10 (0 : Int32) (256 : Int32)).bind fun I38_11 =>
  (gR Z I38_11 10 8 a0).bind fun b42_12 =>
  (gR Z I38_11 8 4 b42_12).bind fun b45_13 =>
  (gR Z I38_11 10 3 a0).bind fun b49_14 =>
  (gR Z I38_11 8 4 b49_14).bind fun b52_15 =>
  (isK Z b45_13 6).bind fun u55_16 =>
  (f73 kad N Z b45_13 b52_15 I38_11).bind fun r55_17 =>
  (gR Z r55_17.2 10 8 a0).bind fun b59_18 =>
  (gR Z r55_17.2 10 6 a0).bind fun b63_19 =>
  (isK Z b59_18 8).bind fun u66_20 =>
  (f80 kad N Z b59_18 b63_19 r55_17.2).bind fun r66_21 =>
  f164_b72 kad N Z N a0 i1 (0 : Int32) r66_21.2
set_option maxRecDepth 20000 in
theorem Tf164 {kad : Nat → Nat} {N : Nat} {Z : AZ} {d : Nat} {t : Option Nat × (Nat × Nat)} (hd : 10 ≤ d) : ∀ (a0 : Nat) (i1 : Int32) (I : AI) (r : (Int32 ⊕ String) × AI), f164 kad N Z a0 i1 I = some r → aGo kad d 164 (0, ([(0, .ref a0), (1, .int i1)], [])) (aMem Z I, t) (qX tvI Z t r) := by
  intro a0 i1 I r h
  unfold f164 at h
  refine go_ops aMi164 1 _ (f1 := (1, ([(0, .ref a0), (1, .int i1)], [.ref a0]))) rfl ?_
  obtain ⟨u1_1, hxu1_1, h⟩ := Option.bind_eq_some_iff.mp h
  obtain ⟨r1_2, hxr1_2, h⟩ := Option.bind_eq_some_iff.mp h
  rcases xB_eq h with ⟨vr1_2, Ir1_2, her1_2, h2⟩ | ⟨Er1_2, Ir1_2, her1_2, h2⟩
  rotate_left
  · clear h
    subst her1_2
    subst h2
    exact gg_cvt (as := []) (r := []) aMi164 rfl rfl rfl aMi165 (Nat.le_of_ble_eq_true rfl) rfl (Nat.le_of_ble_eq_true rfl) (Nat.le_of_ble_eq_true rfl) (by omega) hxu1_1 (Tf165 (by omega) a0 I _ hxr1_2) qX_thr
  clear h
  subst her1_2
  have h := h2
  clear h2
  refine gg_cv (as := []) (r := []) aMi164 rfl rfl rfl aMi165 (Nat.le_of_ble_eq_true rfl) rfl (Nat.le_of_ble_eq_true rfl) (Nat.le_of_ble_eq_true rfl) (by omega) hxu1_1 (Tf165 (by omega) a0 I _ hxr1_2) ?_
  show aGo kad d 164 (4, ([(0, .ref a0), (1, .int i1)], [])) (aMem Z Ir1_2, t) _
  refine go_ops aMi164 3 _ (f1 := (7, ([(0, .ref a0), (1, .int i1)], [.ref a0, .int (0 : Int32), .int i1]))) rfl ?_
  obtain ⟨b7_3, hxb7_3, h⟩ := Option.bind_eq_some_iff.mp h
  refine gg_gR aMi164 rfl rfl rfl hxb7_3 ?_
  obtain ⟨b10_4, hxb10_4, h⟩ := Option.bind_eq_some_iff.mp h
  refine gg_gR aMi164 rfl rfl rfl hxb10_4 ?_
  obtain ⟨x13_5, hxx13_5, h⟩ := Option.bind_eq_some_iff.mp h
  refine gg_gI aMi164 rfl rfl rfl hxx13_5 ?_
  obtain ⟨r16_6, hxr16_6, h⟩ := Option.bind_eq_some_iff.mp h
  rcases xB_eq h with ⟨vr16_6, Ir16_6, her16_6, h2⟩ | ⟨Er16_6, Ir16_6, her16_6, h2⟩
  rotate_left
  · clear h
    subst her16_6
    subst h2
    exact gg_cst (as := [.int i1, .int (0 : Int32), .int x13_5]) (r := []) aMi164 rfl rfl rfl aMi138 rfl (Nat.le_of_ble_eq_true rfl) (Nat.le_of_ble_eq_true rfl) (by omega) (Tf138 (by omega) i1 (0 : Int32) x13_5 Ir1_2 _ hxr16_6) qX_thr
  clear h
  subst her16_6
  have h := h2
  clear h2
  refine gg_cs (as := [.int i1, .int (0 : Int32), .int x13_5]) (r := []) aMi164 rfl rfl rfl aMi138 rfl (Nat.le_of_ble_eq_true rfl) (Nat.le_of_ble_eq_true rfl) (by omega) (Tf138 (by omega) i1 (0 : Int32) x13_5 Ir1_2 _ hxr16_6) ?_
  show aGo kad d 164 (19, ([(0, .ref a0), (1, .int i1)], [])) (aMem Z Ir16_6, t) _
  refine go_ops aMi164 1 _ (f1 := (20, ([(0, .ref a0), (1, .int i1)], [.ref a0]))) rfl ?_
  obtain ⟨b20_7, hxb20_7, h⟩ := Option.bind_eq_some_iff.mp h
  refine gg_gR aMi164 rfl rfl rfl hxb20_7 ?_
  refine go_ops aMi164 2 _ (f1 := (25, ([(0, .ref a0), (1, .int i1)], [.ref a0, .int (0 : Int32), .ref b20_7]))) rfl ?_
  obtain ⟨b25_8, hxb25_8, h⟩ := Option.bind_eq_some_iff.mp h
  refine gg_gR aMi164 rfl rfl rfl hxb25_8 ?_
  obtain ⟨b28_9, hxb28_9, h⟩ := Option.bind_eq_some_iff.mp h
  refine gg_gR aMi164 rfl rfl rfl hxb28_9 ?_
  obtain ⟨b31_10, hxb31_10, h⟩ := Option.bind_eq_some_iff.mp h
  refine gg_gR aMi164 rfl rfl rfl hxb31_10 ?_
  refine go_ops aMi164 2 _ (f1 := (38, ([(0, .ref a0), (1, .int i1)], [.int (256 : Int32), .int (0 : Int32), .ref b31_10, .int (0 : Int32), .ref b20_7]))) rfl ?_
  obtain ⟨I38_11, hxI38_11, h⟩ := Option.bind_eq_some_iff.mp h
  refine gg_cp aMi164 rfl rfl (Nat.le_of_ble_eq_true rfl) hxI38_11 ?_
  refine go_ops aMi164 1 _ (f1 := (42, ([(0, .ref a0), (1, .int i1)], [.ref a0]))) rfl ?_
  obtain ⟨b42_12, hxb42_12, h⟩ := Option.bind_eq_some_iff.mp h
  refine gg_gR aMi164 rfl rfl rfl hxb42_12 ?_
  obtain ⟨b45_13, hxb45_13, h⟩ := Option.bind_eq_some_iff.mp h
  refine gg_gR aMi164 rfl rfl rfl hxb45_13 ?_
  refine go_ops aMi164 1 _ (f1 := (49, ([(0, .ref a0), (1, .int i1)], [.ref a0, .ref b45_13]))) rfl ?_
  obtain ⟨b49_14, hxb49_14, h⟩ := Option.bind_eq_some_iff.mp h
  refine gg_gR aMi164 rfl rfl rfl hxb49_14 ?_
  obtain ⟨b52_15, hxb52_15, h⟩ := Option.bind_eq_some_iff.mp h
  refine gg_gR aMi164 rfl rfl rfl hxb52_15 ?_
  obtain ⟨u55_16, hxu55_16, h⟩ := Option.bind_eq_some_iff.mp h
  obtain ⟨r55_17, hxr55_17, h⟩ := Option.bind_eq_some_iff.mp h
  refine gg_cv (as := [.ref b52_15]) (r := []) aMi164 rfl rfl rfl aMi73 (Nat.le_of_ble_eq_true rfl) rfl (Nat.le_of_ble_eq_true rfl) (Nat.le_of_ble_eq_true rfl) (by omega) hxu55_16 (Tf73 (by omega) b45_13 b52_15 I38_11 _ hxr55_17) ?_
  show aGo kad d 164 (58, ([(0, .ref a0), (1, .int i1)], [])) (aMem Z r55_17.2, t) _
  refine go_ops aMi164 1 _ (f1 := (59, ([(0, .ref a0), (1, .int i1)], [.ref a0]))) rfl ?_
  obtain ⟨b59_18, hxb59_18, h⟩ := Option.bind_eq_some_iff.mp h
  refine gg_gR aMi164 rfl rfl rfl hxb59_18 ?_
  refine go_ops aMi164 1 _ (f1 := (63, ([(0, .ref a0), (1, .int i1)], [.ref a0, .ref b59_18]))) rfl ?_
  obtain ⟨b63_19, hxb63_19, h⟩ := Option.bind_eq_some_iff.mp h
  refine gg_gR aMi164 rfl rfl rfl hxb63_19 ?_
  obtain ⟨u66_20, hxu66_20, h⟩ := Option.bind_eq_some_iff.mp h
  obtain ⟨r66_21, hxr66_21, h⟩ := Option.bind_eq_some_iff.mp h
  refine gg_cv (as := [.ref b63_19]) (r := []) aMi164 rfl rfl rfl aMi80 (Nat.le_of_ble_eq_true rfl) rfl (Nat.le_of_ble_eq_true rfl) (Nat.le_of_ble_eq_true rfl) (by omega) hxu66_20 (Tf80 (by omega) b59_18 b63_19 r55_17.2 _ hxr66_21) ?_
  show aGo kad d 164 (69, ([(0, .ref a0), (1, .int i1)], [.int r66_21.1])) (aMem Z r66_21.2, t) _
  refine go_ops aMi164 3 _ (f1 := (72, ([(2, .int (0 : Int32)), (0, .ref a0), (1, .int i1)], []))) rfl ?_
  refine go_le (lv1 := [(0, .ref a0), (1, .int i1), (2, .int (0 : Int32))]) (aLe_of (show (List.map (fun q => q.1) ([(0, .ref a0), (1, .int i1), (2, .int (0 : Int32))] : ALv)).Nodup from (by show ([0, 1, 2] : List Nat).Nodup; decide)) (aSubL_cons rfl (aSubL_cons rfl (aSubL_cons rfl aSubL_nil)))) ?_
  exact Tf164_b72 hd N a0 i1 (0 : Int32) r66_21.2 _ h
-- KernelGym.written ()I
def f168 (kad : Nat → Nat) (N : Nat) (Z : AZ) (a0 : Nat) (I : AI) : Option (Int32 × AI) :=
  (gR Z I 10 3 a0).bind fun b1_1 =>
  (gR Z I 8 3 b1_1).bind fun b4_2 =>
  (gI Z I 3 1 b4_2).bind fun x7_3 =>
  some (x7_3, I)
set_option maxRecDepth 20000 in
theorem Tf168 {kad : Nat → Nat} {N : Nat} {Z : AZ} {d : Nat} {t : Option Nat × (Nat × Nat)} (hd : 0 ≤ d) : ∀ (a0 : Nat) (I : AI) (r : Int32 × AI), f168 kad N Z a0 I = some r → aGo kad d 168 (0, ([(0, .ref a0)], [])) (aMem Z I, t) (qI Z t r) := by
  intro a0 I r h
  unfold f168 at h
  refine go_ops aMi168 1 _ (f1 := (1, ([(0, .ref a0)], [.ref a0]))) rfl ?_
  obtain ⟨b1_1, hxb1_1, h⟩ := Option.bind_eq_some_iff.mp h
  refine gg_gR aMi168 rfl rfl rfl hxb1_1 ?_
  obtain ⟨b4_2, hxb4_2, h⟩ := Option.bind_eq_some_iff.mp h
  refine gg_gR aMi168 rfl rfl rfl hxb4_2 ?_
  obtain ⟨x7_3, hxx7_3, h⟩ := Option.bind_eq_some_iff.mp h
  refine gg_gI aMi168 rfl rfl rfl hxx7_3 ?_
  cases h
  exact go_ret aMi168 rfl aRetI ⟨rfl, rfl⟩
-- KernelGym.disk (II)I
def f169 (kad : Nat → Nat) (N : Nat) (Z : AZ) (a0 : Nat) (i1 : Int32) (i2 : Int32) (I : AI) : Option ((Int32 ⊕ String) × AI) :=
  (f138 kad N Z i1 (0 : Int32) (31 : Int32) I).bind fun r4_1 =>
  xB r4_1 fun vr4_1 Ir4_1 =>
  (f138 kad N Z i2 (0 : Int32) (7 : Int32) Ir4_1).bind fun r11_2 =>
  xB r11_2 fun vr11_2 Ir11_2 =>
  (gR Z Ir11_2 10 3 a0).bind fun b15_3 =>
  (gR Z Ir11_2 8 3 b15_3).bind fun b18_4 =>
  (isK Z b18_4 3).bind fun u23_5 =>
  (f43 kad N Z b18_4 i1 i2 Ir11_2).bind fun r23_6 =>
  some (.inl r23_6.1, r23_6.2)
set_option maxRecDepth 20000 in
theorem Tf169 {kad : Nat → Nat} {N : Nat} {Z : AZ} {d : Nat} {t : Option Nat × (Nat × Nat)} (hd : 1 ≤ d) : ∀ (a0 : Nat) (i1 : Int32) (i2 : Int32) (I : AI) (r : (Int32 ⊕ String) × AI), f169 kad N Z a0 i1 i2 I = some r → aGo kad d 169 (0, ([(0, .ref a0), (1, .int i1), (2, .int i2)], [])) (aMem Z I, t) (qX tvI Z t r) := by
  intro a0 i1 i2 I r h
  unfold f169 at h
  refine go_ops aMi169 3 _ (f1 := (4, ([(0, .ref a0), (1, .int i1), (2, .int i2)], [.int (31 : Int32), .int (0 : Int32), .int i1]))) rfl ?_
  obtain ⟨r4_1, hxr4_1, h⟩ := Option.bind_eq_some_iff.mp h
  rcases xB_eq h with ⟨vr4_1, Ir4_1, her4_1, h2⟩ | ⟨Er4_1, Ir4_1, her4_1, h2⟩
  rotate_left
  · clear h
    subst her4_1
    subst h2
    exact gg_cst (as := [.int i1, .int (0 : Int32), .int (31 : Int32)]) (r := []) aMi169 rfl rfl rfl aMi138 rfl (Nat.le_of_ble_eq_true rfl) (Nat.le_of_ble_eq_true rfl) (by omega) (Tf138 (by omega) i1 (0 : Int32) (31 : Int32) I _ hxr4_1) qX_thr
  clear h
  subst her4_1
  have h := h2
  clear h2
  refine gg_cs (as := [.int i1, .int (0 : Int32), .int (31 : Int32)]) (r := []) aMi169 rfl rfl rfl aMi138 rfl (Nat.le_of_ble_eq_true rfl) (Nat.le_of_ble_eq_true rfl) (by omega) (Tf138 (by omega) i1 (0 : Int32) (31 : Int32) I _ hxr4_1) ?_
  show aGo kad d 169 (7, ([(0, .ref a0), (1, .int i1), (2, .int i2)], [])) (aMem Z Ir4_1, t) _
  refine go_ops aMi169 3 _ (f1 := (11, ([(0, .ref a0), (1, .int i1), (2, .int i2)], [.int (7 : Int32), .int (0 : Int32), .int i2]))) rfl ?_
  obtain ⟨r11_2, hxr11_2, h⟩ := Option.bind_eq_some_iff.mp h
  rcases xB_eq h with ⟨vr11_2, Ir11_2, her11_2, h2⟩ | ⟨Er11_2, Ir11_2, her11_2, h2⟩
  rotate_left
  · clear h
    subst her11_2
    subst h2
    exact gg_cst (as := [.int i2, .int (0 : Int32), .int (7 : Int32)]) (r := []) aMi169 rfl rfl rfl aMi138 rfl (Nat.le_of_ble_eq_true rfl) (Nat.le_of_ble_eq_true rfl) (by omega) (Tf138 (by omega) i2 (0 : Int32) (7 : Int32) Ir4_1 _ hxr11_2) qX_thr
  clear h
  subst her11_2
  have h := h2
  clear h2
  refine gg_cs (as := [.int i2, .int (0 : Int32), .int (7 : Int32)]) (r := []) aMi169 rfl rfl rfl aMi138 rfl (Nat.le_of_ble_eq_true rfl) (Nat.le_of_ble_eq_true rfl) (by omega) (Tf138 (by omega) i2 (0 : Int32) (7 : Int32) Ir4_1 _ hxr11_2) ?_
  show aGo kad d 169 (14, ([(0, .ref a0), (1, .int i1), (2, .int i2)], [])) (aMem Z Ir11_2, t) _
  refine go_ops aMi169 1 _ (f1 := (15, ([(0, .ref a0), (1, .int i1), (2, .int i2)], [.ref a0]))) rfl ?_
  obtain ⟨b15_3, hxb15_3, h⟩ := Option.bind_eq_some_iff.mp h
  refine gg_gR aMi169 rfl rfl rfl hxb15_3 ?_
  obtain ⟨b18_4, hxb18_4, h⟩ := Option.bind_eq_some_iff.mp h
  refine gg_gR aMi169 rfl rfl rfl hxb18_4 ?_
  refine go_ops aMi169 2 _ (f1 := (23, ([(0, .ref a0), (1, .int i1), (2, .int i2)], [.int i2, .int i1, .ref b18_4]))) rfl ?_
  obtain ⟨u23_5, hxu23_5, h⟩ := Option.bind_eq_some_iff.mp h
  obtain ⟨r23_6, hxr23_6, h⟩ := Option.bind_eq_some_iff.mp h
  refine gg_cv (as := [.int i1, .int i2]) (r := []) aMi169 rfl rfl rfl aMi43 (Nat.le_of_ble_eq_true rfl) rfl (Nat.le_of_ble_eq_true rfl) (Nat.le_of_ble_eq_true rfl) (by omega) hxu23_5 (Tf43 (by omega) b18_4 i1 i2 Ir11_2 _ hxr23_6) ?_
  show aGo kad d 169 (26, ([(0, .ref a0), (1, .int i1), (2, .int i2)], [.int r23_6.1])) (aMem Z r23_6.2, t) _
  cases h
  exact go_ret aMi169 rfl aRetI qX_ret
-- KernelGym.files ()I
def f170 (kad : Nat → Nat) (N : Nat) (Z : AZ) (a0 : Nat) (I : AI) : Option (Int32 × AI) :=
  (gR Z I 10 3 a0).bind fun b1_1 =>
  (gR Z I 8 3 b1_1).bind fun b4_2 =>
  (isK Z b4_2 3).bind fun u7_3 =>
  (f52 kad N Z b4_2 I).bind fun r7_4 =>
  some (r7_4.1, r7_4.2)
set_option maxRecDepth 20000 in
theorem Tf170 {kad : Nat → Nat} {N : Nat} {Z : AZ} {d : Nat} {t : Option Nat × (Nat × Nat)} (hd : 3 ≤ d) : ∀ (a0 : Nat) (I : AI) (r : Int32 × AI), f170 kad N Z a0 I = some r → aGo kad d 170 (0, ([(0, .ref a0)], [])) (aMem Z I, t) (qI Z t r) := by
  intro a0 I r h
  unfold f170 at h
  refine go_ops aMi170 1 _ (f1 := (1, ([(0, .ref a0)], [.ref a0]))) rfl ?_
  obtain ⟨b1_1, hxb1_1, h⟩ := Option.bind_eq_some_iff.mp h
  refine gg_gR aMi170 rfl rfl rfl hxb1_1 ?_
  obtain ⟨b4_2, hxb4_2, h⟩ := Option.bind_eq_some_iff.mp h
  refine gg_gR aMi170 rfl rfl rfl hxb4_2 ?_
  obtain ⟨u7_3, hxu7_3, h⟩ := Option.bind_eq_some_iff.mp h
  obtain ⟨r7_4, hxr7_4, h⟩ := Option.bind_eq_some_iff.mp h
  refine gg_cv (as := []) (r := []) aMi170 rfl rfl rfl aMi52 (Nat.le_of_ble_eq_true rfl) rfl (Nat.le_of_ble_eq_true rfl) (Nat.le_of_ble_eq_true rfl) (by omega) hxu7_3 (Tf52 (by omega) b4_2 I _ hxr7_4) ?_
  show aGo kad d 170 (10, ([(0, .ref a0)], [.int r7_4.1])) (aMem Z r7_4.2, t) _
  cases h
  exact go_ret aMi170 rfl aRetI ⟨rfl, rfl⟩
-- KernelGym.freeBlocks ()I
def f173 (kad : Nat → Nat) (N : Nat) (Z : AZ) (a0 : Nat) (I : AI) : Option (Int32 × AI) :=
  (gR Z I 10 3 a0).bind fun b1_1 =>
  (gR Z I 8 3 b1_1).bind fun b4_2 =>
  (isK Z b4_2 3).bind fun u7_3 =>
  (f57 kad N Z b4_2 I).bind fun r7_4 =>
  some (r7_4.1, r7_4.2)
set_option maxRecDepth 20000 in
theorem Tf173 {kad : Nat → Nat} {N : Nat} {Z : AZ} {d : Nat} {t : Option Nat × (Nat × Nat)} (hd : 3 ≤ d) : ∀ (a0 : Nat) (I : AI) (r : Int32 × AI), f173 kad N Z a0 I = some r → aGo kad d 173 (0, ([(0, .ref a0)], [])) (aMem Z I, t) (qI Z t r) := by
  intro a0 I r h
  unfold f173 at h
  refine go_ops aMi173 1 _ (f1 := (1, ([(0, .ref a0)], [.ref a0]))) rfl ?_
  obtain ⟨b1_1, hxb1_1, h⟩ := Option.bind_eq_some_iff.mp h
  refine gg_gR aMi173 rfl rfl rfl hxb1_1 ?_
  obtain ⟨b4_2, hxb4_2, h⟩ := Option.bind_eq_some_iff.mp h
  refine gg_gR aMi173 rfl rfl rfl hxb4_2 ?_
  obtain ⟨u7_3, hxu7_3, h⟩ := Option.bind_eq_some_iff.mp h
  obtain ⟨r7_4, hxr7_4, h⟩ := Option.bind_eq_some_iff.mp h
  refine gg_cv (as := []) (r := []) aMi173 rfl rfl rfl aMi57 (Nat.le_of_ble_eq_true rfl) rfl (Nat.le_of_ble_eq_true rfl) (Nat.le_of_ble_eq_true rfl) (by omega) hxu7_3 (Tf57 (by omega) b4_2 I _ hxr7_4) ?_
  show aGo kad d 173 (10, ([(0, .ref a0)], [.int r7_4.1])) (aMem Z r7_4.2, t) _
  cases h
  exact go_ret aMi173 rfl aRetI ⟨rfl, rfl⟩
-- KernelGym.isWhole ()Z
def f174 (kad : Nat → Nat) (N : Nat) (Z : AZ) (a0 : Nat) (I : AI) : Option (Int32 × AI) :=
  (gR Z I 10 3 a0).bind fun b1_1 =>
  (gR Z I 8 3 b1_1).bind fun b4_2 =>
  (isK Z b4_2 3).bind fun u7_3 =>
  (f58 kad N Z b4_2 I).bind fun r7_4 =>
  if r7_4.1 = 0 ∨ r7_4.1 = 1 then some (r7_4.1, r7_4.2) else none
set_option maxRecDepth 20000 in
theorem Tf174 {kad : Nat → Nat} {N : Nat} {Z : AZ} {d : Nat} {t : Option Nat × (Nat × Nat)} (hd : 5 ≤ d) : ∀ (a0 : Nat) (I : AI) (r : Int32 × AI), f174 kad N Z a0 I = some r → aGo kad d 174 (0, ([(0, .ref a0)], [])) (aMem Z I, t) (qI Z t r) := by
  intro a0 I r h
  unfold f174 at h
  refine go_ops aMi174 1 _ (f1 := (1, ([(0, .ref a0)], [.ref a0]))) rfl ?_
  obtain ⟨b1_1, hxb1_1, h⟩ := Option.bind_eq_some_iff.mp h
  refine gg_gR aMi174 rfl rfl rfl hxb1_1 ?_
  obtain ⟨b4_2, hxb4_2, h⟩ := Option.bind_eq_some_iff.mp h
  refine gg_gR aMi174 rfl rfl rfl hxb4_2 ?_
  obtain ⟨u7_3, hxu7_3, h⟩ := Option.bind_eq_some_iff.mp h
  obtain ⟨r7_4, hxr7_4, h⟩ := Option.bind_eq_some_iff.mp h
  refine gg_cv (as := []) (r := []) aMi174 rfl rfl rfl aMi58 (Nat.le_of_ble_eq_true rfl) rfl (Nat.le_of_ble_eq_true rfl) (Nat.le_of_ble_eq_true rfl) (by omega) hxu7_3 (Tf58 (by omega) b4_2 I _ hxr7_4) ?_
  show aGo kad d 174 (10, ([(0, .ref a0)], [.int r7_4.1])) (aMem Z r7_4.2, t) _
  split at h
  · rename_i hz
    cases h
    exact go_ret aMi174 rfl (aRetZ hz) ⟨rfl, rfl⟩
  · cases h
-- KernelGym.testKey (I)I
def f176 (kad : Nat → Nat) (N : Nat) (Z : AZ) (a0 : Nat) (i1 : Int32) (I : AI) : Option ((Int32 ⊕ String) × AI) :=
  (f138 kad N Z i1 (0 : Int32) (65535 : Int32) I).bind fun r4_1 =>
  xB r4_1 fun vr4_1 Ir4_1 =>
  (gR Z Ir4_1 10 10 a0).bind fun b8_2 =>
  (gI Z Ir4_1 9 0 b8_2).bind fun x11_3 =>
  if x11_3 < (6 : Int32) then
    (gR Z Ir4_1 10 10 a0).bind fun b31_4 =>
    (isK Z b31_4 9).bind fun u35_5 =>
    (f116 kad N Z b31_4 i1 Ir4_1).bind fun r35_6 =>
    some (.inl r35_6.1, r35_6.2)
  else
    some (.inr (aEC 1), Ir4_1)
set_option maxRecDepth 20000 in
theorem Tf176 {kad : Nat → Nat} {N : Nat} {Z : AZ} {d : Nat} {t : Option Nat × (Nat × Nat)} (hd : 1 ≤ d) : ∀ (a0 : Nat) (i1 : Int32) (I : AI) (r : (Int32 ⊕ String) × AI), f176 kad N Z a0 i1 I = some r → aGo kad d 176 (0, ([(0, .ref a0), (1, .int i1)], [])) (aMem Z I, t) (qX tvI Z t r) := by
  intro a0 i1 I r h
  unfold f176 at h
  refine go_ops aMi176 2 _ (f1 := (2, ([(0, .ref a0), (1, .int i1)], [.int (0 : Int32), .int i1]))) rfl ?_
  refine gg_kI (Or.inl ⟨rfl, rfl⟩) aMi176 rfl rfl ?_
  obtain ⟨r4_1, hxr4_1, h⟩ := Option.bind_eq_some_iff.mp h
  rcases xB_eq h with ⟨vr4_1, Ir4_1, her4_1, h2⟩ | ⟨Er4_1, Ir4_1, her4_1, h2⟩
  rotate_left
  · clear h
    subst her4_1
    subst h2
    exact gg_cst (as := [.int i1, .int (0 : Int32), .int (65535 : Int32)]) (r := []) aMi176 rfl rfl rfl aMi138 rfl (Nat.le_of_ble_eq_true rfl) (Nat.le_of_ble_eq_true rfl) (by omega) (Tf138 (by omega) i1 (0 : Int32) (65535 : Int32) I _ hxr4_1) qX_thr
  clear h
  subst her4_1
  have h := h2
  clear h2
  refine gg_cs (as := [.int i1, .int (0 : Int32), .int (65535 : Int32)]) (r := []) aMi176 rfl rfl rfl aMi138 rfl (Nat.le_of_ble_eq_true rfl) (Nat.le_of_ble_eq_true rfl) (by omega) (Tf138 (by omega) i1 (0 : Int32) (65535 : Int32) I _ hxr4_1) ?_
  show aGo kad d 176 (7, ([(0, .ref a0), (1, .int i1)], [])) (aMem Z Ir4_1, t) _
  refine go_ops aMi176 1 _ (f1 := (8, ([(0, .ref a0), (1, .int i1)], [.ref a0]))) rfl ?_
  obtain ⟨b8_2, hxb8_2, h⟩ := Option.bind_eq_some_iff.mp h
  refine gg_gR aMi176 rfl rfl rfl hxb8_2 ?_
  obtain ⟨x11_3, hxx11_3, h⟩ := Option.bind_eq_some_iff.mp h
  refine gg_gI aMi176 rfl rfl rfl hxx11_3 ?_
  refine go_ops aMi176 1 _ (f1 := (16, ([(0, .ref a0), (1, .int i1)], [.int (6 : Int32), .int x11_3]))) rfl ?_
  refine gg_br (b := decide (x11_3 < (6 : Int32))) (tg := 30) (off := 14) aMi176 rfl rfl rfl rfl (fun hb => ?_) (fun hb => ?_)
  · rw [if_pos (of_decide_eq_true hb)] at h
    refine go_ops aMi176 1 _ (f1 := (31, ([(0, .ref a0), (1, .int i1)], [.ref a0]))) rfl ?_
    obtain ⟨b31_4, hxb31_4, h⟩ := Option.bind_eq_some_iff.mp h
    refine gg_gR aMi176 rfl rfl rfl hxb31_4 ?_
    refine go_ops aMi176 1 _ (f1 := (35, ([(0, .ref a0), (1, .int i1)], [.int i1, .ref b31_4]))) rfl ?_
    obtain ⟨u35_5, hxu35_5, h⟩ := Option.bind_eq_some_iff.mp h
    obtain ⟨r35_6, hxr35_6, h⟩ := Option.bind_eq_some_iff.mp h
    refine gg_cv (as := [.int i1]) (r := []) aMi176 rfl rfl rfl aMi116 (Nat.le_of_ble_eq_true rfl) rfl (Nat.le_of_ble_eq_true rfl) (Nat.le_of_ble_eq_true rfl) (by omega) hxu35_5 (Tf116 (by omega) b31_4 i1 Ir4_1 _ hxr35_6) ?_
    show aGo kad d 176 (38, ([(0, .ref a0), (1, .int i1)], [.int r35_6.1])) (aMem Z r35_6.2, t) _
    cases h
    exact go_ret aMi176 rfl aRetI qX_ret
  · rw [if_neg (of_decide_eq_false hb)] at h
    cases h
    exact go_thr (E := aEC 1) aMi176 rfl rfl rfl rfl rfl rfl qX_thr
-- KernelGym.testWord (I)I
def f177 (kad : Nat → Nat) (N : Nat) (Z : AZ) (a0 : Nat) (i1 : Int32) (I : AI) : Option ((Int32 ⊕ String) × AI) :=
  (f138 kad N Z i1 (0 : Int32) (65535 : Int32) I).bind fun r4_1 =>
  xB r4_1 fun vr4_1 Ir4_1 =>
  (gR Z Ir4_1 10 10 a0).bind fun b8_2 =>
  (gI Z Ir4_1 9 1 b8_2).bind fun x11_3 =>
  if x11_3 < (6 : Int32) then
    (gR Z Ir4_1 10 10 a0).bind fun b31_4 =>
    (isK Z b31_4 9).bind fun u35_5 =>
    (f117 kad N Z b31_4 i1 Ir4_1).bind fun r35_6 =>
    some (.inl r35_6.1, r35_6.2)
  else
    some (.inr (aEC 1), Ir4_1)
set_option maxRecDepth 20000 in
theorem Tf177 {kad : Nat → Nat} {N : Nat} {Z : AZ} {d : Nat} {t : Option Nat × (Nat × Nat)} (hd : 1 ≤ d) : ∀ (a0 : Nat) (i1 : Int32) (I : AI) (r : (Int32 ⊕ String) × AI), f177 kad N Z a0 i1 I = some r → aGo kad d 177 (0, ([(0, .ref a0), (1, .int i1)], [])) (aMem Z I, t) (qX tvI Z t r) := by
  intro a0 i1 I r h
  unfold f177 at h
  refine go_ops aMi177 2 _ (f1 := (2, ([(0, .ref a0), (1, .int i1)], [.int (0 : Int32), .int i1]))) rfl ?_
  refine gg_kI (Or.inl ⟨rfl, rfl⟩) aMi177 rfl rfl ?_
  obtain ⟨r4_1, hxr4_1, h⟩ := Option.bind_eq_some_iff.mp h
  rcases xB_eq h with ⟨vr4_1, Ir4_1, her4_1, h2⟩ | ⟨Er4_1, Ir4_1, her4_1, h2⟩
  rotate_left
  · clear h
    subst her4_1
    subst h2
    exact gg_cst (as := [.int i1, .int (0 : Int32), .int (65535 : Int32)]) (r := []) aMi177 rfl rfl rfl aMi138 rfl (Nat.le_of_ble_eq_true rfl) (Nat.le_of_ble_eq_true rfl) (by omega) (Tf138 (by omega) i1 (0 : Int32) (65535 : Int32) I _ hxr4_1) qX_thr
  clear h
  subst her4_1
  have h := h2
  clear h2
  refine gg_cs (as := [.int i1, .int (0 : Int32), .int (65535 : Int32)]) (r := []) aMi177 rfl rfl rfl aMi138 rfl (Nat.le_of_ble_eq_true rfl) (Nat.le_of_ble_eq_true rfl) (by omega) (Tf138 (by omega) i1 (0 : Int32) (65535 : Int32) I _ hxr4_1) ?_
  show aGo kad d 177 (7, ([(0, .ref a0), (1, .int i1)], [])) (aMem Z Ir4_1, t) _
  refine go_ops aMi177 1 _ (f1 := (8, ([(0, .ref a0), (1, .int i1)], [.ref a0]))) rfl ?_
  obtain ⟨b8_2, hxb8_2, h⟩ := Option.bind_eq_some_iff.mp h
  refine gg_gR aMi177 rfl rfl rfl hxb8_2 ?_
  obtain ⟨x11_3, hxx11_3, h⟩ := Option.bind_eq_some_iff.mp h
  refine gg_gI aMi177 rfl rfl rfl hxx11_3 ?_
  refine go_ops aMi177 1 _ (f1 := (16, ([(0, .ref a0), (1, .int i1)], [.int (6 : Int32), .int x11_3]))) rfl ?_
  refine gg_br (b := decide (x11_3 < (6 : Int32))) (tg := 30) (off := 14) aMi177 rfl rfl rfl rfl (fun hb => ?_) (fun hb => ?_)
  · rw [if_pos (of_decide_eq_true hb)] at h
    refine go_ops aMi177 1 _ (f1 := (31, ([(0, .ref a0), (1, .int i1)], [.ref a0]))) rfl ?_
    obtain ⟨b31_4, hxb31_4, h⟩ := Option.bind_eq_some_iff.mp h
    refine gg_gR aMi177 rfl rfl rfl hxb31_4 ?_
    refine go_ops aMi177 1 _ (f1 := (35, ([(0, .ref a0), (1, .int i1)], [.int i1, .ref b31_4]))) rfl ?_
    obtain ⟨u35_5, hxu35_5, h⟩ := Option.bind_eq_some_iff.mp h
    obtain ⟨r35_6, hxr35_6, h⟩ := Option.bind_eq_some_iff.mp h
    refine gg_cv (as := [.int i1]) (r := []) aMi177 rfl rfl rfl aMi117 (Nat.le_of_ble_eq_true rfl) rfl (Nat.le_of_ble_eq_true rfl) (Nat.le_of_ble_eq_true rfl) (by omega) hxu35_5 (Tf117 (by omega) b31_4 i1 Ir4_1 _ hxr35_6) ?_
    show aGo kad d 177 (38, ([(0, .ref a0), (1, .int i1)], [.int r35_6.1])) (aMem Z r35_6.2, t) _
    cases h
    exact go_ret aMi177 rfl aRetI qX_ret
  · rw [if_neg (of_decide_eq_false hb)] at h
    cases h
    exact go_thr (E := aEC 1) aMi177 rfl rfl rfl rfl rfl rfl qX_thr
-- KernelGym.addTest (IIII)I
def f178 (kad : Nat → Nat) (N : Nat) (Z : AZ) (a0 : Nat) (i1 : Int32) (i2 : Int32) (i3 : Int32) (i4 : Int32) (I : AI) : Option ((Int32 ⊕ String) × AI) :=
  (f138 kad N Z i1 (1 : Int32) (500 : Int32) I).bind fun r5_1 =>
  xB r5_1 fun vr5_1 Ir5_1 =>
  (f138 kad N Z i2 (0 : Int32) (100 : Int32) Ir5_1).bind fun r12_2 =>
  xB r12_2 fun vr12_2 Ir12_2 =>
  (f138 kad N Z i3 (1 : Int32) (20 : Int32) Ir12_2).bind fun r19_3 =>
  xB r19_3 fun vr19_3 Ir19_3 =>
  (f138 kad N Z i4 (0 : Int32) (500 : Int32) Ir19_3).bind fun r28_4 =>
  xB r28_4 fun vr28_4 Ir28_4 =>
  (gI Z Ir28_4 10 12 a0).bind fun x32_5 =>
  if x32_5 < (5 : Int32) then
    (gR Z Ir28_4 10 11 a0).bind fun b51_6 =>
    (gI Z Ir28_4 10 12 a0).bind fun x55_7 =>
    (lR Z Ir28_4 b51_6 x55_7).bind fun b58_8 =>
    (gR Z Ir28_4 10 10 a0).bind fun b64_9 =>
    (isK Z b58_8 9).bind fun u67_10 =>
    (f118 kad N Z b58_8 b64_9 Ir28_4).bind fun r67_11 =>
    (isK Z b58_8 9).bind fun u77_12 =>
    (f119 kad N Z b58_8 i1 i2 i3 i4 r67_11.2).bind fun r77_13 =>
    (gI Z r77_13.2 10 12 a0).bind fun x82_14 =>
    (pI Z r77_13.2 10 12 a0 (x82_14 + (1 : Int32))).bind fun I87_15 =>
    (gI Z I87_15 10 12 a0).bind fun x91_16 =>
    some (.inl (x91_16 - (1 : Int32)), I87_15)
  else
    some (.inr (aEC 1), Ir28_4)
set_option maxRecDepth 20000 in
theorem Tf178 {kad : Nat → Nat} {N : Nat} {Z : AZ} {d : Nat} {t : Option Nat × (Nat × Nat)} (hd : 1 ≤ d) : ∀ (a0 : Nat) (i1 : Int32) (i2 : Int32) (i3 : Int32) (i4 : Int32) (I : AI) (r : (Int32 ⊕ String) × AI), f178 kad N Z a0 i1 i2 i3 i4 I = some r → aGo kad d 178 (0, ([(0, .ref a0), (1, .int i1), (2, .int i2), (3, .int i3), (4, .int i4)], [])) (aMem Z I, t) (qX tvI Z t r) := by
  intro a0 i1 i2 i3 i4 I r h
  unfold f178 at h
  refine go_ops aMi178 3 _ (f1 := (5, ([(0, .ref a0), (1, .int i1), (2, .int i2), (3, .int i3), (4, .int i4)], [.int (500 : Int32), .int (1 : Int32), .int i1]))) rfl ?_
  obtain ⟨r5_1, hxr5_1, h⟩ := Option.bind_eq_some_iff.mp h
  rcases xB_eq h with ⟨vr5_1, Ir5_1, her5_1, h2⟩ | ⟨Er5_1, Ir5_1, her5_1, h2⟩
  rotate_left
  · clear h
    subst her5_1
    subst h2
    exact gg_cst (as := [.int i1, .int (1 : Int32), .int (500 : Int32)]) (r := []) aMi178 rfl rfl rfl aMi138 rfl (Nat.le_of_ble_eq_true rfl) (Nat.le_of_ble_eq_true rfl) (by omega) (Tf138 (by omega) i1 (1 : Int32) (500 : Int32) I _ hxr5_1) qX_thr
  clear h
  subst her5_1
  have h := h2
  clear h2
  refine gg_cs (as := [.int i1, .int (1 : Int32), .int (500 : Int32)]) (r := []) aMi178 rfl rfl rfl aMi138 rfl (Nat.le_of_ble_eq_true rfl) (Nat.le_of_ble_eq_true rfl) (by omega) (Tf138 (by omega) i1 (1 : Int32) (500 : Int32) I _ hxr5_1) ?_
  show aGo kad d 178 (8, ([(0, .ref a0), (1, .int i1), (2, .int i2), (3, .int i3), (4, .int i4)], [])) (aMem Z Ir5_1, t) _
  refine go_ops aMi178 3 _ (f1 := (12, ([(0, .ref a0), (1, .int i1), (2, .int i2), (3, .int i3), (4, .int i4)], [.int (100 : Int32), .int (0 : Int32), .int i2]))) rfl ?_
  obtain ⟨r12_2, hxr12_2, h⟩ := Option.bind_eq_some_iff.mp h
  rcases xB_eq h with ⟨vr12_2, Ir12_2, her12_2, h2⟩ | ⟨Er12_2, Ir12_2, her12_2, h2⟩
  rotate_left
  · clear h
    subst her12_2
    subst h2
    exact gg_cst (as := [.int i2, .int (0 : Int32), .int (100 : Int32)]) (r := []) aMi178 rfl rfl rfl aMi138 rfl (Nat.le_of_ble_eq_true rfl) (Nat.le_of_ble_eq_true rfl) (by omega) (Tf138 (by omega) i2 (0 : Int32) (100 : Int32) Ir5_1 _ hxr12_2) qX_thr
  clear h
  subst her12_2
  have h := h2
  clear h2
  refine gg_cs (as := [.int i2, .int (0 : Int32), .int (100 : Int32)]) (r := []) aMi178 rfl rfl rfl aMi138 rfl (Nat.le_of_ble_eq_true rfl) (Nat.le_of_ble_eq_true rfl) (by omega) (Tf138 (by omega) i2 (0 : Int32) (100 : Int32) Ir5_1 _ hxr12_2) ?_
  show aGo kad d 178 (15, ([(0, .ref a0), (1, .int i1), (2, .int i2), (3, .int i3), (4, .int i4)], [])) (aMem Z Ir12_2, t) _
  refine go_ops aMi178 3 _ (f1 := (19, ([(0, .ref a0), (1, .int i1), (2, .int i2), (3, .int i3), (4, .int i4)], [.int (20 : Int32), .int (1 : Int32), .int i3]))) rfl ?_
  obtain ⟨r19_3, hxr19_3, h⟩ := Option.bind_eq_some_iff.mp h
  rcases xB_eq h with ⟨vr19_3, Ir19_3, her19_3, h2⟩ | ⟨Er19_3, Ir19_3, her19_3, h2⟩
  rotate_left
  · clear h
    subst her19_3
    subst h2
    exact gg_cst (as := [.int i3, .int (1 : Int32), .int (20 : Int32)]) (r := []) aMi178 rfl rfl rfl aMi138 rfl (Nat.le_of_ble_eq_true rfl) (Nat.le_of_ble_eq_true rfl) (by omega) (Tf138 (by omega) i3 (1 : Int32) (20 : Int32) Ir12_2 _ hxr19_3) qX_thr
  clear h
  subst her19_3
  have h := h2
  clear h2
  refine gg_cs (as := [.int i3, .int (1 : Int32), .int (20 : Int32)]) (r := []) aMi178 rfl rfl rfl aMi138 rfl (Nat.le_of_ble_eq_true rfl) (Nat.le_of_ble_eq_true rfl) (by omega) (Tf138 (by omega) i3 (1 : Int32) (20 : Int32) Ir12_2 _ hxr19_3) ?_
  show aGo kad d 178 (22, ([(0, .ref a0), (1, .int i1), (2, .int i2), (3, .int i3), (4, .int i4)], [])) (aMem Z Ir19_3, t) _
  refine go_ops aMi178 3 _ (f1 := (28, ([(0, .ref a0), (1, .int i1), (2, .int i2), (3, .int i3), (4, .int i4)], [.int (500 : Int32), .int (0 : Int32), .int i4]))) rfl ?_
  obtain ⟨r28_4, hxr28_4, h⟩ := Option.bind_eq_some_iff.mp h
  rcases xB_eq h with ⟨vr28_4, Ir28_4, her28_4, h2⟩ | ⟨Er28_4, Ir28_4, her28_4, h2⟩
  rotate_left
  · clear h
    subst her28_4
    subst h2
    exact gg_cst (as := [.int i4, .int (0 : Int32), .int (500 : Int32)]) (r := []) aMi178 rfl rfl rfl aMi138 rfl (Nat.le_of_ble_eq_true rfl) (Nat.le_of_ble_eq_true rfl) (by omega) (Tf138 (by omega) i4 (0 : Int32) (500 : Int32) Ir19_3 _ hxr28_4) qX_thr
  clear h
  subst her28_4
  have h := h2
  clear h2
  refine gg_cs (as := [.int i4, .int (0 : Int32), .int (500 : Int32)]) (r := []) aMi178 rfl rfl rfl aMi138 rfl (Nat.le_of_ble_eq_true rfl) (Nat.le_of_ble_eq_true rfl) (by omega) (Tf138 (by omega) i4 (0 : Int32) (500 : Int32) Ir19_3 _ hxr28_4) ?_
  show aGo kad d 178 (31, ([(0, .ref a0), (1, .int i1), (2, .int i2), (3, .int i3), (4, .int i4)], [])) (aMem Z Ir28_4, t) _
  refine go_ops aMi178 1 _ (f1 := (32, ([(0, .ref a0), (1, .int i1), (2, .int i2), (3, .int i3), (4, .int i4)], [.ref a0]))) rfl ?_
  obtain ⟨x32_5, hxx32_5, h⟩ := Option.bind_eq_some_iff.mp h
  refine gg_gI aMi178 rfl rfl rfl hxx32_5 ?_
  refine go_ops aMi178 1 _ (f1 := (36, ([(0, .ref a0), (1, .int i1), (2, .int i2), (3, .int i3), (4, .int i4)], [.int (5 : Int32), .int x32_5]))) rfl ?_
  refine gg_br (b := decide (x32_5 < (5 : Int32))) (tg := 50) (off := 14) aMi178 rfl rfl rfl rfl (fun hb => ?_) (fun hb => ?_)
  · rw [if_pos (of_decide_eq_true hb)] at h
    refine go_ops aMi178 1 _ (f1 := (51, ([(0, .ref a0), (1, .int i1), (2, .int i2), (3, .int i3), (4, .int i4)], [.ref a0]))) rfl ?_
    obtain ⟨b51_6, hxb51_6, h⟩ := Option.bind_eq_some_iff.mp h
    refine gg_gR aMi178 rfl rfl rfl hxb51_6 ?_
    refine go_ops aMi178 1 _ (f1 := (55, ([(0, .ref a0), (1, .int i1), (2, .int i2), (3, .int i3), (4, .int i4)], [.ref a0, .ref b51_6]))) rfl ?_
    obtain ⟨x55_7, hxx55_7, h⟩ := Option.bind_eq_some_iff.mp h
    refine gg_gI aMi178 rfl rfl rfl hxx55_7 ?_
    obtain ⟨b58_8, hxb58_8, h⟩ := Option.bind_eq_some_iff.mp h
    refine gg_lR aMi178 rfl hxb58_8 ?_
    refine go_ops aMi178 3 _ (f1 := (64, ([(5, .ref b58_8), (0, .ref a0), (1, .int i1), (2, .int i2), (3, .int i3), (4, .int i4)], [.ref a0, .ref b58_8]))) rfl ?_
    obtain ⟨b64_9, hxb64_9, h⟩ := Option.bind_eq_some_iff.mp h
    refine gg_gR aMi178 rfl rfl rfl hxb64_9 ?_
    obtain ⟨u67_10, hxu67_10, h⟩ := Option.bind_eq_some_iff.mp h
    obtain ⟨r67_11, hxr67_11, h⟩ := Option.bind_eq_some_iff.mp h
    refine gg_cv (as := [.ref b64_9]) (r := []) aMi178 rfl rfl rfl aMi118 (Nat.le_of_ble_eq_true rfl) rfl (Nat.le_of_ble_eq_true rfl) (Nat.le_of_ble_eq_true rfl) (by omega) hxu67_10 (Tf118 (by omega) b58_8 b64_9 Ir28_4 _ hxr67_11) ?_
    show aGo kad d 178 (70, ([(5, .ref b58_8), (0, .ref a0), (1, .int i1), (2, .int i2), (3, .int i3), (4, .int i4)], [])) (aMem Z r67_11.2, t) _
    refine go_ops aMi178 5 _ (f1 := (77, ([(5, .ref b58_8), (0, .ref a0), (1, .int i1), (2, .int i2), (3, .int i3), (4, .int i4)], [.int i4, .int i3, .int i2, .int i1, .ref b58_8]))) rfl ?_
    obtain ⟨u77_12, hxu77_12, h⟩ := Option.bind_eq_some_iff.mp h
    obtain ⟨r77_13, hxr77_13, h⟩ := Option.bind_eq_some_iff.mp h
    refine gg_cv (as := [.int i1, .int i2, .int i3, .int i4]) (r := []) aMi178 rfl rfl rfl aMi119 (Nat.le_of_ble_eq_true rfl) rfl (Nat.le_of_ble_eq_true rfl) (Nat.le_of_ble_eq_true rfl) (by omega) hxu77_12 (Tf119 (by omega) b58_8 i1 i2 i3 i4 r67_11.2 _ hxr77_13) ?_
    show aGo kad d 178 (80, ([(5, .ref b58_8), (0, .ref a0), (1, .int i1), (2, .int i2), (3, .int i3), (4, .int i4)], [])) (aMem Z r77_13.2, t) _
    refine go_ops aMi178 2 _ (f1 := (82, ([(5, .ref b58_8), (0, .ref a0), (1, .int i1), (2, .int i2), (3, .int i3), (4, .int i4)], [.ref a0, .ref a0]))) rfl ?_
    obtain ⟨x82_14, hxx82_14, h⟩ := Option.bind_eq_some_iff.mp h
    refine gg_gI aMi178 rfl rfl rfl hxx82_14 ?_
    refine go_ops aMi178 2 _ (f1 := (87, ([(5, .ref b58_8), (0, .ref a0), (1, .int i1), (2, .int i2), (3, .int i3), (4, .int i4)], [.int (x82_14 + (1 : Int32)), .ref a0]))) rfl ?_
    obtain ⟨I87_15, hxI87_15, h⟩ := Option.bind_eq_some_iff.mp h
    refine gg_pI aMi178 rfl rfl rfl rfl (by decide) hxI87_15 ?_
    refine go_ops aMi178 1 _ (f1 := (91, ([(5, .ref b58_8), (0, .ref a0), (1, .int i1), (2, .int i2), (3, .int i3), (4, .int i4)], [.ref a0]))) rfl ?_
    obtain ⟨x91_16, hxx91_16, h⟩ := Option.bind_eq_some_iff.mp h
    refine gg_gI aMi178 rfl rfl rfl hxx91_16 ?_
    refine go_ops aMi178 2 _ (f1 := (96, ([(5, .ref b58_8), (0, .ref a0), (1, .int i1), (2, .int i2), (3, .int i3), (4, .int i4)], [.int (x91_16 - (1 : Int32))]))) rfl ?_
    cases h
    exact go_ret aMi178 rfl aRetI qX_ret
  · rw [if_neg (of_decide_eq_false hb)] at h
    cases h
    exact go_thr (E := aEC 1) aMi178 rfl rfl rfl rfl rfl rfl qX_thr
-- KernelGym.tests ()I
def f179 (kad : Nat → Nat) (N : Nat) (Z : AZ) (a0 : Nat) (I : AI) : Option (Int32 × AI) :=
  (gI Z I 10 12 a0).bind fun x1_1 =>
  some (x1_1, I)
set_option maxRecDepth 20000 in
theorem Tf179 {kad : Nat → Nat} {N : Nat} {Z : AZ} {d : Nat} {t : Option Nat × (Nat × Nat)} (hd : 0 ≤ d) : ∀ (a0 : Nat) (I : AI) (r : Int32 × AI), f179 kad N Z a0 I = some r → aGo kad d 179 (0, ([(0, .ref a0)], [])) (aMem Z I, t) (qI Z t r) := by
  intro a0 I r h
  unfold f179 at h
  refine go_ops aMi179 1 _ (f1 := (1, ([(0, .ref a0)], [.ref a0]))) rfl ?_
  obtain ⟨x1_1, hxx1_1, h⟩ := Option.bind_eq_some_iff.mp h
  refine gg_gI aMi179 rfl rfl rfl hxx1_1 ?_
  cases h
  exact go_ret aMi179 rfl aRetI ⟨rfl, rfl⟩
-- KernelGym.submit ()I
def f180_b54 (kad : Nat → Nat) (N : Nat) (Z : AZ) (k8 : Nat → Int32 → Int32 → AI → Option ((Int32 ⊕ String) × AI)) (a0 : Nat) (i1 : Int32) (i2 : Int32) (I : AI) : Option ((Int32 ⊕ String) × AI) :=
  k8 a0 i1 (i2 + (1 : Int32)) I
set_option maxRecDepth 20000 in
theorem Tf180_b54 {kad : Nat → Nat} {N : Nat} {Z : AZ} {d : Nat} {t : Option Nat × (Nat × Nat)} (hd : 11 ≤ d) (k8 : Nat → Int32 → Int32 → AI → Option ((Int32 ⊕ String) × AI))  (hk8 : ∀ (a0 : Nat) (i1 : Int32) (i2 : Int32)  (I : AI) (r : (Int32 ⊕ String) × AI), k8 a0 i1 i2 I = some r → aGo kad d 180 (8, ([(0, .ref a0), (1, .int i1), (2, .int i2)], [])) (aMem Z I, t) (qX tvI Z t r)) : ∀ (a0 : Nat) (i1 : Int32) (i2 : Int32) (I : AI) (r : (Int32 ⊕ String) × AI), f180_b54 kad N Z k8 a0 i1 i2 I = some r → aGo kad d 180 (54, ([(0, .ref a0), (1, .int i1), (2, .int i2)], [])) (aMem Z I, t) (qX tvI Z t r) := by
  intro a0 i1 i2 I r h
  unfold f180_b54 at h
  refine go_ops aMi180 2 _ (f1 := (8, ([(2, .int (i2 + (1 : Int32))), (0, .ref a0), (1, .int i1)], []))) rfl ?_
  refine go_le (lv1 := [(0, .ref a0), (1, .int i1), (2, .int (i2 + (1 : Int32)))]) (aLe_of (show (List.map (fun q => q.1) ([(0, .ref a0), (1, .int i1), (2, .int (i2 + (1 : Int32)))] : ALv)).Nodup from (by show ([0, 1, 2] : List Nat).Nodup; decide)) (aSubL_cons rfl (aSubL_cons rfl (aSubL_cons rfl aSubL_nil)))) ?_
  exact hk8 a0 i1 (i2 + (1 : Int32)) I _ h
def f180_b60 (kad : Nat → Nat) (N : Nat) (Z : AZ) (i1 : Int32) (I : AI) : Option ((Int32 ⊕ String) × AI) :=
  some (.inl i1, I)
set_option maxRecDepth 20000 in
theorem Tf180_b60 {kad : Nat → Nat} {N : Nat} {Z : AZ} {d : Nat} {t : Option Nat × (Nat × Nat)} (hd : 11 ≤ d) : ∀ (i1 : Int32) (I : AI) (r : (Int32 ⊕ String) × AI), f180_b60 kad N Z i1 I = some r → aGo kad d 180 (60, ([(1, .int i1)], [])) (aMem Z I, t) (qX tvI Z t r) := by
  intro i1 I r h
  unfold f180_b60 at h
  refine go_ops aMi180 1 _ (f1 := (61, ([(1, .int i1)], [.int i1]))) rfl ?_
  cases h
  exact go_ret aMi180 rfl aRetI qX_ret
def f180_b8 (kad : Nat → Nat) (N : Nat) (Z : AZ) : Nat → Nat → Int32 → Int32 → AI → Option ((Int32 ⊕ String) × AI)
  | 0, _, _, _, _ => none
  | F + 1, a0, i1, i2, I =>
    (gI Z I 10 12 a0).bind fun x10_1 =>
    if x10_1 ≤ i2 then
      f180_b60 kad N Z i1 I
    else
      if (5 : Int32) ≤ i2 then
        f180_b60 kad N Z i1 I
      else
        (gR Z I 10 11 a0).bind fun b22_2 =>
        (lR Z I b22_2 i2).bind fun b26_3 =>
        (gR Z I 10 8 a0).bind fun b30_4 =>
        (gR Z I 10 1 a0).bind fun b34_5 =>
        (gR Z I 10 9 a0).bind fun b38_6 =>
        (isK Z b26_3 9).bind fun u41_7 =>
        (f120 kad N Z b26_3 b30_4 b34_5 b38_6 I).bind fun r41_8 =>
        (gI Z r41_8.2 9 2 b26_3).bind fun x45_9 =>
        if ¬ x45_9 = 0 then
          f180_b54 kad N Z (fun p0 p1 p2 I => f180_b8 kad N Z F p0 p1 p2 I) a0 i1 i2 r41_8.2
        else
          f180_b54 kad N Z (fun p0 p1 p2 I => f180_b8 kad N Z F p0 p1 p2 I) a0 (i1 + (1 : Int32)) i2 r41_8.2
set_option maxRecDepth 20000 in
theorem Tf180_b8 {kad : Nat → Nat} {N : Nat} {Z : AZ} {d : Nat} {t : Option Nat × (Nat × Nat)} (hd : 11 ≤ d) : ∀ (F : Nat) (a0 : Nat) (i1 : Int32) (i2 : Int32) (I : AI) (r : (Int32 ⊕ String) × AI), f180_b8 kad N Z F a0 i1 i2 I = some r → aGo kad d 180 (8, ([(0, .ref a0), (1, .int i1), (2, .int i2)], [])) (aMem Z I, t) (qX tvI Z t r) := by
  intro F
  induction F with
  | zero => intro a0 i1 i2 I r h; cases h
  | succ F ih =>
    intro a0 i1 i2 I r h
    unfold f180_b8 at h
    refine go_ops aMi180 2 _ (f1 := (10, ([(0, .ref a0), (1, .int i1), (2, .int i2)], [.ref a0, .int i2]))) rfl ?_
    obtain ⟨x10_1, hxx10_1, h⟩ := Option.bind_eq_some_iff.mp h
    refine gg_gI aMi180 rfl rfl rfl hxx10_1 ?_
    refine gg_br (b := decide (x10_1 ≤ i2)) (tg := 60) (off := 47) aMi180 rfl rfl rfl rfl (fun hb => ?_) (fun hb => ?_)
    · rw [if_pos (of_decide_eq_true hb)] at h
      refine go_le (lv1 := [(1, .int i1)]) (aLe_of (show (List.map (fun q => q.1) ([(1, .int i1)] : ALv)).Nodup from (by show ([1] : List Nat).Nodup; decide)) (aSubL_cons rfl aSubL_nil)) ?_
      exact Tf180_b60 hd i1 I _ h
    · rw [if_neg (of_decide_eq_false hb)] at h
      refine go_ops aMi180 2 _ (f1 := (18, ([(0, .ref a0), (1, .int i1), (2, .int i2)], [.int (5 : Int32), .int i2]))) rfl ?_
      refine gg_br (b := decide ((5 : Int32) ≤ i2)) (tg := 60) (off := 42) aMi180 rfl rfl rfl rfl (fun hb => ?_) (fun hb => ?_)
      · rw [if_pos (of_decide_eq_true hb)] at h
        refine go_le (lv1 := [(1, .int i1)]) (aLe_of (show (List.map (fun q => q.1) ([(1, .int i1)] : ALv)).Nodup from (by show ([1] : List Nat).Nodup; decide)) (aSubL_cons rfl aSubL_nil)) ?_
        exact Tf180_b60 hd i1 I _ h
      · rw [if_neg (of_decide_eq_false hb)] at h
        refine go_ops aMi180 1 _ (f1 := (22, ([(0, .ref a0), (1, .int i1), (2, .int i2)], [.ref a0]))) rfl ?_
        obtain ⟨b22_2, hxb22_2, h⟩ := Option.bind_eq_some_iff.mp h
        refine gg_gR aMi180 rfl rfl rfl hxb22_2 ?_
        refine go_ops aMi180 1 _ (f1 := (26, ([(0, .ref a0), (1, .int i1), (2, .int i2)], [.int i2, .ref b22_2]))) rfl ?_
        obtain ⟨b26_3, hxb26_3, h⟩ := Option.bind_eq_some_iff.mp h
        refine gg_lR aMi180 rfl hxb26_3 ?_
        refine go_ops aMi180 3 _ (f1 := (30, ([(3, .ref b26_3), (0, .ref a0), (1, .int i1), (2, .int i2)], [.ref a0, .ref b26_3]))) rfl ?_
        obtain ⟨b30_4, hxb30_4, h⟩ := Option.bind_eq_some_iff.mp h
        refine gg_gR aMi180 rfl rfl rfl hxb30_4 ?_
        refine go_ops aMi180 1 _ (f1 := (34, ([(3, .ref b26_3), (0, .ref a0), (1, .int i1), (2, .int i2)], [.ref a0, .ref b30_4, .ref b26_3]))) rfl ?_
        obtain ⟨b34_5, hxb34_5, h⟩ := Option.bind_eq_some_iff.mp h
        refine gg_gR aMi180 rfl rfl rfl hxb34_5 ?_
        refine go_ops aMi180 1 _ (f1 := (38, ([(3, .ref b26_3), (0, .ref a0), (1, .int i1), (2, .int i2)], [.ref a0, .ref b34_5, .ref b30_4, .ref b26_3]))) rfl ?_
        obtain ⟨b38_6, hxb38_6, h⟩ := Option.bind_eq_some_iff.mp h
        refine gg_gR aMi180 rfl rfl rfl hxb38_6 ?_
        obtain ⟨u41_7, hxu41_7, h⟩ := Option.bind_eq_some_iff.mp h
        obtain ⟨r41_8, hxr41_8, h⟩ := Option.bind_eq_some_iff.mp h
        refine gg_cv (as := [.ref b30_4, .ref b34_5, .ref b38_6]) (r := []) aMi180 rfl rfl rfl aMi120 (Nat.le_of_ble_eq_true rfl) rfl (Nat.le_of_ble_eq_true rfl) (Nat.le_of_ble_eq_true rfl) (by omega) hxu41_7 (Tf120 (by omega) b26_3 b30_4 b34_5 b38_6 I _ hxr41_8) ?_
        show aGo kad d 180 (44, ([(3, .ref b26_3), (0, .ref a0), (1, .int i1), (2, .int i2)], [])) (aMem Z r41_8.2, t) _
        refine go_ops aMi180 1 _ (f1 := (45, ([(3, .ref b26_3), (0, .ref a0), (1, .int i1), (2, .int i2)], [.ref b26_3]))) rfl ?_
        obtain ⟨x45_9, hxx45_9, h⟩ := Option.bind_eq_some_iff.mp h
        refine gg_gI aMi180 rfl rfl rfl hxx45_9 ?_
        refine gg_br (b := decide (¬ x45_9 = 0)) (tg := 54) (off := 6) aMi180 rfl rfl rfl rfl (fun hb => ?_) (fun hb => ?_)
        · rw [if_pos (of_decide_eq_true hb)] at h
          refine go_le (lv1 := [(0, .ref a0), (1, .int i1), (2, .int i2)]) (aLe_of (show (List.map (fun q => q.1) ([(0, .ref a0), (1, .int i1), (2, .int i2)] : ALv)).Nodup from (by show ([0, 1, 2] : List Nat).Nodup; decide)) (aSubL_cons rfl (aSubL_cons rfl (aSubL_cons rfl aSubL_nil)))) ?_
          exact Tf180_b54 hd (fun p0 p1 p2 I => f180_b8 kad N Z F p0 p1 p2 I) (fun p0 p1 p2 I r hh => ih p0 p1 p2 I r hh) a0 i1 i2 r41_8.2 _ h
        · rw [if_neg (of_decide_eq_false hb)] at h
          refine go_ops aMi180 1 _ (f1 := (54, ([(1, .int (i1 + (1 : Int32))), (3, .ref b26_3), (0, .ref a0), (2, .int i2)], []))) rfl ?_
          refine go_le (lv1 := [(0, .ref a0), (1, .int (i1 + (1 : Int32))), (2, .int i2)]) (aLe_of (show (List.map (fun q => q.1) ([(0, .ref a0), (1, .int (i1 + (1 : Int32))), (2, .int i2)] : ALv)).Nodup from (by show ([0, 1, 2] : List Nat).Nodup; decide)) (aSubL_cons rfl (aSubL_cons rfl (aSubL_cons rfl aSubL_nil)))) ?_
          exact Tf180_b54 hd (fun p0 p1 p2 I => f180_b8 kad N Z F p0 p1 p2 I) (fun p0 p1 p2 I r hh => ih p0 p1 p2 I r hh) a0 (i1 + (1 : Int32)) i2 r41_8.2 _ h
def f180 (kad : Nat → Nat) (N : Nat) (Z : AZ) (a0 : Nat) (I : AI) : Option ((Int32 ⊕ String) × AI) :=
  (isK Z a0 10).bind fun u1_1 =>
  (f140 kad N Z a0 I).bind fun r1_2 =>
  xB r1_2 fun vr1_2 Ir1_2 =>
  f180_b8 kad N Z N a0 (0 : Int32) (0 : Int32) Ir1_2
set_option maxRecDepth 20000 in
theorem Tf180 {kad : Nat → Nat} {N : Nat} {Z : AZ} {d : Nat} {t : Option Nat × (Nat × Nat)} (hd : 11 ≤ d) : ∀ (a0 : Nat) (I : AI) (r : (Int32 ⊕ String) × AI), f180 kad N Z a0 I = some r → aGo kad d 180 (0, ([(0, .ref a0)], [])) (aMem Z I, t) (qX tvI Z t r) := by
  intro a0 I r h
  unfold f180 at h
  refine go_ops aMi180 1 _ (f1 := (1, ([(0, .ref a0)], [.ref a0]))) rfl ?_
  obtain ⟨u1_1, hxu1_1, h⟩ := Option.bind_eq_some_iff.mp h
  obtain ⟨r1_2, hxr1_2, h⟩ := Option.bind_eq_some_iff.mp h
  rcases xB_eq h with ⟨vr1_2, Ir1_2, her1_2, h2⟩ | ⟨Er1_2, Ir1_2, her1_2, h2⟩
  rotate_left
  · clear h
    subst her1_2
    subst h2
    exact gg_cvt (as := []) (r := []) aMi180 rfl rfl rfl aMi140 (Nat.le_of_ble_eq_true rfl) rfl (Nat.le_of_ble_eq_true rfl) (Nat.le_of_ble_eq_true rfl) (by omega) hxu1_1 (Tf140 (by omega) a0 I _ hxr1_2) qX_thr
  clear h
  subst her1_2
  have h := h2
  clear h2
  refine gg_cv (as := []) (r := []) aMi180 rfl rfl rfl aMi140 (Nat.le_of_ble_eq_true rfl) rfl (Nat.le_of_ble_eq_true rfl) (Nat.le_of_ble_eq_true rfl) (by omega) hxu1_1 (Tf140 (by omega) a0 I _ hxr1_2) ?_
  show aGo kad d 180 (4, ([(0, .ref a0)], [])) (aMem Z Ir1_2, t) _
  refine go_ops aMi180 4 _ (f1 := (8, ([(2, .int (0 : Int32)), (1, .int (0 : Int32)), (0, .ref a0)], []))) rfl ?_
  refine go_le (lv1 := [(0, .ref a0), (1, .int (0 : Int32)), (2, .int (0 : Int32))]) (aLe_of (show (List.map (fun q => q.1) ([(0, .ref a0), (1, .int (0 : Int32)), (2, .int (0 : Int32))] : ALv)).Nodup from (by show ([0, 1, 2] : List Nat).Nodup; decide)) (aSubL_cons rfl (aSubL_cons rfl (aSubL_cons rfl aSubL_nil)))) ?_
  exact Tf180_b8 hd N a0 (0 : Int32) (0 : Int32) Ir1_2 _ h
-- KernelGym.result (I)I
def f181_b17 (kad : Nat → Nat) (N : Nat) (Z : AZ)  (I : AI) : Option ((Int32 ⊕ String) × AI) :=
  some (.inr (aEC 2), I)
set_option maxRecDepth 20000 in
theorem Tf181_b17 {kad : Nat → Nat} {N : Nat} {Z : AZ} {d : Nat} {t : Option Nat × (Nat × Nat)} (hd : 0 ≤ d) : ∀  (I : AI) (r : (Int32 ⊕ String) × AI), f181_b17 kad N Z  I = some r → aGo kad d 181 (17, ([], [])) (aMem Z I, t) (qX tvI Z t r) := by
  intro  I r h
  unfold f181_b17 at h
  cases h
  exact go_thr (E := aEC 2) aMi181 rfl rfl rfl rfl rfl rfl qX_thr
def f181 (kad : Nat → Nat) (N : Nat) (Z : AZ) (a0 : Nat) (i1 : Int32) (I : AI) : Option ((Int32 ⊕ String) × AI) :=
  if i1 < 0 then
    f181_b17 kad N Z  I
  else
    (gI Z I 10 12 a0).bind fun x6_1 =>
    if x6_1 ≤ i1 then
      f181_b17 kad N Z  I
    else
      if i1 < (5 : Int32) then
        (gR Z I 10 11 a0).bind fun b29_2 =>
        (lR Z I b29_2 i1).bind fun b33_3 =>
        (gI Z I 9 2 b33_3).bind fun x34_4 =>
        some (.inl x34_4, I)
      else
        f181_b17 kad N Z  I
set_option maxRecDepth 20000 in
theorem Tf181 {kad : Nat → Nat} {N : Nat} {Z : AZ} {d : Nat} {t : Option Nat × (Nat × Nat)} (hd : 0 ≤ d) : ∀ (a0 : Nat) (i1 : Int32) (I : AI) (r : (Int32 ⊕ String) × AI), f181 kad N Z a0 i1 I = some r → aGo kad d 181 (0, ([(0, .ref a0), (1, .int i1)], [])) (aMem Z I, t) (qX tvI Z t r) := by
  intro a0 i1 I r h
  unfold f181 at h
  refine go_ops aMi181 1 _ (f1 := (1, ([(0, .ref a0), (1, .int i1)], [.int i1]))) rfl ?_
  refine gg_br (b := decide (i1 < 0)) (tg := 17) (off := 16) aMi181 rfl rfl rfl rfl (fun hb => ?_) (fun hb => ?_)
  · rw [if_pos (of_decide_eq_true hb)] at h
    refine go_le (lv1 := []) (aLe_of (show (List.map (fun q => q.1) ([] : ALv)).Nodup from (by show ([] : List Nat).Nodup; decide)) aSubL_nil) ?_
    exact Tf181_b17 hd  I _ h
  · rw [if_neg (of_decide_eq_false hb)] at h
    refine go_ops aMi181 2 _ (f1 := (6, ([(0, .ref a0), (1, .int i1)], [.ref a0, .int i1]))) rfl ?_
    obtain ⟨x6_1, hxx6_1, h⟩ := Option.bind_eq_some_iff.mp h
    refine gg_gI aMi181 rfl rfl rfl hxx6_1 ?_
    refine gg_br (b := decide (x6_1 ≤ i1)) (tg := 17) (off := 8) aMi181 rfl rfl rfl rfl (fun hb => ?_) (fun hb => ?_)
    · rw [if_pos (of_decide_eq_true hb)] at h
      refine go_le (lv1 := []) (aLe_of (show (List.map (fun q => q.1) ([] : ALv)).Nodup from (by show ([] : List Nat).Nodup; decide)) aSubL_nil) ?_
      exact Tf181_b17 hd  I _ h
    · rw [if_neg (of_decide_eq_false hb)] at h
      refine go_ops aMi181 2 _ (f1 := (14, ([(0, .ref a0), (1, .int i1)], [.int (5 : Int32), .int i1]))) rfl ?_
      refine gg_br (b := decide (i1 < (5 : Int32))) (tg := 28) (off := 14) aMi181 rfl rfl rfl rfl (fun hb => ?_) (fun hb => ?_)
      · rw [if_pos (of_decide_eq_true hb)] at h
        refine go_ops aMi181 1 _ (f1 := (29, ([(0, .ref a0), (1, .int i1)], [.ref a0]))) rfl ?_
        obtain ⟨b29_2, hxb29_2, h⟩ := Option.bind_eq_some_iff.mp h
        refine gg_gR aMi181 rfl rfl rfl hxb29_2 ?_
        refine go_ops aMi181 1 _ (f1 := (33, ([(0, .ref a0), (1, .int i1)], [.int i1, .ref b29_2]))) rfl ?_
        obtain ⟨b33_3, hxb33_3, h⟩ := Option.bind_eq_some_iff.mp h
        refine gg_lR aMi181 rfl hxb33_3 ?_
        obtain ⟨x34_4, hxx34_4, h⟩ := Option.bind_eq_some_iff.mp h
        refine gg_gI aMi181 rfl rfl rfl hxx34_4 ?_
        cases h
        exact go_ret aMi181 rfl aRetI qX_ret
      · rw [if_neg (of_decide_eq_false hb)] at h
        refine go_le (lv1 := []) (aLe_of (show (List.map (fun q => q.1) ([] : ALv)).Nodup from (by show ([] : List Nat).Nodup; decide)) aSubL_nil) ?_
        exact Tf181_b17 hd  I _ h
-- KernelGym.mark ()I
def f182_b35 (kad : Nat → Nat) (N : Nat) (Z : AZ) (i1 : Int32) (I : AI) : Option (Int32 × AI) :=
  some ((if i1 < (0 : Int32) then (0 : Int32) else i1), I)
set_option maxRecDepth 20000 in
theorem Tf182_b35 {kad : Nat → Nat} {N : Nat} {Z : AZ} {d : Nat} {t : Option Nat × (Nat × Nat)} (hd : 1 ≤ d) : ∀ (i1 : Int32) (I : AI) (r : Int32 × AI), f182_b35 kad N Z i1 I = some r → aGo kad d 182 (35, ([(1, .int i1)], [])) (aMem Z I, t) (qI Z t r) := by
  intro i1 I r h
  unfold f182_b35 at h
  refine go_ops aMi182 2 _ (f1 := (37, ([(1, .int i1)], [.int (0 : Int32), .int i1]))) rfl ?_
  refine gg_mx aMi182 rfl rfl (Nat.le_of_ble_eq_true rfl) ?_
  cases h
  exact go_ret aMi182 rfl aRetI ⟨rfl, rfl⟩
def f182_b4 (kad : Nat → Nat) (N : Nat) (Z : AZ) : Nat → Nat → Int32 → Int32 → AI → Option (Int32 × AI)
  | 0, _, _, _, _ => none
  | F + 1, a0, i1, i2, I =>
    (gI Z I 10 12 a0).bind fun x6_1 =>
    if x6_1 ≤ i2 then
      f182_b35 kad N Z i1 I
    else
      if (5 : Int32) ≤ i2 then
        f182_b35 kad N Z i1 I
      else
        (gR Z I 10 11 a0).bind fun b19_2 =>
        (lR Z I b19_2 i2).bind fun b23_3 =>
        (isK Z b23_3 9).bind fun u24_4 =>
        (f122 kad N Z b23_3 I).bind fun r24_5 =>
        f182_b4 kad N Z F a0 (i1 + r24_5.1) (i2 + (1 : Int32)) r24_5.2
set_option maxRecDepth 20000 in
theorem Tf182_b4 {kad : Nat → Nat} {N : Nat} {Z : AZ} {d : Nat} {t : Option Nat × (Nat × Nat)} (hd : 1 ≤ d) : ∀ (F : Nat) (a0 : Nat) (i1 : Int32) (i2 : Int32) (I : AI) (r : Int32 × AI), f182_b4 kad N Z F a0 i1 i2 I = some r → aGo kad d 182 (4, ([(0, .ref a0), (1, .int i1), (2, .int i2)], [])) (aMem Z I, t) (qI Z t r) := by
  intro F
  induction F with
  | zero => intro a0 i1 i2 I r h; cases h
  | succ F ih =>
    intro a0 i1 i2 I r h
    unfold f182_b4 at h
    refine go_ops aMi182 2 _ (f1 := (6, ([(0, .ref a0), (1, .int i1), (2, .int i2)], [.ref a0, .int i2]))) rfl ?_
    obtain ⟨x6_1, hxx6_1, h⟩ := Option.bind_eq_some_iff.mp h
    refine gg_gI aMi182 rfl rfl rfl hxx6_1 ?_
    refine gg_br (b := decide (x6_1 ≤ i2)) (tg := 35) (off := 26) aMi182 rfl rfl rfl rfl (fun hb => ?_) (fun hb => ?_)
    · rw [if_pos (of_decide_eq_true hb)] at h
      refine go_le (lv1 := [(1, .int i1)]) (aLe_of (show (List.map (fun q => q.1) ([(1, .int i1)] : ALv)).Nodup from (by show ([1] : List Nat).Nodup; decide)) (aSubL_cons rfl aSubL_nil)) ?_
      exact Tf182_b35 hd i1 I _ h
    · rw [if_neg (of_decide_eq_false hb)] at h
      refine go_ops aMi182 2 _ (f1 := (14, ([(0, .ref a0), (1, .int i1), (2, .int i2)], [.int (5 : Int32), .int i2]))) rfl ?_
      refine gg_br (b := decide ((5 : Int32) ≤ i2)) (tg := 35) (off := 21) aMi182 rfl rfl rfl rfl (fun hb => ?_) (fun hb => ?_)
      · rw [if_pos (of_decide_eq_true hb)] at h
        refine go_le (lv1 := [(1, .int i1)]) (aLe_of (show (List.map (fun q => q.1) ([(1, .int i1)] : ALv)).Nodup from (by show ([1] : List Nat).Nodup; decide)) (aSubL_cons rfl aSubL_nil)) ?_
        exact Tf182_b35 hd i1 I _ h
      · rw [if_neg (of_decide_eq_false hb)] at h
        refine go_ops aMi182 2 _ (f1 := (19, ([(0, .ref a0), (1, .int i1), (2, .int i2)], [.ref a0, .int i1]))) rfl ?_
        obtain ⟨b19_2, hxb19_2, h⟩ := Option.bind_eq_some_iff.mp h
        refine gg_gR aMi182 rfl rfl rfl hxb19_2 ?_
        refine go_ops aMi182 1 _ (f1 := (23, ([(0, .ref a0), (1, .int i1), (2, .int i2)], [.int i2, .ref b19_2, .int i1]))) rfl ?_
        obtain ⟨b23_3, hxb23_3, h⟩ := Option.bind_eq_some_iff.mp h
        refine gg_lR aMi182 rfl hxb23_3 ?_
        obtain ⟨u24_4, hxu24_4, h⟩ := Option.bind_eq_some_iff.mp h
        obtain ⟨r24_5, hxr24_5, h⟩ := Option.bind_eq_some_iff.mp h
        refine gg_cv (as := []) (r := [.int i1]) aMi182 rfl rfl rfl aMi122 (Nat.le_of_ble_eq_true rfl) rfl (Nat.le_of_ble_eq_true rfl) (Nat.le_of_ble_eq_true rfl) (by omega) hxu24_4 (Tf122 (by omega) b23_3 I _ hxr24_5) ?_
        show aGo kad d 182 (27, ([(0, .ref a0), (1, .int i1), (2, .int i2)], [.int r24_5.1, .int i1])) (aMem Z r24_5.2, t) _
        refine go_ops aMi182 4 _ (f1 := (4, ([(2, .int (i2 + (1 : Int32))), (1, .int (i1 + r24_5.1)), (0, .ref a0)], []))) rfl ?_
        refine go_le (lv1 := [(0, .ref a0), (1, .int (i1 + r24_5.1)), (2, .int (i2 + (1 : Int32)))]) (aLe_of (show (List.map (fun q => q.1) ([(0, .ref a0), (1, .int (i1 + r24_5.1)), (2, .int (i2 + (1 : Int32)))] : ALv)).Nodup from (by show ([0, 1, 2] : List Nat).Nodup; decide)) (aSubL_cons rfl (aSubL_cons rfl (aSubL_cons rfl aSubL_nil)))) ?_
        exact ih a0 (i1 + r24_5.1) (i2 + (1 : Int32)) r24_5.2 _ h
def f182 (kad : Nat → Nat) (N : Nat) (Z : AZ) (a0 : Nat) (I : AI) : Option (Int32 × AI) :=
  f182_b4 kad N Z N a0 (0 : Int32) (0 : Int32) I
set_option maxRecDepth 20000 in
theorem Tf182 {kad : Nat → Nat} {N : Nat} {Z : AZ} {d : Nat} {t : Option Nat × (Nat × Nat)} (hd : 1 ≤ d) : ∀ (a0 : Nat) (I : AI) (r : Int32 × AI), f182 kad N Z a0 I = some r → aGo kad d 182 (0, ([(0, .ref a0)], [])) (aMem Z I, t) (qI Z t r) := by
  intro a0 I r h
  unfold f182 at h
  refine go_ops aMi182 4 _ (f1 := (4, ([(2, .int (0 : Int32)), (1, .int (0 : Int32)), (0, .ref a0)], []))) rfl ?_
  refine go_le (lv1 := [(0, .ref a0), (1, .int (0 : Int32)), (2, .int (0 : Int32))]) (aLe_of (show (List.map (fun q => q.1) ([(0, .ref a0), (1, .int (0 : Int32)), (2, .int (0 : Int32))] : ALv)).Nodup from (by show ([0, 1, 2] : List Nat).Nodup; decide)) (aSubL_cons rfl (aSubL_cons rfl (aSubL_cons rfl aSubL_nil)))) ?_
  exact Tf182_b4 hd N a0 (0 : Int32) (0 : Int32) I _ h
-- KernelGymModel.thrown ()I
def f184 (kad : Nat → Nat) (N : Nat) (Z : AZ) (a0 : Nat) (I : AI) : Option (Int32 × AI) :=
  (gI Z I 11 0 a0).bind fun x1_1 =>
  some (x1_1, I)
set_option maxRecDepth 20000 in
theorem Tf184 {kad : Nat → Nat} {N : Nat} {Z : AZ} {d : Nat} {t : Option Nat × (Nat × Nat)} (hd : 0 ≤ d) : ∀ (a0 : Nat) (I : AI) (r : Int32 × AI), f184 kad N Z a0 I = some r → aGo kad d 184 (0, ([(0, .ref a0)], [])) (aMem Z I, t) (qI Z t r) := by
  intro a0 I r h
  unfold f184 at h
  refine go_ops aMi184 1 _ (f1 := (1, ([(0, .ref a0)], [.ref a0]))) rfl ?_
  obtain ⟨x1_1, hxx1_1, h⟩ := Option.bind_eq_some_iff.mp h
  refine gg_gI aMi184 rfl rfl rfl hxx1_1 ?_
  cases h
  exact go_ret aMi184 rfl aRetI ⟨rfl, rfl⟩
-- KernelGymModel.holds (I)Z
def f185_b14 (kad : Nat → Nat) (N : Nat) (Z : AZ) (s0 : Int32) (I : AI) : Option (Int32 × AI) :=
  if s0 = 0 ∨ s0 = 1 then some (s0, I) else none
set_option maxRecDepth 20000 in
theorem Tf185_b14 {kad : Nat → Nat} {N : Nat} {Z : AZ} {d : Nat} {t : Option Nat × (Nat × Nat)} (hd : 0 ≤ d) : ∀ (s0 : Int32) (I : AI) (r : Int32 × AI), f185_b14 kad N Z s0 I = some r → aGo kad d 185 (14, ([], [.int s0])) (aMem Z I, t) (qI Z t r) := by
  intro s0 I r h
  unfold f185_b14 at h
  split at h
  · rename_i hz
    cases h
    exact go_ret aMi185 rfl (aRetZ hz) ⟨rfl, rfl⟩
  · cases h
def f185 (kad : Nat → Nat) (N : Nat) (Z : AZ) (a0 : Nat) (i1 : Int32) (I : AI) : Option (Int32 × AI) :=
  (pI Z I 11 0 a0 i1).bind fun I2_1 =>
  if ¬ i1 = 0 then
    f185_b14 kad N Z (0 : Int32) I2_1
  else
    f185_b14 kad N Z (1 : Int32) I2_1
set_option maxRecDepth 20000 in
theorem Tf185 {kad : Nat → Nat} {N : Nat} {Z : AZ} {d : Nat} {t : Option Nat × (Nat × Nat)} (hd : 0 ≤ d) : ∀ (a0 : Nat) (i1 : Int32) (I : AI) (r : Int32 × AI), f185 kad N Z a0 i1 I = some r → aGo kad d 185 (0, ([(0, .ref a0), (1, .int i1)], [])) (aMem Z I, t) (qI Z t r) := by
  intro a0 i1 I r h
  unfold f185 at h
  refine go_ops aMi185 2 _ (f1 := (2, ([(0, .ref a0), (1, .int i1)], [.int i1, .ref a0]))) rfl ?_
  obtain ⟨I2_1, hxI2_1, h⟩ := Option.bind_eq_some_iff.mp h
  refine gg_pI aMi185 rfl rfl rfl rfl (by decide) hxI2_1 ?_
  refine go_ops aMi185 1 _ (f1 := (6, ([(0, .ref a0), (1, .int i1)], [.int i1]))) rfl ?_
  refine gg_br (b := decide (¬ i1 = 0)) (tg := 13) (off := 7) aMi185 rfl rfl rfl rfl (fun hb => ?_) (fun hb => ?_)
  · rw [if_pos (of_decide_eq_true hb)] at h
    refine go_ops aMi185 1 _ (f1 := (14, ([(0, .ref a0), (1, .int i1)], [.int (0 : Int32)]))) rfl ?_
    refine go_le (lv1 := []) (aLe_of (show (List.map (fun q => q.1) ([] : ALv)).Nodup from (by show ([] : List Nat).Nodup; decide)) aSubL_nil) ?_
    exact Tf185_b14 hd (0 : Int32) I2_1 _ h
  · rw [if_neg (of_decide_eq_false hb)] at h
    refine go_ops aMi185 2 _ (f1 := (14, ([(0, .ref a0), (1, .int i1)], [.int (1 : Int32)]))) rfl ?_
    refine go_le (lv1 := []) (aLe_of (show (List.map (fun q => q.1) ([] : ALv)).Nodup from (by show ([] : List Nat).Nodup; decide)) aSubL_nil) ?_
    exact Tf185_b14 hd (1 : Int32) I2_1 _ h
-- KernelGymModel.in (III)Z
def f186_b15 (kad : Nat → Nat) (N : Nat) (Z : AZ) (s0 : Int32) (I : AI) : Option (Int32 × AI) :=
  if s0 = 0 ∨ s0 = 1 then some (s0, I) else none
set_option maxRecDepth 20000 in
theorem Tf186_b15 {kad : Nat → Nat} {N : Nat} {Z : AZ} {d : Nat} {t : Option Nat × (Nat × Nat)} (hd : 0 ≤ d) : ∀ (s0 : Int32) (I : AI) (r : Int32 × AI), f186_b15 kad N Z s0 I = some r → aGo kad d 186 (15, ([], [.int s0])) (aMem Z I, t) (qI Z t r) := by
  intro s0 I r h
  unfold f186_b15 at h
  split at h
  · rename_i hz
    cases h
    exact go_ret aMi186 rfl (aRetZ hz) ⟨rfl, rfl⟩
  · cases h
def f186_b14 (kad : Nat → Nat) (N : Nat) (Z : AZ)  (I : AI) : Option (Int32 × AI) :=
  f186_b15 kad N Z (0 : Int32) I
set_option maxRecDepth 20000 in
theorem Tf186_b14 {kad : Nat → Nat} {N : Nat} {Z : AZ} {d : Nat} {t : Option Nat × (Nat × Nat)} (hd : 0 ≤ d) : ∀  (I : AI) (r : Int32 × AI), f186_b14 kad N Z  I = some r → aGo kad d 186 (14, ([], [])) (aMem Z I, t) (qI Z t r) := by
  intro  I r h
  unfold f186_b14 at h
  refine go_ops aMi186 1 _ (f1 := (15, ([], [.int (0 : Int32)]))) rfl ?_
  exact Tf186_b15 hd (0 : Int32) I _ h
def f186 (kad : Nat → Nat) (N : Nat) (Z : AZ) (i0 : Int32) (i1 : Int32) (i2 : Int32) (I : AI) : Option (Int32 × AI) :=
  if i0 < i1 then
    f186_b14 kad N Z  I
  else
    if i2 < i0 then
      f186_b14 kad N Z  I
    else
      f186_b15 kad N Z (1 : Int32) I
set_option maxRecDepth 20000 in
theorem Tf186 {kad : Nat → Nat} {N : Nat} {Z : AZ} {d : Nat} {t : Option Nat × (Nat × Nat)} (hd : 0 ≤ d) : ∀ (i0 : Int32) (i1 : Int32) (i2 : Int32) (I : AI) (r : Int32 × AI), f186 kad N Z i0 i1 i2 I = some r → aGo kad d 186 (0, ([(0, .int i0), (1, .int i1), (2, .int i2)], [])) (aMem Z I, t) (qI Z t r) := by
  intro i0 i1 i2 I r h
  unfold f186 at h
  refine go_ops aMi186 2 _ (f1 := (2, ([(0, .int i0), (1, .int i1), (2, .int i2)], [.int i1, .int i0]))) rfl ?_
  refine gg_br (b := decide (i0 < i1)) (tg := 14) (off := 12) aMi186 rfl rfl rfl rfl (fun hb => ?_) (fun hb => ?_)
  · rw [if_pos (of_decide_eq_true hb)] at h
    refine go_le (lv1 := []) (aLe_of (show (List.map (fun q => q.1) ([] : ALv)).Nodup from (by show ([] : List Nat).Nodup; decide)) aSubL_nil) ?_
    exact Tf186_b14 hd  I _ h
  · rw [if_neg (of_decide_eq_false hb)] at h
    refine go_ops aMi186 2 _ (f1 := (7, ([(0, .int i0), (1, .int i1), (2, .int i2)], [.int i2, .int i0]))) rfl ?_
    refine gg_br (b := decide (i2 < i0)) (tg := 14) (off := 7) aMi186 rfl rfl rfl rfl (fun hb => ?_) (fun hb => ?_)
    · rw [if_pos (of_decide_eq_true hb)] at h
      refine go_le (lv1 := []) (aLe_of (show (List.map (fun q => q.1) ([] : ALv)).Nodup from (by show ([] : List Nat).Nodup; decide)) aSubL_nil) ?_
      exact Tf186_b14 hd  I _ h
    · rw [if_neg (of_decide_eq_false hb)] at h
      refine go_ops aMi186 2 _ (f1 := (15, ([(0, .int i0), (1, .int i1), (2, .int i2)], [.int (1 : Int32)]))) rfl ?_
      refine go_le (lv1 := []) (aLe_of (show (List.map (fun q => q.1) ([] : ALv)).Nodup from (by show ([] : List Nat).Nodup; decide)) aSubL_nil) ?_
      exact Tf186_b15 hd (1 : Int32) I _ h
-- KernelGymModel.clear ()I
def f187 (kad : Nat → Nat) (N : Nat) (Z : AZ) (a0 : Nat) (I : AI) : Option (Int32 × AI) :=
  (pI Z I 11 0 a0 (0 : Int32)).bind fun I2_1 =>
  (gI Z I2_1 11 1 a0).bind fun x6_2 =>
  (pI Z I2_1 11 1 a0 (0 : Int32)).bind fun I12_3 =>
  some (x6_2, I12_3)
set_option maxRecDepth 20000 in
theorem Tf187 {kad : Nat → Nat} {N : Nat} {Z : AZ} {d : Nat} {t : Option Nat × (Nat × Nat)} (hd : 0 ≤ d) : ∀ (a0 : Nat) (I : AI) (r : Int32 × AI), f187 kad N Z a0 I = some r → aGo kad d 187 (0, ([(0, .ref a0)], [])) (aMem Z I, t) (qI Z t r) := by
  intro a0 I r h
  unfold f187 at h
  refine go_ops aMi187 2 _ (f1 := (2, ([(0, .ref a0)], [.int (0 : Int32), .ref a0]))) rfl ?_
  obtain ⟨I2_1, hxI2_1, h⟩ := Option.bind_eq_some_iff.mp h
  refine gg_pI aMi187 rfl rfl rfl rfl (by decide) hxI2_1 ?_
  refine go_ops aMi187 1 _ (f1 := (6, ([(0, .ref a0)], [.ref a0]))) rfl ?_
  obtain ⟨x6_2, hxx6_2, h⟩ := Option.bind_eq_some_iff.mp h
  refine gg_gI aMi187 rfl rfl rfl hxx6_2 ?_
  refine go_ops aMi187 3 _ (f1 := (12, ([(1, .int x6_2), (0, .ref a0)], [.int (0 : Int32), .ref a0]))) rfl ?_
  obtain ⟨I12_3, hxI12_3, h⟩ := Option.bind_eq_some_iff.mp h
  refine gg_pI aMi187 rfl rfl rfl rfl (by decide) hxI12_3 ?_
  refine go_ops aMi187 1 _ (f1 := (16, ([(1, .int x6_2), (0, .ref a0)], [.int x6_2]))) rfl ?_
  cases h
  exact go_ret aMi187 rfl aRetI ⟨rfl, rfl⟩
-- KernelGymModel.lines ()I
def f188 (kad : Nat → Nat) (N : Nat) (Z : AZ) (a0 : Nat) (I : AI) : Option (Int32 × AI) :=
  (pI Z I 11 0 a0 (0 : Int32)).bind fun I2_1 =>
  (gI Z I2_1 11 1 a0).bind fun x6_2 =>
  some (x6_2, I2_1)
set_option maxRecDepth 20000 in
theorem Tf188 {kad : Nat → Nat} {N : Nat} {Z : AZ} {d : Nat} {t : Option Nat × (Nat × Nat)} (hd : 0 ≤ d) : ∀ (a0 : Nat) (I : AI) (r : Int32 × AI), f188 kad N Z a0 I = some r → aGo kad d 188 (0, ([(0, .ref a0)], [])) (aMem Z I, t) (qI Z t r) := by
  intro a0 I r h
  unfold f188 at h
  refine go_ops aMi188 2 _ (f1 := (2, ([(0, .ref a0)], [.int (0 : Int32), .ref a0]))) rfl ?_
  obtain ⟨I2_1, hxI2_1, h⟩ := Option.bind_eq_some_iff.mp h
  refine gg_pI aMi188 rfl rfl rfl rfl (by decide) hxI2_1 ?_
  refine go_ops aMi188 1 _ (f1 := (6, ([(0, .ref a0)], [.ref a0]))) rfl ?_
  obtain ⟨x6_2, hxx6_2, h⟩ := Option.bind_eq_some_iff.mp h
  refine gg_gI aMi188 rfl rfl rfl hxx6_2 ?_
  cases h
  exact go_ret aMi188 rfl aRetI ⟨rfl, rfl⟩
-- KernelGymModel.isOperand (II)Z
def f189_b34 (kad : Nat → Nat) (N : Nat) (Z : AZ) (s0 : Int32) (I : AI) : Option (Int32 × AI) :=
  if s0 = 0 ∨ s0 = 1 then some (s0, I) else none
set_option maxRecDepth 20000 in
theorem Tf189_b34 {kad : Nat → Nat} {N : Nat} {Z : AZ} {d : Nat} {t : Option Nat × (Nat × Nat)} (hd : 1 ≤ d) : ∀ (s0 : Int32) (I : AI) (r : Int32 × AI), f189_b34 kad N Z s0 I = some r → aGo kad d 189 (34, ([], [.int s0])) (aMem Z I, t) (qI Z t r) := by
  intro s0 I r h
  unfold f189_b34 at h
  split at h
  · rename_i hz
    cases h
    exact go_ret aMi189 rfl (aRetZ hz) ⟨rfl, rfl⟩
  · cases h
def f189_b33 (kad : Nat → Nat) (N : Nat) (Z : AZ)  (I : AI) : Option (Int32 × AI) :=
  f189_b34 kad N Z (0 : Int32) I
set_option maxRecDepth 20000 in
theorem Tf189_b33 {kad : Nat → Nat} {N : Nat} {Z : AZ} {d : Nat} {t : Option Nat × (Nat × Nat)} (hd : 1 ≤ d) : ∀  (I : AI) (r : Int32 × AI), f189_b33 kad N Z  I = some r → aGo kad d 189 (33, ([], [])) (aMem Z I, t) (qI Z t r) := by
  intro  I r h
  unfold f189_b33 at h
  refine go_ops aMi189 1 _ (f1 := (34, ([], [.int (0 : Int32)]))) rfl ?_
  exact Tf189_b34 hd (0 : Int32) I _ h
def f189_b23 (kad : Nat → Nat) (N : Nat) (Z : AZ) (s0 : Int32) (s1 : Int32) (s2 : Int32) (I : AI) : Option (Int32 × AI) :=
  (f186 kad N Z s2 s1 s0 I).bind fun r23_1 =>
  if r23_1.1 = 0 then
    f189_b33 kad N Z  r23_1.2
  else
    f189_b34 kad N Z (1 : Int32) r23_1.2
set_option maxRecDepth 20000 in
theorem Tf189_b23 {kad : Nat → Nat} {N : Nat} {Z : AZ} {d : Nat} {t : Option Nat × (Nat × Nat)} (hd : 1 ≤ d) : ∀ (s0 : Int32) (s1 : Int32) (s2 : Int32) (I : AI) (r : Int32 × AI), f189_b23 kad N Z s0 s1 s2 I = some r → aGo kad d 189 (23, ([], [.int s0, .int s1, .int s2])) (aMem Z I, t) (qI Z t r) := by
  intro s0 s1 s2 I r h
  unfold f189_b23 at h
  obtain ⟨r23_1, hxr23_1, h⟩ := Option.bind_eq_some_iff.mp h
  refine gg_cs (as := [.int s2, .int s1, .int s0]) (r := []) aMi189 rfl rfl rfl aMi186 rfl (Nat.le_of_ble_eq_true rfl) (Nat.le_of_ble_eq_true rfl) (by omega) (Tf186 (by omega) s2 s1 s0 I _ hxr23_1) ?_
  show aGo kad d 189 (26, ([], [.int r23_1.1])) (aMem Z r23_1.2, t) _
  refine gg_br (b := decide (r23_1.1 = 0)) (tg := 33) (off := 7) aMi189 rfl rfl rfl rfl (fun hb => ?_) (fun hb => ?_)
  · rw [if_pos (of_decide_eq_true hb)] at h
    exact Tf189_b33 hd  r23_1.2 _ h
  · rw [if_neg (of_decide_eq_false hb)] at h
    refine go_ops aMi189 2 _ (f1 := (34, ([], [.int (1 : Int32)]))) rfl ?_
    exact Tf189_b34 hd (1 : Int32) r23_1.2 _ h
def f189 (kad : Nat → Nat) (N : Nat) (Z : AZ) (i0 : Int32) (i1 : Int32) (I : AI) : Option (Int32 × AI) :=
  (f186 kad N Z i0 (0 : Int32) (3 : Int32) I).bind fun r3_1 =>
  if r3_1.1 = 0 then
    f189_b33 kad N Z  r3_1.2
  else
    if ¬ i0 = (1 : Int32) then
      f189_b23 kad N Z (65535 : Int32) (0 : Int32) i1 r3_1.2
    else
      f189_b23 kad N Z (19 : Int32) (0 : Int32) i1 r3_1.2
set_option maxRecDepth 20000 in
theorem Tf189 {kad : Nat → Nat} {N : Nat} {Z : AZ} {d : Nat} {t : Option Nat × (Nat × Nat)} (hd : 1 ≤ d) : ∀ (i0 : Int32) (i1 : Int32) (I : AI) (r : Int32 × AI), f189 kad N Z i0 i1 I = some r → aGo kad d 189 (0, ([(0, .int i0), (1, .int i1)], [])) (aMem Z I, t) (qI Z t r) := by
  intro i0 i1 I r h
  unfold f189 at h
  refine go_ops aMi189 3 _ (f1 := (3, ([(0, .int i0), (1, .int i1)], [.int (3 : Int32), .int (0 : Int32), .int i0]))) rfl ?_
  obtain ⟨r3_1, hxr3_1, h⟩ := Option.bind_eq_some_iff.mp h
  refine gg_cs (as := [.int i0, .int (0 : Int32), .int (3 : Int32)]) (r := []) aMi189 rfl rfl rfl aMi186 rfl (Nat.le_of_ble_eq_true rfl) (Nat.le_of_ble_eq_true rfl) (by omega) (Tf186 (by omega) i0 (0 : Int32) (3 : Int32) I _ hxr3_1) ?_
  show aGo kad d 189 (6, ([(0, .int i0), (1, .int i1)], [.int r3_1.1])) (aMem Z r3_1.2, t) _
  refine gg_br (b := decide (r3_1.1 = 0)) (tg := 33) (off := 27) aMi189 rfl rfl rfl rfl (fun hb => ?_) (fun hb => ?_)
  · rw [if_pos (of_decide_eq_true hb)] at h
    refine go_le (lv1 := []) (aLe_of (show (List.map (fun q => q.1) ([] : ALv)).Nodup from (by show ([] : List Nat).Nodup; decide)) aSubL_nil) ?_
    exact Tf189_b33 hd  r3_1.2 _ h
  · rw [if_neg (of_decide_eq_false hb)] at h
    refine go_ops aMi189 4 _ (f1 := (13, ([(0, .int i0), (1, .int i1)], [.int (1 : Int32), .int i0, .int (0 : Int32), .int i1]))) rfl ?_
    refine gg_br (b := decide (¬ i0 = (1 : Int32))) (tg := 21) (off := 8) aMi189 rfl rfl rfl rfl (fun hb => ?_) (fun hb => ?_)
    · rw [if_pos (of_decide_eq_true hb)] at h
      refine gg_kI (Or.inl ⟨rfl, rfl⟩) aMi189 rfl rfl ?_
      refine go_le (lv1 := []) (aLe_of (show (List.map (fun q => q.1) ([] : ALv)).Nodup from (by show ([] : List Nat).Nodup; decide)) aSubL_nil) ?_
      exact Tf189_b23 hd (65535 : Int32) (0 : Int32) i1 r3_1.2 _ h
    · rw [if_neg (of_decide_eq_false hb)] at h
      refine go_ops aMi189 2 _ (f1 := (23, ([(0, .int i0), (1, .int i1)], [.int (19 : Int32), .int (0 : Int32), .int i1]))) rfl ?_
      refine go_le (lv1 := []) (aLe_of (show (List.map (fun q => q.1) ([] : ALv)).Nodup from (by show ([] : List Nat).Nodup; decide)) aSubL_nil) ?_
      exact Tf189_b23 hd (19 : Int32) (0 : Int32) i1 r3_1.2 _ h
-- KernelGymModel.adds (ZIIIIII)I
def f190_b23 (kad : Nat → Nat) (N : Nat) (Z : AZ) (a0 : Nat) (i2 : Int32) (i3 : Int32) (i4 : Int32) (i5 : Int32) (i6 : Int32) (i7 : Int32) (s0 : Int32) (s1 : Nat) (I : AI) : Option (Int32 × AI) :=
  (isK Z s1 11).bind fun u23_1 =>
  (f185 kad N Z s1 s0 I).bind fun r23_2 =>
  if ¬ r23_2.1 = 0 then
    (gR Z r23_2.2 11 2 a0).bind fun b32_3 =>
    (gI Z r23_2.2 11 1 a0).bind fun x36_4 =>
    (sI Z r23_2.2 100 b32_3 x36_4 i2).bind fun I40_5 =>
    (gR Z I40_5 11 3 a0).bind fun b42_6 =>
    (gI Z I40_5 11 1 a0).bind fun x47_7 =>
    (sI Z I40_5 100 b42_6 ((5 : Int32) * x47_7) i3).bind fun I52_8 =>
    (gR Z I52_8 11 3 a0).bind fun b54_9 =>
    (gI Z I52_8 11 1 a0).bind fun x59_10 =>
    (sI Z I52_8 100 b54_9 (((5 : Int32) * x59_10) + (1 : Int32)) i4).bind fun I67_11 =>
    (gR Z I67_11 11 3 a0).bind fun b69_12 =>
    (gI Z I67_11 11 1 a0).bind fun x74_13 =>
    (sI Z I67_11 100 b69_12 (((5 : Int32) * x74_13) + (2 : Int32)) i5).bind fun I82_14 =>
    (gR Z I82_14 11 3 a0).bind fun b84_15 =>
    (gI Z I82_14 11 1 a0).bind fun x89_16 =>
    (sI Z I82_14 100 b84_15 (((5 : Int32) * x89_16) + (3 : Int32)) i6).bind fun I97_17 =>
    (gR Z I97_17 11 3 a0).bind fun b99_18 =>
    (gI Z I97_17 11 1 a0).bind fun x104_19 =>
    (sI Z I97_17 100 b99_18 (((5 : Int32) * x104_19) + (4 : Int32)) i7).bind fun I112_20 =>
    (gI Z I112_20 11 1 a0).bind fun x115_21 =>
    (pI Z I112_20 11 1 a0 (x115_21 + (1 : Int32))).bind fun I120_22 =>
    (gI Z I120_22 11 1 a0).bind fun x124_23 =>
    some (x124_23, I120_22)
  else
    some ((0 : Int32), r23_2.2)
set_option maxRecDepth 20000 in
theorem Tf190_b23 {kad : Nat → Nat} {N : Nat} {Z : AZ} {d : Nat} {t : Option Nat × (Nat × Nat)} (hd : 1 ≤ d) : ∀ (a0 : Nat) (i2 : Int32) (i3 : Int32) (i4 : Int32) (i5 : Int32) (i6 : Int32) (i7 : Int32) (s0 : Int32) (s1 : Nat) (I : AI) (r : Int32 × AI), f190_b23 kad N Z a0 i2 i3 i4 i5 i6 i7 s0 s1 I = some r → aGo kad d 190 (23, ([(0, .ref a0), (2, .int i2), (3, .int i3), (4, .int i4), (5, .int i5), (6, .int i6), (7, .int i7)], [.int s0, .ref s1])) (aMem Z I, t) (qI Z t r) := by
  intro a0 i2 i3 i4 i5 i6 i7 s0 s1 I r h
  unfold f190_b23 at h
  obtain ⟨u23_1, hxu23_1, h⟩ := Option.bind_eq_some_iff.mp h
  obtain ⟨r23_2, hxr23_2, h⟩ := Option.bind_eq_some_iff.mp h
  refine gg_cv (as := [.int s0]) (r := []) aMi190 rfl rfl rfl aMi185 (Nat.le_of_ble_eq_true rfl) rfl (Nat.le_of_ble_eq_true rfl) (Nat.le_of_ble_eq_true rfl) (by omega) hxu23_1 (Tf185 (by omega) s1 s0 I _ hxr23_2) ?_
  show aGo kad d 190 (26, ([(0, .ref a0), (2, .int i2), (3, .int i3), (4, .int i4), (5, .int i5), (6, .int i6), (7, .int i7)], [.int r23_2.1])) (aMem Z r23_2.2, t) _
  refine gg_br (b := decide (¬ r23_2.1 = 0)) (tg := 31) (off := 5) aMi190 rfl rfl rfl rfl (fun hb => ?_) (fun hb => ?_)
  · rw [if_pos (of_decide_eq_true hb)] at h
    refine go_ops aMi190 1 _ (f1 := (32, ([(0, .ref a0), (2, .int i2), (3, .int i3), (4, .int i4), (5, .int i5), (6, .int i6), (7, .int i7)], [.ref a0]))) rfl ?_
    obtain ⟨b32_3, hxb32_3, h⟩ := Option.bind_eq_some_iff.mp h
    refine gg_gR aMi190 rfl rfl rfl hxb32_3 ?_
    refine go_ops aMi190 1 _ (f1 := (36, ([(0, .ref a0), (2, .int i2), (3, .int i3), (4, .int i4), (5, .int i5), (6, .int i6), (7, .int i7)], [.ref a0, .ref b32_3]))) rfl ?_
    obtain ⟨x36_4, hxx36_4, h⟩ := Option.bind_eq_some_iff.mp h
    refine gg_gI aMi190 rfl rfl rfl hxx36_4 ?_
    refine go_ops aMi190 1 _ (f1 := (40, ([(0, .ref a0), (2, .int i2), (3, .int i3), (4, .int i4), (5, .int i5), (6, .int i6), (7, .int i7)], [.int i2, .int x36_4, .ref b32_3]))) rfl ?_
    obtain ⟨I40_5, hxI40_5, h⟩ := Option.bind_eq_some_iff.mp h
    refine gg_sI (Or.inl ⟨rfl, rfl⟩) aMi190 rfl hxI40_5 ?_
    refine go_ops aMi190 1 _ (f1 := (42, ([(0, .ref a0), (2, .int i2), (3, .int i3), (4, .int i4), (5, .int i5), (6, .int i6), (7, .int i7)], [.ref a0]))) rfl ?_
    obtain ⟨b42_6, hxb42_6, h⟩ := Option.bind_eq_some_iff.mp h
    refine gg_gR aMi190 rfl rfl rfl hxb42_6 ?_
    refine go_ops aMi190 2 _ (f1 := (47, ([(0, .ref a0), (2, .int i2), (3, .int i3), (4, .int i4), (5, .int i5), (6, .int i6), (7, .int i7)], [.ref a0, .int (5 : Int32), .ref b42_6]))) rfl ?_
    obtain ⟨x47_7, hxx47_7, h⟩ := Option.bind_eq_some_iff.mp h
    refine gg_gI aMi190 rfl rfl rfl hxx47_7 ?_
    refine go_ops aMi190 2 _ (f1 := (52, ([(0, .ref a0), (2, .int i2), (3, .int i3), (4, .int i4), (5, .int i5), (6, .int i6), (7, .int i7)], [.int i3, .int ((5 : Int32) * x47_7), .ref b42_6]))) rfl ?_
    obtain ⟨I52_8, hxI52_8, h⟩ := Option.bind_eq_some_iff.mp h
    refine gg_sI (Or.inl ⟨rfl, rfl⟩) aMi190 rfl hxI52_8 ?_
    refine go_ops aMi190 1 _ (f1 := (54, ([(0, .ref a0), (2, .int i2), (3, .int i3), (4, .int i4), (5, .int i5), (6, .int i6), (7, .int i7)], [.ref a0]))) rfl ?_
    obtain ⟨b54_9, hxb54_9, h⟩ := Option.bind_eq_some_iff.mp h
    refine gg_gR aMi190 rfl rfl rfl hxb54_9 ?_
    refine go_ops aMi190 2 _ (f1 := (59, ([(0, .ref a0), (2, .int i2), (3, .int i3), (4, .int i4), (5, .int i5), (6, .int i6), (7, .int i7)], [.ref a0, .int (5 : Int32), .ref b54_9]))) rfl ?_
    obtain ⟨x59_10, hxx59_10, h⟩ := Option.bind_eq_some_iff.mp h
    refine gg_gI aMi190 rfl rfl rfl hxx59_10 ?_
    refine go_ops aMi190 4 _ (f1 := (67, ([(0, .ref a0), (2, .int i2), (3, .int i3), (4, .int i4), (5, .int i5), (6, .int i6), (7, .int i7)], [.int i4, .int (((5 : Int32) * x59_10) + (1 : Int32)), .ref b54_9]))) rfl ?_
    obtain ⟨I67_11, hxI67_11, h⟩ := Option.bind_eq_some_iff.mp h
    refine gg_sI (Or.inl ⟨rfl, rfl⟩) aMi190 rfl hxI67_11 ?_
    refine go_ops aMi190 1 _ (f1 := (69, ([(0, .ref a0), (2, .int i2), (3, .int i3), (4, .int i4), (5, .int i5), (6, .int i6), (7, .int i7)], [.ref a0]))) rfl ?_
    obtain ⟨b69_12, hxb69_12, h⟩ := Option.bind_eq_some_iff.mp h
    refine gg_gR aMi190 rfl rfl rfl hxb69_12 ?_
    refine go_ops aMi190 2 _ (f1 := (74, ([(0, .ref a0), (2, .int i2), (3, .int i3), (4, .int i4), (5, .int i5), (6, .int i6), (7, .int i7)], [.ref a0, .int (5 : Int32), .ref b69_12]))) rfl ?_
    obtain ⟨x74_13, hxx74_13, h⟩ := Option.bind_eq_some_iff.mp h
    refine gg_gI aMi190 rfl rfl rfl hxx74_13 ?_
    refine go_ops aMi190 4 _ (f1 := (82, ([(0, .ref a0), (2, .int i2), (3, .int i3), (4, .int i4), (5, .int i5), (6, .int i6), (7, .int i7)], [.int i5, .int (((5 : Int32) * x74_13) + (2 : Int32)), .ref b69_12]))) rfl ?_
    obtain ⟨I82_14, hxI82_14, h⟩ := Option.bind_eq_some_iff.mp h
    refine gg_sI (Or.inl ⟨rfl, rfl⟩) aMi190 rfl hxI82_14 ?_
    refine go_ops aMi190 1 _ (f1 := (84, ([(0, .ref a0), (2, .int i2), (3, .int i3), (4, .int i4), (5, .int i5), (6, .int i6), (7, .int i7)], [.ref a0]))) rfl ?_
    obtain ⟨b84_15, hxb84_15, h⟩ := Option.bind_eq_some_iff.mp h
    refine gg_gR aMi190 rfl rfl rfl hxb84_15 ?_
    refine go_ops aMi190 2 _ (f1 := (89, ([(0, .ref a0), (2, .int i2), (3, .int i3), (4, .int i4), (5, .int i5), (6, .int i6), (7, .int i7)], [.ref a0, .int (5 : Int32), .ref b84_15]))) rfl ?_
    obtain ⟨x89_16, hxx89_16, h⟩ := Option.bind_eq_some_iff.mp h
    refine gg_gI aMi190 rfl rfl rfl hxx89_16 ?_
    refine go_ops aMi190 4 _ (f1 := (97, ([(0, .ref a0), (2, .int i2), (3, .int i3), (4, .int i4), (5, .int i5), (6, .int i6), (7, .int i7)], [.int i6, .int (((5 : Int32) * x89_16) + (3 : Int32)), .ref b84_15]))) rfl ?_
    obtain ⟨I97_17, hxI97_17, h⟩ := Option.bind_eq_some_iff.mp h
    refine gg_sI (Or.inl ⟨rfl, rfl⟩) aMi190 rfl hxI97_17 ?_
    refine go_ops aMi190 1 _ (f1 := (99, ([(0, .ref a0), (2, .int i2), (3, .int i3), (4, .int i4), (5, .int i5), (6, .int i6), (7, .int i7)], [.ref a0]))) rfl ?_
    obtain ⟨b99_18, hxb99_18, h⟩ := Option.bind_eq_some_iff.mp h
    refine gg_gR aMi190 rfl rfl rfl hxb99_18 ?_
    refine go_ops aMi190 2 _ (f1 := (104, ([(0, .ref a0), (2, .int i2), (3, .int i3), (4, .int i4), (5, .int i5), (6, .int i6), (7, .int i7)], [.ref a0, .int (5 : Int32), .ref b99_18]))) rfl ?_
    obtain ⟨x104_19, hxx104_19, h⟩ := Option.bind_eq_some_iff.mp h
    refine gg_gI aMi190 rfl rfl rfl hxx104_19 ?_
    refine go_ops aMi190 4 _ (f1 := (112, ([(0, .ref a0), (2, .int i2), (3, .int i3), (4, .int i4), (5, .int i5), (6, .int i6), (7, .int i7)], [.int i7, .int (((5 : Int32) * x104_19) + (4 : Int32)), .ref b99_18]))) rfl ?_
    obtain ⟨I112_20, hxI112_20, h⟩ := Option.bind_eq_some_iff.mp h
    refine gg_sI (Or.inl ⟨rfl, rfl⟩) aMi190 rfl hxI112_20 ?_
    refine go_ops aMi190 2 _ (f1 := (115, ([(0, .ref a0), (2, .int i2), (3, .int i3), (4, .int i4), (5, .int i5), (6, .int i6), (7, .int i7)], [.ref a0, .ref a0]))) rfl ?_
    obtain ⟨x115_21, hxx115_21, h⟩ := Option.bind_eq_some_iff.mp h
    refine gg_gI aMi190 rfl rfl rfl hxx115_21 ?_
    refine go_ops aMi190 2 _ (f1 := (120, ([(0, .ref a0), (2, .int i2), (3, .int i3), (4, .int i4), (5, .int i5), (6, .int i6), (7, .int i7)], [.int (x115_21 + (1 : Int32)), .ref a0]))) rfl ?_
    obtain ⟨I120_22, hxI120_22, h⟩ := Option.bind_eq_some_iff.mp h
    refine gg_pI aMi190 rfl rfl rfl rfl (by decide) hxI120_22 ?_
    refine go_ops aMi190 1 _ (f1 := (124, ([(0, .ref a0), (2, .int i2), (3, .int i3), (4, .int i4), (5, .int i5), (6, .int i6), (7, .int i7)], [.ref a0]))) rfl ?_
    obtain ⟨x124_23, hxx124_23, h⟩ := Option.bind_eq_some_iff.mp h
    refine gg_gI aMi190 rfl rfl rfl hxx124_23 ?_
    cases h
    exact go_ret aMi190 rfl aRetI ⟨rfl, rfl⟩
  · rw [if_neg (of_decide_eq_false hb)] at h
    refine go_ops aMi190 1 _ (f1 := (30, ([(0, .ref a0), (2, .int i2), (3, .int i3), (4, .int i4), (5, .int i5), (6, .int i6), (7, .int i7)], [.int (0 : Int32)]))) rfl ?_
    cases h
    exact go_ret aMi190 rfl aRetI ⟨rfl, rfl⟩
def f190 (kad : Nat → Nat) (N : Nat) (Z : AZ) (a0 : Nat) (i1 : Int32) (i2 : Int32) (i3 : Int32) (i4 : Int32) (i5 : Int32) (i6 : Int32) (i7 : Int32) (I : AI) : Option (Int32 × AI) :=
  if ¬ i1 = 0 then
    (gI Z I 11 1 a0).bind fun x10_1 =>
    if ¬ x10_1 = (100 : Int32) then
      f190_b23 kad N Z a0 i2 i3 i4 i5 i6 i7 (0 : Int32) a0 I
    else
      f190_b23 kad N Z a0 i2 i3 i4 i5 i6 i7 (2 : Int32) a0 I
  else
    f190_b23 kad N Z a0 i2 i3 i4 i5 i6 i7 (1 : Int32) a0 I
set_option maxRecDepth 20000 in
theorem Tf190 {kad : Nat → Nat} {N : Nat} {Z : AZ} {d : Nat} {t : Option Nat × (Nat × Nat)} (hd : 1 ≤ d) : ∀ (a0 : Nat) (i1 : Int32) (i2 : Int32) (i3 : Int32) (i4 : Int32) (i5 : Int32) (i6 : Int32) (i7 : Int32) (I : AI) (r : Int32 × AI), f190 kad N Z a0 i1 i2 i3 i4 i5 i6 i7 I = some r → aGo kad d 190 (0, ([(0, .ref a0), (1, .int i1), (2, .int i2), (3, .int i3), (4, .int i4), (5, .int i5), (6, .int i6), (7, .int i7)], [])) (aMem Z I, t) (qI Z t r) := by
  intro a0 i1 i2 i3 i4 i5 i6 i7 I r h
  unfold f190 at h
  refine go_ops aMi190 2 _ (f1 := (2, ([(0, .ref a0), (1, .int i1), (2, .int i2), (3, .int i3), (4, .int i4), (5, .int i5), (6, .int i6), (7, .int i7)], [.int i1, .ref a0]))) rfl ?_
  refine gg_br (b := decide (¬ i1 = 0)) (tg := 9) (off := 7) aMi190 rfl rfl rfl rfl (fun hb => ?_) (fun hb => ?_)
  · rw [if_pos (of_decide_eq_true hb)] at h
    refine go_ops aMi190 1 _ (f1 := (10, ([(0, .ref a0), (1, .int i1), (2, .int i2), (3, .int i3), (4, .int i4), (5, .int i5), (6, .int i6), (7, .int i7)], [.ref a0, .ref a0]))) rfl ?_
    obtain ⟨x10_1, hxx10_1, h⟩ := Option.bind_eq_some_iff.mp h
    refine gg_gI aMi190 rfl rfl rfl hxx10_1 ?_
    refine go_ops aMi190 1 _ (f1 := (15, ([(0, .ref a0), (1, .int i1), (2, .int i2), (3, .int i3), (4, .int i4), (5, .int i5), (6, .int i6), (7, .int i7)], [.int (100 : Int32), .int x10_1, .ref a0]))) rfl ?_
    refine gg_br (b := decide (¬ x10_1 = (100 : Int32))) (tg := 22) (off := 7) aMi190 rfl rfl rfl rfl (fun hb => ?_) (fun hb => ?_)
    · rw [if_pos (of_decide_eq_true hb)] at h
      refine go_ops aMi190 1 _ (f1 := (23, ([(0, .ref a0), (1, .int i1), (2, .int i2), (3, .int i3), (4, .int i4), (5, .int i5), (6, .int i6), (7, .int i7)], [.int (0 : Int32), .ref a0]))) rfl ?_
      refine go_le (lv1 := [(0, .ref a0), (2, .int i2), (3, .int i3), (4, .int i4), (5, .int i5), (6, .int i6), (7, .int i7)]) (aLe_of (show (List.map (fun q => q.1) ([(0, .ref a0), (2, .int i2), (3, .int i3), (4, .int i4), (5, .int i5), (6, .int i6), (7, .int i7)] : ALv)).Nodup from (by show ([0, 2, 3, 4, 5, 6, 7] : List Nat).Nodup; decide)) (aSubL_cons rfl (aSubL_cons rfl (aSubL_cons rfl (aSubL_cons rfl (aSubL_cons rfl (aSubL_cons rfl (aSubL_cons rfl aSubL_nil)))))))) ?_
      exact Tf190_b23 hd a0 i2 i3 i4 i5 i6 i7 (0 : Int32) a0 I _ h
    · rw [if_neg (of_decide_eq_false hb)] at h
      refine go_ops aMi190 2 _ (f1 := (23, ([(0, .ref a0), (1, .int i1), (2, .int i2), (3, .int i3), (4, .int i4), (5, .int i5), (6, .int i6), (7, .int i7)], [.int (2 : Int32), .ref a0]))) rfl ?_
      refine go_le (lv1 := [(0, .ref a0), (2, .int i2), (3, .int i3), (4, .int i4), (5, .int i5), (6, .int i6), (7, .int i7)]) (aLe_of (show (List.map (fun q => q.1) ([(0, .ref a0), (2, .int i2), (3, .int i3), (4, .int i4), (5, .int i5), (6, .int i6), (7, .int i7)] : ALv)).Nodup from (by show ([0, 2, 3, 4, 5, 6, 7] : List Nat).Nodup; decide)) (aSubL_cons rfl (aSubL_cons rfl (aSubL_cons rfl (aSubL_cons rfl (aSubL_cons rfl (aSubL_cons rfl (aSubL_cons rfl aSubL_nil)))))))) ?_
      exact Tf190_b23 hd a0 i2 i3 i4 i5 i6 i7 (2 : Int32) a0 I _ h
  · rw [if_neg (of_decide_eq_false hb)] at h
    refine go_ops aMi190 2 _ (f1 := (23, ([(0, .ref a0), (1, .int i1), (2, .int i2), (3, .int i3), (4, .int i4), (5, .int i5), (6, .int i6), (7, .int i7)], [.int (1 : Int32), .ref a0]))) rfl ?_
    refine go_le (lv1 := [(0, .ref a0), (2, .int i2), (3, .int i3), (4, .int i4), (5, .int i5), (6, .int i6), (7, .int i7)]) (aLe_of (show (List.map (fun q => q.1) ([(0, .ref a0), (2, .int i2), (3, .int i3), (4, .int i4), (5, .int i5), (6, .int i6), (7, .int i7)] : ALv)).Nodup from (by show ([0, 2, 3, 4, 5, 6, 7] : List Nat).Nodup; decide)) (aSubL_cons rfl (aSubL_cons rfl (aSubL_cons rfl (aSubL_cons rfl (aSubL_cons rfl (aSubL_cons rfl (aSubL_cons rfl aSubL_nil)))))))) ?_
    exact Tf190_b23 hd a0 i2 i3 i4 i5 i6 i7 (1 : Int32) a0 I _ h
