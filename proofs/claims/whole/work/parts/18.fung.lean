-- KernelGym$Trial.share ()I
def f122_b32 (kad : Nat → Nat) (N : Nat) (Z : AZ) (s0 : Int32) (I : AI) : Option (Int32 × AI) :=
  some (s0, I)
set_option maxRecDepth 20000 in
theorem Tf122_b32 {kad : Nat → Nat} {N : Nat} {Z : AZ} {d : Nat} {t : Option Nat × (Nat × Nat)} (hd : 0 ≤ d) : ∀ (s0 : Int32) (I : AI) (r : Int32 × AI), f122_b32 kad N Z s0 I = some r → aGo kad d 122 (32, ([], [.int s0])) (aMem Z I, t) (qI Z t r) := by
  intro s0 I r h
  unfold f122_b32 at h
  cases h
  exact go_ret aMi122 rfl aRetI ⟨rfl, rfl⟩
def f122 (kad : Nat → Nat) (N : Nat) (Z : AZ) (a0 : Nat) (I : AI) : Option (Int32 × AI) :=
  (gI Z I 9 2 a0).bind fun x1_1 =>
  if ¬ x1_1 = 0 then
    (gI Z I 9 9 a0).bind fun x13_2 =>
    if x13_2 = 0 then
      f122_b32 kad N Z (0 : Int32) I
    else
      (gI Z I 9 7 a0).bind fun x20_3 =>
      f122_b32 kad N Z (-((x20_3 + (1 : Int32)) / (2 : Int32))) I
  else
    (gI Z I 9 7 a0).bind fun x8_4 =>
    some (x8_4, I)
set_option maxRecDepth 20000 in
theorem Tf122 {kad : Nat → Nat} {N : Nat} {Z : AZ} {d : Nat} {t : Option Nat × (Nat × Nat)} (hd : 0 ≤ d) : ∀ (a0 : Nat) (I : AI) (r : Int32 × AI), f122 kad N Z a0 I = some r → aGo kad d 122 (0, ([(0, .ref a0)], [])) (aMem Z I, t) (qI Z t r) := by
  intro a0 I r h
  unfold f122 at h
  refine go_ops aMi122 1 _ (f1 := (1, ([(0, .ref a0)], [.ref a0]))) rfl ?_
  obtain ⟨x1_1, hxx1_1, h⟩ := Option.bind_eq_some_iff.mp h
  refine gg_gI aMi122 rfl rfl rfl hxx1_1 ?_
  refine gg_br (b := decide (¬ x1_1 = 0)) (tg := 12) (off := 8) aMi122 rfl rfl rfl rfl (fun hb => ?_) (fun hb => ?_)
  · rw [if_pos (of_decide_eq_true hb)] at h
    refine go_ops aMi122 1 _ (f1 := (13, ([(0, .ref a0)], [.ref a0]))) rfl ?_
    obtain ⟨x13_2, hxx13_2, h⟩ := Option.bind_eq_some_iff.mp h
    refine gg_gI aMi122 rfl rfl rfl hxx13_2 ?_
    refine gg_br (b := decide (x13_2 = 0)) (tg := 31) (off := 15) aMi122 rfl rfl rfl rfl (fun hb => ?_) (fun hb => ?_)
    · rw [if_pos (of_decide_eq_true hb)] at h
      refine go_ops aMi122 1 _ (f1 := (32, ([(0, .ref a0)], [.int (0 : Int32)]))) rfl ?_
      refine go_le (lv1 := []) (aLe_of (show (List.map (fun q => q.1) ([] : ALv)).Nodup from (by show ([] : List Nat).Nodup; decide)) aSubL_nil) ?_
      exact Tf122_b32 hd (0 : Int32) I _ h
    · rw [if_neg (of_decide_eq_false hb)] at h
      refine go_ops aMi122 1 _ (f1 := (20, ([(0, .ref a0)], [.ref a0]))) rfl ?_
      obtain ⟨x20_3, hxx20_3, h⟩ := Option.bind_eq_some_iff.mp h
      refine gg_gI aMi122 rfl rfl rfl hxx20_3 ?_
      refine go_ops aMi122 6 _ (f1 := (32, ([(0, .ref a0)], [.int (-((x20_3 + (1 : Int32)) / (2 : Int32)))]))) rfl ?_
      refine go_le (lv1 := []) (aLe_of (show (List.map (fun q => q.1) ([] : ALv)).Nodup from (by show ([] : List Nat).Nodup; decide)) aSubL_nil) ?_
      exact Tf122_b32 hd (-((x20_3 + (1 : Int32)) / (2 : Int32))) I _ h
  · rw [if_neg (of_decide_eq_false hb)] at h
    refine go_ops aMi122 1 _ (f1 := (8, ([(0, .ref a0)], [.ref a0]))) rfl ?_
    obtain ⟨x8_4, hxx8_4, h⟩ := Option.bind_eq_some_iff.mp h
    refine gg_gI aMi122 rfl rfl rfl hxx8_4 ?_
    cases h
    exact go_ret aMi122 rfl aRetI ⟨rfl, rfl⟩
-- KernelGym.clear ()I
def f124 (kad : Nat → Nat) (N : Nat) (Z : AZ) (a0 : Nat) (I : AI) : Option (Int32 × AI) :=
  (gR Z I 10 0 a0).bind fun b1_1 =>
  (isK Z b1_1 0).bind fun u4_2 =>
  (f1 kad N Z b1_1 I).bind fun r4_3 =>
  some (r4_3.1, r4_3.2)
set_option maxRecDepth 20000 in
theorem Tf124 {kad : Nat → Nat} {N : Nat} {Z : AZ} {d : Nat} {t : Option Nat × (Nat × Nat)} (hd : 1 ≤ d) : ∀ (a0 : Nat) (I : AI) (r : Int32 × AI), f124 kad N Z a0 I = some r → aGo kad d 124 (0, ([(0, .ref a0)], [])) (aMem Z I, t) (qI Z t r) := by
  intro a0 I r h
  unfold f124 at h
  refine go_ops aMi124 1 _ (f1 := (1, ([(0, .ref a0)], [.ref a0]))) rfl ?_
  obtain ⟨b1_1, hxb1_1, h⟩ := Option.bind_eq_some_iff.mp h
  refine gg_gR aMi124 rfl rfl rfl hxb1_1 ?_
  obtain ⟨u4_2, hxu4_2, h⟩ := Option.bind_eq_some_iff.mp h
  obtain ⟨r4_3, hxr4_3, h⟩ := Option.bind_eq_some_iff.mp h
  refine gg_cv (as := []) (r := []) aMi124 rfl rfl rfl aMi1 (Nat.le_of_ble_eq_true rfl) rfl (Nat.le_of_ble_eq_true rfl) (Nat.le_of_ble_eq_true rfl) (by omega) hxu4_2 (Tf1 (by omega) b1_1 I _ hxr4_3) ?_
  show aGo kad d 124 (7, ([(0, .ref a0)], [.int r4_3.1])) (aMem Z r4_3.2, t) _
  cases h
  exact go_ret aMi124 rfl aRetI ⟨rfl, rfl⟩
-- KernelGym.lines ()I
def f125 (kad : Nat → Nat) (N : Nat) (Z : AZ) (a0 : Nat) (I : AI) : Option (Int32 × AI) :=
  (gR Z I 10 0 a0).bind fun b1_1 =>
  (gI Z I 0 0 b1_1).bind fun x4_2 =>
  some (x4_2, I)
set_option maxRecDepth 20000 in
theorem Tf125 {kad : Nat → Nat} {N : Nat} {Z : AZ} {d : Nat} {t : Option Nat × (Nat × Nat)} (hd : 0 ≤ d) : ∀ (a0 : Nat) (I : AI) (r : Int32 × AI), f125 kad N Z a0 I = some r → aGo kad d 125 (0, ([(0, .ref a0)], [])) (aMem Z I, t) (qI Z t r) := by
  intro a0 I r h
  unfold f125 at h
  refine go_ops aMi125 1 _ (f1 := (1, ([(0, .ref a0)], [.ref a0]))) rfl ?_
  obtain ⟨b1_1, hxb1_1, h⟩ := Option.bind_eq_some_iff.mp h
  refine gg_gR aMi125 rfl rfl rfl hxb1_1 ?_
  obtain ⟨x4_2, hxx4_2, h⟩ := Option.bind_eq_some_iff.mp h
  refine gg_gI aMi125 rfl rfl rfl hxx4_2 ?_
  cases h
  exact go_ret aMi125 rfl aRetI ⟨rfl, rfl⟩
-- KernelGym.requireRange (III)V
def f138_b10 (kad : Nat → Nat) (N : Nat) (Z : AZ)  (I : AI) : Option ((Unit ⊕ String) × AI) :=
  some (.inr (aEC 0), I)
set_option maxRecDepth 20000 in
theorem Tf138_b10 {kad : Nat → Nat} {N : Nat} {Z : AZ} {d : Nat} {t : Option Nat × (Nat × Nat)} (hd : 0 ≤ d) : ∀  (I : AI) (r : (Unit ⊕ String) × AI), f138_b10 kad N Z  I = some r → aGo kad d 138 (10, ([], [])) (aMem Z I, t) (qX tvV Z t r) := by
  intro  I r h
  unfold f138_b10 at h
  cases h
  exact go_thr (E := aEC 0) aMi138 rfl rfl rfl rfl rfl rfl qX_thr
def f138 (kad : Nat → Nat) (N : Nat) (Z : AZ) (i0 : Int32) (i1 : Int32) (i2 : Int32) (I : AI) : Option ((Unit ⊕ String) × AI) :=
  if i0 < i1 then
    f138_b10 kad N Z  I
  else
    if i0 ≤ i2 then
      some (.inl (), I)
    else
      f138_b10 kad N Z  I
set_option maxRecDepth 20000 in
theorem Tf138 {kad : Nat → Nat} {N : Nat} {Z : AZ} {d : Nat} {t : Option Nat × (Nat × Nat)} (hd : 0 ≤ d) : ∀ (i0 : Int32) (i1 : Int32) (i2 : Int32) (I : AI) (r : (Unit ⊕ String) × AI), f138 kad N Z i0 i1 i2 I = some r → aGo kad d 138 (0, ([(0, .int i0), (1, .int i1), (2, .int i2)], [])) (aMem Z I, t) (qX tvV Z t r) := by
  intro i0 i1 i2 I r h
  unfold f138 at h
  refine go_ops aMi138 2 _ (f1 := (2, ([(0, .int i0), (1, .int i1), (2, .int i2)], [.int i1, .int i0]))) rfl ?_
  refine gg_br (b := decide (i0 < i1)) (tg := 10) (off := 8) aMi138 rfl rfl rfl rfl (fun hb => ?_) (fun hb => ?_)
  · rw [if_pos (of_decide_eq_true hb)] at h
    refine go_le (lv1 := []) (aLe_of (show (List.map (fun q => q.1) ([] : ALv)).Nodup from (by show ([] : List Nat).Nodup; decide)) aSubL_nil) ?_
    exact Tf138_b10 hd  I _ h
  · rw [if_neg (of_decide_eq_false hb)] at h
    refine go_ops aMi138 2 _ (f1 := (7, ([(0, .int i0), (1, .int i1), (2, .int i2)], [.int i2, .int i0]))) rfl ?_
    refine gg_br (b := decide (i0 ≤ i2)) (tg := 20) (off := 13) aMi138 rfl rfl rfl rfl (fun hb => ?_) (fun hb => ?_)
    · rw [if_pos (of_decide_eq_true hb)] at h
      cases h
      exact go_ret aMi138 rfl rfl qX_ret
    · rw [if_neg (of_decide_eq_false hb)] at h
      refine go_le (lv1 := []) (aLe_of (show (List.map (fun q => q.1) ([] : ALv)).Nodup from (by show ([] : List Nat).Nodup; decide)) aSubL_nil) ?_
      exact Tf138_b10 hd  I _ h
-- KernelGym.addLine (LKernelGym$Does;III)I
def f142 (kad : Nat → Nat) (N : Nat) (Z : AZ) (a0 : Nat) (a1 : Nat) (i2 : Int32) (i3 : Int32) (i4 : Int32) (I : AI) : Option ((Int32 ⊕ String) × AI) :=
  (gR Z I 10 0 a0).bind fun b1_1 =>
  (gI Z I 0 0 b1_1).bind fun x4_2 =>
  if x4_2 < (100 : Int32) then
    (gR Z I 10 0 a0).bind fun b23_3 =>
    (isK Z b23_3 0).bind fun u31_4 =>
    (f2 kad N Z b23_3 a1 i2 i3 i4 I).bind fun r31_5 =>
    some (.inl r31_5.1, r31_5.2)
  else
    some (.inr (aEC 1), I)
set_option maxRecDepth 20000 in
theorem Tf142 {kad : Nat → Nat} {N : Nat} {Z : AZ} {d : Nat} {t : Option Nat × (Nat × Nat)} (hd : 1 ≤ d) : ∀ (a0 : Nat) (a1 : Nat) (i2 : Int32) (i3 : Int32) (i4 : Int32) (I : AI) (r : (Int32 ⊕ String) × AI), f142 kad N Z a0 a1 i2 i3 i4 I = some r → aGo kad d 142 (0, ([(0, .ref a0), (1, .ref a1), (2, .int i2), (3, .int i3), (4, .int i4)], [])) (aMem Z I, t) (qX tvI Z t r) := by
  intro a0 a1 i2 i3 i4 I r h
  unfold f142 at h
  refine go_ops aMi142 1 _ (f1 := (1, ([(0, .ref a0), (1, .ref a1), (2, .int i2), (3, .int i3), (4, .int i4)], [.ref a0]))) rfl ?_
  obtain ⟨b1_1, hxb1_1, h⟩ := Option.bind_eq_some_iff.mp h
  refine gg_gR aMi142 rfl rfl rfl hxb1_1 ?_
  obtain ⟨x4_2, hxx4_2, h⟩ := Option.bind_eq_some_iff.mp h
  refine gg_gI aMi142 rfl rfl rfl hxx4_2 ?_
  refine go_ops aMi142 1 _ (f1 := (9, ([(0, .ref a0), (1, .ref a1), (2, .int i2), (3, .int i3), (4, .int i4)], [.int (100 : Int32), .int x4_2]))) rfl ?_
  refine gg_br (b := decide (x4_2 < (100 : Int32))) (tg := 22) (off := 13) aMi142 rfl rfl rfl rfl (fun hb => ?_) (fun hb => ?_)
  · rw [if_pos (of_decide_eq_true hb)] at h
    refine go_ops aMi142 1 _ (f1 := (23, ([(0, .ref a0), (1, .ref a1), (2, .int i2), (3, .int i3), (4, .int i4)], [.ref a0]))) rfl ?_
    obtain ⟨b23_3, hxb23_3, h⟩ := Option.bind_eq_some_iff.mp h
    refine gg_gR aMi142 rfl rfl rfl hxb23_3 ?_
    refine go_ops aMi142 4 _ (f1 := (31, ([(0, .ref a0), (1, .ref a1), (2, .int i2), (3, .int i3), (4, .int i4)], [.int i4, .int i3, .int i2, .ref a1, .ref b23_3]))) rfl ?_
    obtain ⟨u31_4, hxu31_4, h⟩ := Option.bind_eq_some_iff.mp h
    obtain ⟨r31_5, hxr31_5, h⟩ := Option.bind_eq_some_iff.mp h
    refine gg_cv (as := [.ref a1, .int i2, .int i3, .int i4]) (r := []) aMi142 rfl rfl rfl aMi2 (Nat.le_of_ble_eq_true rfl) rfl (Nat.le_of_ble_eq_true rfl) (Nat.le_of_ble_eq_true rfl) (by omega) hxu31_4 (Tf2 (by omega) b23_3 a1 i2 i3 i4 I _ hxr31_5) ?_
    show aGo kad d 142 (34, ([(0, .ref a0), (1, .ref a1), (2, .int i2), (3, .int i3), (4, .int i4)], [.int r31_5.1])) (aMem Z r31_5.2, t) _
    cases h
    exact go_ret aMi142 rfl aRetI qX_ret
  · rw [if_neg (of_decide_eq_false hb)] at h
    cases h
    exact go_thr (E := aEC 1) aMi142 rfl rfl rfl rfl rfl rfl qX_thr
-- KernelGym.addLine (LKernelGym$Does;I)I
def f141 (kad : Nat → Nat) (N : Nat) (Z : AZ) (a0 : Nat) (a1 : Nat) (i2 : Int32) (I : AI) : Option ((Int32 ⊕ String) × AI) :=
  (isK Z a0 10).bind fun u5_1 =>
  (f142 kad N Z a0 a1 i2 (0 : Int32) (0 : Int32) I).bind fun r5_2 =>
  xB r5_2 fun vr5_2 Ir5_2 =>
  some (.inl vr5_2, Ir5_2)
set_option maxRecDepth 20000 in
theorem Tf141 {kad : Nat → Nat} {N : Nat} {Z : AZ} {d : Nat} {t : Option Nat × (Nat × Nat)} (hd : 2 ≤ d) : ∀ (a0 : Nat) (a1 : Nat) (i2 : Int32) (I : AI) (r : (Int32 ⊕ String) × AI), f141 kad N Z a0 a1 i2 I = some r → aGo kad d 141 (0, ([(0, .ref a0), (1, .ref a1), (2, .int i2)], [])) (aMem Z I, t) (qX tvI Z t r) := by
  intro a0 a1 i2 I r h
  unfold f141 at h
  refine go_ops aMi141 5 _ (f1 := (5, ([(0, .ref a0), (1, .ref a1), (2, .int i2)], [.int (0 : Int32), .int (0 : Int32), .int i2, .ref a1, .ref a0]))) rfl ?_
  obtain ⟨u5_1, hxu5_1, h⟩ := Option.bind_eq_some_iff.mp h
  obtain ⟨r5_2, hxr5_2, h⟩ := Option.bind_eq_some_iff.mp h
  rcases xB_eq h with ⟨vr5_2, Ir5_2, her5_2, h2⟩ | ⟨Er5_2, Ir5_2, her5_2, h2⟩
  rotate_left
  · clear h
    subst her5_2
    subst h2
    exact gg_cvt (as := [.ref a1, .int i2, .int (0 : Int32), .int (0 : Int32)]) (r := []) aMi141 rfl rfl rfl aMi142 (Nat.le_of_ble_eq_true rfl) rfl (Nat.le_of_ble_eq_true rfl) (Nat.le_of_ble_eq_true rfl) (by omega) hxu5_1 (Tf142 (by omega) a0 a1 i2 (0 : Int32) (0 : Int32) I _ hxr5_2) qX_thr
  clear h
  subst her5_2
  have h := h2
  clear h2
  refine gg_cv (as := [.ref a1, .int i2, .int (0 : Int32), .int (0 : Int32)]) (r := []) aMi141 rfl rfl rfl aMi142 (Nat.le_of_ble_eq_true rfl) rfl (Nat.le_of_ble_eq_true rfl) (Nat.le_of_ble_eq_true rfl) (by omega) hxu5_1 (Tf142 (by omega) a0 a1 i2 (0 : Int32) (0 : Int32) I _ hxr5_2) ?_
  show aGo kad d 141 (8, ([(0, .ref a0), (1, .ref a1), (2, .int i2)], [.int vr5_2])) (aMem Z Ir5_2, t) _
  cases h
  exact go_ret aMi141 rfl aRetI qX_ret
-- KernelGym.section (I)I
def f126 (kad : Nat → Nat) (N : Nat) (Z : AZ) (a0 : Nat) (i1 : Int32) (I : AI) : Option ((Int32 ⊕ String) × AI) :=
  (f138 kad N Z i1 (0 : Int32) (1 : Int32) I).bind fun r3_1 =>
  xB r3_1 fun vr3_1 Ir3_1 =>
  (isK Z a0 10).bind fun u11_2 =>
  (f141 kad N Z a0 (kad 0) i1 Ir3_1).bind fun r11_3 =>
  xB r11_3 fun vr11_3 Ir11_3 =>
  some (.inl vr11_3, Ir11_3)
set_option maxRecDepth 20000 in
theorem Tf126 {kad : Nat → Nat} {N : Nat} {Z : AZ} {d : Nat} {t : Option Nat × (Nat × Nat)} (hd : 3 ≤ d) : ∀ (a0 : Nat) (i1 : Int32) (I : AI) (r : (Int32 ⊕ String) × AI), f126 kad N Z a0 i1 I = some r → aGo kad d 126 (0, ([(0, .ref a0), (1, .int i1)], [])) (aMem Z I, t) (qX tvI Z t r) := by
  intro a0 i1 I r h
  unfold f126 at h
  refine go_ops aMi126 3 _ (f1 := (3, ([(0, .ref a0), (1, .int i1)], [.int (1 : Int32), .int (0 : Int32), .int i1]))) rfl ?_
  obtain ⟨r3_1, hxr3_1, h⟩ := Option.bind_eq_some_iff.mp h
  rcases xB_eq h with ⟨vr3_1, Ir3_1, her3_1, h2⟩ | ⟨Er3_1, Ir3_1, her3_1, h2⟩
  rotate_left
  · clear h
    subst her3_1
    subst h2
    exact gg_cst (as := [.int i1, .int (0 : Int32), .int (1 : Int32)]) (r := []) aMi126 rfl rfl rfl aMi138 rfl (Nat.le_of_ble_eq_true rfl) (Nat.le_of_ble_eq_true rfl) (by omega) (Tf138 (by omega) i1 (0 : Int32) (1 : Int32) I _ hxr3_1) qX_thr
  clear h
  subst her3_1
  have h := h2
  clear h2
  refine gg_cs (as := [.int i1, .int (0 : Int32), .int (1 : Int32)]) (r := []) aMi126 rfl rfl rfl aMi138 rfl (Nat.le_of_ble_eq_true rfl) (Nat.le_of_ble_eq_true rfl) (by omega) (Tf138 (by omega) i1 (0 : Int32) (1 : Int32) I _ hxr3_1) ?_
  show aGo kad d 126 (6, ([(0, .ref a0), (1, .int i1)], [])) (aMem Z Ir3_1, t) _
  refine go_ops aMi126 1 _ (f1 := (7, ([(0, .ref a0), (1, .int i1)], [.ref a0]))) rfl ?_
  refine gg_gs aMi126 rfl rfl ?_
  refine go_ops aMi126 1 _ (f1 := (11, ([(0, .ref a0), (1, .int i1)], [.int i1, .ref (kad 0), .ref a0]))) rfl ?_
  obtain ⟨u11_2, hxu11_2, h⟩ := Option.bind_eq_some_iff.mp h
  obtain ⟨r11_3, hxr11_3, h⟩ := Option.bind_eq_some_iff.mp h
  rcases xB_eq h with ⟨vr11_3, Ir11_3, her11_3, h2⟩ | ⟨Er11_3, Ir11_3, her11_3, h2⟩
  rotate_left
  · clear h
    subst her11_3
    subst h2
    exact gg_cvt (as := [.ref (kad 0), .int i1]) (r := []) aMi126 rfl rfl rfl aMi141 (Nat.le_of_ble_eq_true rfl) rfl (Nat.le_of_ble_eq_true rfl) (Nat.le_of_ble_eq_true rfl) (by omega) hxu11_2 (Tf141 (by omega) a0 (kad 0) i1 Ir3_1 _ hxr11_3) qX_thr
  clear h
  subst her11_3
  have h := h2
  clear h2
  refine gg_cv (as := [.ref (kad 0), .int i1]) (r := []) aMi126 rfl rfl rfl aMi141 (Nat.le_of_ble_eq_true rfl) rfl (Nat.le_of_ble_eq_true rfl) (Nat.le_of_ble_eq_true rfl) (by omega) hxu11_2 (Tf141 (by omega) a0 (kad 0) i1 Ir3_1 _ hxr11_3) ?_
  show aGo kad d 126 (14, ([(0, .ref a0), (1, .int i1)], [.int vr11_3])) (aMem Z Ir11_3, t) _
  cases h
  exact go_ret aMi126 rfl aRetI qX_ret
-- KernelGym.label (I)I
def f127 (kad : Nat → Nat) (N : Nat) (Z : AZ) (a0 : Nat) (i1 : Int32) (I : AI) : Option ((Int32 ⊕ String) × AI) :=
  (f138 kad N Z i1 (0 : Int32) (19 : Int32) I).bind fun r4_1 =>
  xB r4_1 fun vr4_1 Ir4_1 =>
  (isK Z a0 10).bind fun u12_2 =>
  (f141 kad N Z a0 (kad 1) i1 Ir4_1).bind fun r12_3 =>
  xB r12_3 fun vr12_3 Ir12_3 =>
  some (.inl vr12_3, Ir12_3)
set_option maxRecDepth 20000 in
theorem Tf127 {kad : Nat → Nat} {N : Nat} {Z : AZ} {d : Nat} {t : Option Nat × (Nat × Nat)} (hd : 3 ≤ d) : ∀ (a0 : Nat) (i1 : Int32) (I : AI) (r : (Int32 ⊕ String) × AI), f127 kad N Z a0 i1 I = some r → aGo kad d 127 (0, ([(0, .ref a0), (1, .int i1)], [])) (aMem Z I, t) (qX tvI Z t r) := by
  intro a0 i1 I r h
  unfold f127 at h
  refine go_ops aMi127 3 _ (f1 := (4, ([(0, .ref a0), (1, .int i1)], [.int (19 : Int32), .int (0 : Int32), .int i1]))) rfl ?_
  obtain ⟨r4_1, hxr4_1, h⟩ := Option.bind_eq_some_iff.mp h
  rcases xB_eq h with ⟨vr4_1, Ir4_1, her4_1, h2⟩ | ⟨Er4_1, Ir4_1, her4_1, h2⟩
  rotate_left
  · clear h
    subst her4_1
    subst h2
    exact gg_cst (as := [.int i1, .int (0 : Int32), .int (19 : Int32)]) (r := []) aMi127 rfl rfl rfl aMi138 rfl (Nat.le_of_ble_eq_true rfl) (Nat.le_of_ble_eq_true rfl) (by omega) (Tf138 (by omega) i1 (0 : Int32) (19 : Int32) I _ hxr4_1) qX_thr
  clear h
  subst her4_1
  have h := h2
  clear h2
  refine gg_cs (as := [.int i1, .int (0 : Int32), .int (19 : Int32)]) (r := []) aMi127 rfl rfl rfl aMi138 rfl (Nat.le_of_ble_eq_true rfl) (Nat.le_of_ble_eq_true rfl) (by omega) (Tf138 (by omega) i1 (0 : Int32) (19 : Int32) I _ hxr4_1) ?_
  show aGo kad d 127 (7, ([(0, .ref a0), (1, .int i1)], [])) (aMem Z Ir4_1, t) _
  refine go_ops aMi127 1 _ (f1 := (8, ([(0, .ref a0), (1, .int i1)], [.ref a0]))) rfl ?_
  refine gg_gs aMi127 rfl rfl ?_
  refine go_ops aMi127 1 _ (f1 := (12, ([(0, .ref a0), (1, .int i1)], [.int i1, .ref (kad 1), .ref a0]))) rfl ?_
  obtain ⟨u12_2, hxu12_2, h⟩ := Option.bind_eq_some_iff.mp h
  obtain ⟨r12_3, hxr12_3, h⟩ := Option.bind_eq_some_iff.mp h
  rcases xB_eq h with ⟨vr12_3, Ir12_3, her12_3, h2⟩ | ⟨Er12_3, Ir12_3, her12_3, h2⟩
  rotate_left
  · clear h
    subst her12_3
    subst h2
    exact gg_cvt (as := [.ref (kad 1), .int i1]) (r := []) aMi127 rfl rfl rfl aMi141 (Nat.le_of_ble_eq_true rfl) rfl (Nat.le_of_ble_eq_true rfl) (Nat.le_of_ble_eq_true rfl) (by omega) hxu12_2 (Tf141 (by omega) a0 (kad 1) i1 Ir4_1 _ hxr12_3) qX_thr
  clear h
  subst her12_3
  have h := h2
  clear h2
  refine gg_cv (as := [.ref (kad 1), .int i1]) (r := []) aMi127 rfl rfl rfl aMi141 (Nat.le_of_ble_eq_true rfl) rfl (Nat.le_of_ble_eq_true rfl) (Nat.le_of_ble_eq_true rfl) (by omega) hxu12_2 (Tf141 (by omega) a0 (kad 1) i1 Ir4_1 _ hxr12_3) ?_
  show aGo kad d 127 (15, ([(0, .ref a0), (1, .int i1)], [.int vr12_3])) (aMem Z Ir12_3, t) _
  cases h
  exact go_ret aMi127 rfl aRetI qX_ret
-- KernelGym.requireOperand (II)V
def f139_b20 (kad : Nat → Nat) (N : Nat) (Z : AZ) (s0 : Int32) (s1 : Int32) (s2 : Int32) (I : AI) : Option ((Unit ⊕ String) × AI) :=
  (f138 kad N Z s2 s1 s0 I).bind fun r20_1 =>
  xB r20_1 fun vr20_1 Ir20_1 =>
  some (.inl (), Ir20_1)
set_option maxRecDepth 20000 in
theorem Tf139_b20 {kad : Nat → Nat} {N : Nat} {Z : AZ} {d : Nat} {t : Option Nat × (Nat × Nat)} (hd : 1 ≤ d) : ∀ (s0 : Int32) (s1 : Int32) (s2 : Int32) (I : AI) (r : (Unit ⊕ String) × AI), f139_b20 kad N Z s0 s1 s2 I = some r → aGo kad d 139 (20, ([], [.int s0, .int s1, .int s2])) (aMem Z I, t) (qX tvV Z t r) := by
  intro s0 s1 s2 I r h
  unfold f139_b20 at h
  obtain ⟨r20_1, hxr20_1, h⟩ := Option.bind_eq_some_iff.mp h
  rcases xB_eq h with ⟨vr20_1, Ir20_1, her20_1, h2⟩ | ⟨Er20_1, Ir20_1, her20_1, h2⟩
  rotate_left
  · clear h
    subst her20_1
    subst h2
    exact gg_cst (as := [.int s2, .int s1, .int s0]) (r := []) aMi139 rfl rfl rfl aMi138 rfl (Nat.le_of_ble_eq_true rfl) (Nat.le_of_ble_eq_true rfl) (by omega) (Tf138 (by omega) s2 s1 s0 I _ hxr20_1) qX_thr
  clear h
  subst her20_1
  have h := h2
  clear h2
  refine gg_cs (as := [.int s2, .int s1, .int s0]) (r := []) aMi139 rfl rfl rfl aMi138 rfl (Nat.le_of_ble_eq_true rfl) (Nat.le_of_ble_eq_true rfl) (by omega) (Tf138 (by omega) s2 s1 s0 I _ hxr20_1) ?_
  show aGo kad d 139 (23, ([], [])) (aMem Z Ir20_1, t) _
  cases h
  exact go_ret aMi139 rfl rfl qX_ret
def f139 (kad : Nat → Nat) (N : Nat) (Z : AZ) (i0 : Int32) (i1 : Int32) (I : AI) : Option ((Unit ⊕ String) × AI) :=
  (f138 kad N Z i0 (0 : Int32) (3 : Int32) I).bind fun r3_1 =>
  xB r3_1 fun vr3_1 Ir3_1 =>
  if ¬ i0 = (1 : Int32) then
    f139_b20 kad N Z (65535 : Int32) (0 : Int32) i1 Ir3_1
  else
    f139_b20 kad N Z (19 : Int32) (0 : Int32) i1 Ir3_1
set_option maxRecDepth 20000 in
theorem Tf139 {kad : Nat → Nat} {N : Nat} {Z : AZ} {d : Nat} {t : Option Nat × (Nat × Nat)} (hd : 1 ≤ d) : ∀ (i0 : Int32) (i1 : Int32) (I : AI) (r : (Unit ⊕ String) × AI), f139 kad N Z i0 i1 I = some r → aGo kad d 139 (0, ([(0, .int i0), (1, .int i1)], [])) (aMem Z I, t) (qX tvV Z t r) := by
  intro i0 i1 I r h
  unfold f139 at h
  refine go_ops aMi139 3 _ (f1 := (3, ([(0, .int i0), (1, .int i1)], [.int (3 : Int32), .int (0 : Int32), .int i0]))) rfl ?_
  obtain ⟨r3_1, hxr3_1, h⟩ := Option.bind_eq_some_iff.mp h
  rcases xB_eq h with ⟨vr3_1, Ir3_1, her3_1, h2⟩ | ⟨Er3_1, Ir3_1, her3_1, h2⟩
  rotate_left
  · clear h
    subst her3_1
    subst h2
    exact gg_cst (as := [.int i0, .int (0 : Int32), .int (3 : Int32)]) (r := []) aMi139 rfl rfl rfl aMi138 rfl (Nat.le_of_ble_eq_true rfl) (Nat.le_of_ble_eq_true rfl) (by omega) (Tf138 (by omega) i0 (0 : Int32) (3 : Int32) I _ hxr3_1) qX_thr
  clear h
  subst her3_1
  have h := h2
  clear h2
  refine gg_cs (as := [.int i0, .int (0 : Int32), .int (3 : Int32)]) (r := []) aMi139 rfl rfl rfl aMi138 rfl (Nat.le_of_ble_eq_true rfl) (Nat.le_of_ble_eq_true rfl) (by omega) (Tf138 (by omega) i0 (0 : Int32) (3 : Int32) I _ hxr3_1) ?_
  show aGo kad d 139 (6, ([(0, .int i0), (1, .int i1)], [])) (aMem Z Ir3_1, t) _
  refine go_ops aMi139 4 _ (f1 := (10, ([(0, .int i0), (1, .int i1)], [.int (1 : Int32), .int i0, .int (0 : Int32), .int i1]))) rfl ?_
  refine gg_br (b := decide (¬ i0 = (1 : Int32))) (tg := 18) (off := 8) aMi139 rfl rfl rfl rfl (fun hb => ?_) (fun hb => ?_)
  · rw [if_pos (of_decide_eq_true hb)] at h
    refine gg_kI (Or.inl ⟨rfl, rfl⟩) aMi139 rfl rfl ?_
    refine go_le (lv1 := []) (aLe_of (show (List.map (fun q => q.1) ([] : ALv)).Nodup from (by show ([] : List Nat).Nodup; decide)) aSubL_nil) ?_
    exact Tf139_b20 hd (65535 : Int32) (0 : Int32) i1 Ir3_1 _ h
  · rw [if_neg (of_decide_eq_false hb)] at h
    refine go_ops aMi139 2 _ (f1 := (20, ([(0, .int i0), (1, .int i1)], [.int (19 : Int32), .int (0 : Int32), .int i1]))) rfl ?_
    refine go_le (lv1 := []) (aLe_of (show (List.map (fun q => q.1) ([] : ALv)).Nodup from (by show ([] : List Nat).Nodup; decide)) aSubL_nil) ?_
    exact Tf139_b20 hd (19 : Int32) (0 : Int32) i1 Ir3_1 _ h
-- KernelGym.code (IIIII)I
def f128 (kad : Nat → Nat) (N : Nat) (Z : AZ) (a0 : Nat) (i1 : Int32) (i2 : Int32) (i3 : Int32) (i4 : Int32) (i5 : Int32) (I : AI) : Option ((Int32 ⊕ String) × AI) :=
  (f138 kad N Z i1 (0 : Int32) (26 : Int32) I).bind fun r4_1 =>
  xB r4_1 fun vr4_1 Ir4_1 =>
  (f138 kad N Z i2 (0 : Int32) (3 : Int32) Ir4_1).bind fun r10_2 =>
  xB r10_2 fun vr10_2 Ir10_2 =>
  (f138 kad N Z i3 (0 : Int32) (3 : Int32) Ir10_2).bind fun r16_3 =>
  xB r16_3 fun vr16_3 Ir16_3 =>
  (f139 kad N Z i4 i5 Ir16_3).bind fun r23_4 =>
  xB r23_4 fun vr23_4 Ir23_4 =>
  (isK Z a0 10).bind fun u44_5 =>
  (f142 kad N Z a0 (kad 2) ((((16 : Int32) * i1) + ((4 : Int32) * i2)) + i3) i4 i5 Ir23_4).bind fun r44_6 =>
  xB r44_6 fun vr44_6 Ir44_6 =>
  some (.inl vr44_6, Ir44_6)
set_option maxRecDepth 20000 in
theorem Tf128 {kad : Nat → Nat} {N : Nat} {Z : AZ} {d : Nat} {t : Option Nat × (Nat × Nat)} (hd : 2 ≤ d) : ∀ (a0 : Nat) (i1 : Int32) (i2 : Int32) (i3 : Int32) (i4 : Int32) (i5 : Int32) (I : AI) (r : (Int32 ⊕ String) × AI), f128 kad N Z a0 i1 i2 i3 i4 i5 I = some r → aGo kad d 128 (0, ([(0, .ref a0), (1, .int i1), (2, .int i2), (3, .int i3), (4, .int i4), (5, .int i5)], [])) (aMem Z I, t) (qX tvI Z t r) := by
  intro a0 i1 i2 i3 i4 i5 I r h
  unfold f128 at h
  refine go_ops aMi128 3 _ (f1 := (4, ([(0, .ref a0), (1, .int i1), (2, .int i2), (3, .int i3), (4, .int i4), (5, .int i5)], [.int (26 : Int32), .int (0 : Int32), .int i1]))) rfl ?_
  obtain ⟨r4_1, hxr4_1, h⟩ := Option.bind_eq_some_iff.mp h
  rcases xB_eq h with ⟨vr4_1, Ir4_1, her4_1, h2⟩ | ⟨Er4_1, Ir4_1, her4_1, h2⟩
  rotate_left
  · clear h
    subst her4_1
    subst h2
    exact gg_cst (as := [.int i1, .int (0 : Int32), .int (26 : Int32)]) (r := []) aMi128 rfl rfl rfl aMi138 rfl (Nat.le_of_ble_eq_true rfl) (Nat.le_of_ble_eq_true rfl) (by omega) (Tf138 (by omega) i1 (0 : Int32) (26 : Int32) I _ hxr4_1) qX_thr
  clear h
  subst her4_1
  have h := h2
  clear h2
  refine gg_cs (as := [.int i1, .int (0 : Int32), .int (26 : Int32)]) (r := []) aMi128 rfl rfl rfl aMi138 rfl (Nat.le_of_ble_eq_true rfl) (Nat.le_of_ble_eq_true rfl) (by omega) (Tf138 (by omega) i1 (0 : Int32) (26 : Int32) I _ hxr4_1) ?_
  show aGo kad d 128 (7, ([(0, .ref a0), (1, .int i1), (2, .int i2), (3, .int i3), (4, .int i4), (5, .int i5)], [])) (aMem Z Ir4_1, t) _
  refine go_ops aMi128 3 _ (f1 := (10, ([(0, .ref a0), (1, .int i1), (2, .int i2), (3, .int i3), (4, .int i4), (5, .int i5)], [.int (3 : Int32), .int (0 : Int32), .int i2]))) rfl ?_
  obtain ⟨r10_2, hxr10_2, h⟩ := Option.bind_eq_some_iff.mp h
  rcases xB_eq h with ⟨vr10_2, Ir10_2, her10_2, h2⟩ | ⟨Er10_2, Ir10_2, her10_2, h2⟩
  rotate_left
  · clear h
    subst her10_2
    subst h2
    exact gg_cst (as := [.int i2, .int (0 : Int32), .int (3 : Int32)]) (r := []) aMi128 rfl rfl rfl aMi138 rfl (Nat.le_of_ble_eq_true rfl) (Nat.le_of_ble_eq_true rfl) (by omega) (Tf138 (by omega) i2 (0 : Int32) (3 : Int32) Ir4_1 _ hxr10_2) qX_thr
  clear h
  subst her10_2
  have h := h2
  clear h2
  refine gg_cs (as := [.int i2, .int (0 : Int32), .int (3 : Int32)]) (r := []) aMi128 rfl rfl rfl aMi138 rfl (Nat.le_of_ble_eq_true rfl) (Nat.le_of_ble_eq_true rfl) (by omega) (Tf138 (by omega) i2 (0 : Int32) (3 : Int32) Ir4_1 _ hxr10_2) ?_
  show aGo kad d 128 (13, ([(0, .ref a0), (1, .int i1), (2, .int i2), (3, .int i3), (4, .int i4), (5, .int i5)], [])) (aMem Z Ir10_2, t) _
  refine go_ops aMi128 3 _ (f1 := (16, ([(0, .ref a0), (1, .int i1), (2, .int i2), (3, .int i3), (4, .int i4), (5, .int i5)], [.int (3 : Int32), .int (0 : Int32), .int i3]))) rfl ?_
  obtain ⟨r16_3, hxr16_3, h⟩ := Option.bind_eq_some_iff.mp h
  rcases xB_eq h with ⟨vr16_3, Ir16_3, her16_3, h2⟩ | ⟨Er16_3, Ir16_3, her16_3, h2⟩
  rotate_left
  · clear h
    subst her16_3
    subst h2
    exact gg_cst (as := [.int i3, .int (0 : Int32), .int (3 : Int32)]) (r := []) aMi128 rfl rfl rfl aMi138 rfl (Nat.le_of_ble_eq_true rfl) (Nat.le_of_ble_eq_true rfl) (by omega) (Tf138 (by omega) i3 (0 : Int32) (3 : Int32) Ir10_2 _ hxr16_3) qX_thr
  clear h
  subst her16_3
  have h := h2
  clear h2
  refine gg_cs (as := [.int i3, .int (0 : Int32), .int (3 : Int32)]) (r := []) aMi128 rfl rfl rfl aMi138 rfl (Nat.le_of_ble_eq_true rfl) (Nat.le_of_ble_eq_true rfl) (by omega) (Tf138 (by omega) i3 (0 : Int32) (3 : Int32) Ir10_2 _ hxr16_3) ?_
  show aGo kad d 128 (19, ([(0, .ref a0), (1, .int i1), (2, .int i2), (3, .int i3), (4, .int i4), (5, .int i5)], [])) (aMem Z Ir16_3, t) _
  refine go_ops aMi128 2 _ (f1 := (23, ([(0, .ref a0), (1, .int i1), (2, .int i2), (3, .int i3), (4, .int i4), (5, .int i5)], [.int i5, .int i4]))) rfl ?_
  obtain ⟨r23_4, hxr23_4, h⟩ := Option.bind_eq_some_iff.mp h
  rcases xB_eq h with ⟨vr23_4, Ir23_4, her23_4, h2⟩ | ⟨Er23_4, Ir23_4, her23_4, h2⟩
  rotate_left
  · clear h
    subst her23_4
    subst h2
    exact gg_cst (as := [.int i4, .int i5]) (r := []) aMi128 rfl rfl rfl aMi139 rfl (Nat.le_of_ble_eq_true rfl) (Nat.le_of_ble_eq_true rfl) (by omega) (Tf139 (by omega) i4 i5 Ir16_3 _ hxr23_4) qX_thr
  clear h
  subst her23_4
  have h := h2
  clear h2
  refine gg_cs (as := [.int i4, .int i5]) (r := []) aMi128 rfl rfl rfl aMi139 rfl (Nat.le_of_ble_eq_true rfl) (Nat.le_of_ble_eq_true rfl) (by omega) (Tf139 (by omega) i4 i5 Ir16_3 _ hxr23_4) ?_
  show aGo kad d 128 (26, ([(0, .ref a0), (1, .int i1), (2, .int i2), (3, .int i3), (4, .int i4), (5, .int i5)], [])) (aMem Z Ir23_4, t) _
  refine go_ops aMi128 1 _ (f1 := (27, ([(0, .ref a0), (1, .int i1), (2, .int i2), (3, .int i3), (4, .int i4), (5, .int i5)], [.ref a0]))) rfl ?_
  refine gg_gs aMi128 rfl rfl ?_
  refine go_ops aMi128 11 _ (f1 := (44, ([(0, .ref a0), (1, .int i1), (2, .int i2), (3, .int i3), (4, .int i4), (5, .int i5)], [.int i5, .int i4, .int ((((16 : Int32) * i1) + ((4 : Int32) * i2)) + i3), .ref (kad 2), .ref a0]))) rfl ?_
  obtain ⟨u44_5, hxu44_5, h⟩ := Option.bind_eq_some_iff.mp h
  obtain ⟨r44_6, hxr44_6, h⟩ := Option.bind_eq_some_iff.mp h
  rcases xB_eq h with ⟨vr44_6, Ir44_6, her44_6, h2⟩ | ⟨Er44_6, Ir44_6, her44_6, h2⟩
  rotate_left
  · clear h
    subst her44_6
    subst h2
    exact gg_cvt (as := [.ref (kad 2), .int ((((16 : Int32) * i1) + ((4 : Int32) * i2)) + i3), .int i4, .int i5]) (r := []) aMi128 rfl rfl rfl aMi142 (Nat.le_of_ble_eq_true rfl) rfl (Nat.le_of_ble_eq_true rfl) (Nat.le_of_ble_eq_true rfl) (by omega) hxu44_5 (Tf142 (by omega) a0 (kad 2) ((((16 : Int32) * i1) + ((4 : Int32) * i2)) + i3) i4 i5 Ir23_4 _ hxr44_6) qX_thr
  clear h
  subst her44_6
  have h := h2
  clear h2
  refine gg_cv (as := [.ref (kad 2), .int ((((16 : Int32) * i1) + ((4 : Int32) * i2)) + i3), .int i4, .int i5]) (r := []) aMi128 rfl rfl rfl aMi142 (Nat.le_of_ble_eq_true rfl) rfl (Nat.le_of_ble_eq_true rfl) (Nat.le_of_ble_eq_true rfl) (by omega) hxu44_5 (Tf142 (by omega) a0 (kad 2) ((((16 : Int32) * i1) + ((4 : Int32) * i2)) + i3) i4 i5 Ir23_4 _ hxr44_6) ?_
  show aGo kad d 128 (47, ([(0, .ref a0), (1, .int i1), (2, .int i2), (3, .int i3), (4, .int i4), (5, .int i5)], [.int vr44_6])) (aMem Z Ir44_6, t) _
  cases h
  exact go_ret aMi128 rfl aRetI qX_ret
-- KernelGym.word (II)I
def f129 (kad : Nat → Nat) (N : Nat) (Z : AZ) (a0 : Nat) (i1 : Int32) (i2 : Int32) (I : AI) : Option ((Int32 ⊕ String) × AI) :=
  (f139 kad N Z i1 i2 I).bind fun r2_1 =>
  xB r2_1 fun vr2_1 Ir2_1 =>
  (isK Z a0 10).bind fun u12_2 =>
  (f142 kad N Z a0 (kad 3) (0 : Int32) i1 i2 Ir2_1).bind fun r12_3 =>
  xB r12_3 fun vr12_3 Ir12_3 =>
  some (.inl vr12_3, Ir12_3)
set_option maxRecDepth 20000 in
theorem Tf129 {kad : Nat → Nat} {N : Nat} {Z : AZ} {d : Nat} {t : Option Nat × (Nat × Nat)} (hd : 2 ≤ d) : ∀ (a0 : Nat) (i1 : Int32) (i2 : Int32) (I : AI) (r : (Int32 ⊕ String) × AI), f129 kad N Z a0 i1 i2 I = some r → aGo kad d 129 (0, ([(0, .ref a0), (1, .int i1), (2, .int i2)], [])) (aMem Z I, t) (qX tvI Z t r) := by
  intro a0 i1 i2 I r h
  unfold f129 at h
  refine go_ops aMi129 2 _ (f1 := (2, ([(0, .ref a0), (1, .int i1), (2, .int i2)], [.int i2, .int i1]))) rfl ?_
  obtain ⟨r2_1, hxr2_1, h⟩ := Option.bind_eq_some_iff.mp h
  rcases xB_eq h with ⟨vr2_1, Ir2_1, her2_1, h2⟩ | ⟨Er2_1, Ir2_1, her2_1, h2⟩
  rotate_left
  · clear h
    subst her2_1
    subst h2
    exact gg_cst (as := [.int i1, .int i2]) (r := []) aMi129 rfl rfl rfl aMi139 rfl (Nat.le_of_ble_eq_true rfl) (Nat.le_of_ble_eq_true rfl) (by omega) (Tf139 (by omega) i1 i2 I _ hxr2_1) qX_thr
  clear h
  subst her2_1
  have h := h2
  clear h2
  refine gg_cs (as := [.int i1, .int i2]) (r := []) aMi129 rfl rfl rfl aMi139 rfl (Nat.le_of_ble_eq_true rfl) (Nat.le_of_ble_eq_true rfl) (by omega) (Tf139 (by omega) i1 i2 I _ hxr2_1) ?_
  show aGo kad d 129 (5, ([(0, .ref a0), (1, .int i1), (2, .int i2)], [])) (aMem Z Ir2_1, t) _
  refine go_ops aMi129 1 _ (f1 := (6, ([(0, .ref a0), (1, .int i1), (2, .int i2)], [.ref a0]))) rfl ?_
  refine gg_gs aMi129 rfl rfl ?_
  refine go_ops aMi129 3 _ (f1 := (12, ([(0, .ref a0), (1, .int i1), (2, .int i2)], [.int i2, .int i1, .int (0 : Int32), .ref (kad 3), .ref a0]))) rfl ?_
  obtain ⟨u12_2, hxu12_2, h⟩ := Option.bind_eq_some_iff.mp h
  obtain ⟨r12_3, hxr12_3, h⟩ := Option.bind_eq_some_iff.mp h
  rcases xB_eq h with ⟨vr12_3, Ir12_3, her12_3, h2⟩ | ⟨Er12_3, Ir12_3, her12_3, h2⟩
  rotate_left
  · clear h
    subst her12_3
    subst h2
    exact gg_cvt (as := [.ref (kad 3), .int (0 : Int32), .int i1, .int i2]) (r := []) aMi129 rfl rfl rfl aMi142 (Nat.le_of_ble_eq_true rfl) rfl (Nat.le_of_ble_eq_true rfl) (Nat.le_of_ble_eq_true rfl) (by omega) hxu12_2 (Tf142 (by omega) a0 (kad 3) (0 : Int32) i1 i2 Ir2_1 _ hxr12_3) qX_thr
  clear h
  subst her12_3
  have h := h2
  clear h2
  refine gg_cv (as := [.ref (kad 3), .int (0 : Int32), .int i1, .int i2]) (r := []) aMi129 rfl rfl rfl aMi142 (Nat.le_of_ble_eq_true rfl) rfl (Nat.le_of_ble_eq_true rfl) (Nat.le_of_ble_eq_true rfl) (by omega) hxu12_2 (Tf142 (by omega) a0 (kad 3) (0 : Int32) i1 i2 Ir2_1 _ hxr12_3) ?_
  show aGo kad d 129 (15, ([(0, .ref a0), (1, .int i1), (2, .int i2)], [.int vr12_3])) (aMem Z Ir12_3, t) _
  cases h
  exact go_ret aMi129 rfl aRetI qX_ret
-- KernelGym.space (I)I
def f130 (kad : Nat → Nat) (N : Nat) (Z : AZ) (a0 : Nat) (i1 : Int32) (I : AI) : Option ((Int32 ⊕ String) × AI) :=
  (f138 kad N Z i1 (1 : Int32) (32 : Int32) I).bind fun r4_1 =>
  xB r4_1 fun vr4_1 Ir4_1 =>
  (isK Z a0 10).bind fun u12_2 =>
  (f141 kad N Z a0 (kad 4) i1 Ir4_1).bind fun r12_3 =>
  xB r12_3 fun vr12_3 Ir12_3 =>
  some (.inl vr12_3, Ir12_3)
set_option maxRecDepth 20000 in
theorem Tf130 {kad : Nat → Nat} {N : Nat} {Z : AZ} {d : Nat} {t : Option Nat × (Nat × Nat)} (hd : 3 ≤ d) : ∀ (a0 : Nat) (i1 : Int32) (I : AI) (r : (Int32 ⊕ String) × AI), f130 kad N Z a0 i1 I = some r → aGo kad d 130 (0, ([(0, .ref a0), (1, .int i1)], [])) (aMem Z I, t) (qX tvI Z t r) := by
  intro a0 i1 I r h
  unfold f130 at h
  refine go_ops aMi130 3 _ (f1 := (4, ([(0, .ref a0), (1, .int i1)], [.int (32 : Int32), .int (1 : Int32), .int i1]))) rfl ?_
  obtain ⟨r4_1, hxr4_1, h⟩ := Option.bind_eq_some_iff.mp h
  rcases xB_eq h with ⟨vr4_1, Ir4_1, her4_1, h2⟩ | ⟨Er4_1, Ir4_1, her4_1, h2⟩
  rotate_left
  · clear h
    subst her4_1
    subst h2
    exact gg_cst (as := [.int i1, .int (1 : Int32), .int (32 : Int32)]) (r := []) aMi130 rfl rfl rfl aMi138 rfl (Nat.le_of_ble_eq_true rfl) (Nat.le_of_ble_eq_true rfl) (by omega) (Tf138 (by omega) i1 (1 : Int32) (32 : Int32) I _ hxr4_1) qX_thr
  clear h
  subst her4_1
  have h := h2
  clear h2
  refine gg_cs (as := [.int i1, .int (1 : Int32), .int (32 : Int32)]) (r := []) aMi130 rfl rfl rfl aMi138 rfl (Nat.le_of_ble_eq_true rfl) (Nat.le_of_ble_eq_true rfl) (by omega) (Tf138 (by omega) i1 (1 : Int32) (32 : Int32) I _ hxr4_1) ?_
  show aGo kad d 130 (7, ([(0, .ref a0), (1, .int i1)], [])) (aMem Z Ir4_1, t) _
  refine go_ops aMi130 1 _ (f1 := (8, ([(0, .ref a0), (1, .int i1)], [.ref a0]))) rfl ?_
  refine gg_gs aMi130 rfl rfl ?_
  refine go_ops aMi130 1 _ (f1 := (12, ([(0, .ref a0), (1, .int i1)], [.int i1, .ref (kad 4), .ref a0]))) rfl ?_
  obtain ⟨u12_2, hxu12_2, h⟩ := Option.bind_eq_some_iff.mp h
  obtain ⟨r12_3, hxr12_3, h⟩ := Option.bind_eq_some_iff.mp h
  rcases xB_eq h with ⟨vr12_3, Ir12_3, her12_3, h2⟩ | ⟨Er12_3, Ir12_3, her12_3, h2⟩
  rotate_left
  · clear h
    subst her12_3
    subst h2
    exact gg_cvt (as := [.ref (kad 4), .int i1]) (r := []) aMi130 rfl rfl rfl aMi141 (Nat.le_of_ble_eq_true rfl) rfl (Nat.le_of_ble_eq_true rfl) (Nat.le_of_ble_eq_true rfl) (by omega) hxu12_2 (Tf141 (by omega) a0 (kad 4) i1 Ir4_1 _ hxr12_3) qX_thr
  clear h
  subst her12_3
  have h := h2
  clear h2
  refine gg_cv (as := [.ref (kad 4), .int i1]) (r := []) aMi130 rfl rfl rfl aMi141 (Nat.le_of_ble_eq_true rfl) rfl (Nat.le_of_ble_eq_true rfl) (Nat.le_of_ble_eq_true rfl) (by omega) hxu12_2 (Tf141 (by omega) a0 (kad 4) i1 Ir4_1 _ hxr12_3) ?_
  show aGo kad d 130 (15, ([(0, .ref a0), (1, .int i1)], [.int vr12_3])) (aMem Z Ir12_3, t) _
  cases h
  exact go_ret aMi130 rfl aRetI qX_ret
-- KernelGym.vector (III)I
def f131 (kad : Nat → Nat) (N : Nat) (Z : AZ) (a0 : Nat) (i1 : Int32) (i2 : Int32) (i3 : Int32) (I : AI) : Option ((Int32 ⊕ String) × AI) :=
  (f138 kad N Z i1 (0 : Int32) (1 : Int32) I).bind fun r3_1 =>
  xB r3_1 fun vr3_1 Ir3_1 =>
  (f139 kad N Z i2 i3 Ir3_1).bind fun r8_2 =>
  xB r8_2 fun vr8_2 Ir8_2 =>
  (isK Z a0 10).bind fun u18_3 =>
  (f142 kad N Z a0 (kad 5) i1 i2 i3 Ir8_2).bind fun r18_4 =>
  xB r18_4 fun vr18_4 Ir18_4 =>
  some (.inl vr18_4, Ir18_4)
set_option maxRecDepth 20000 in
theorem Tf131 {kad : Nat → Nat} {N : Nat} {Z : AZ} {d : Nat} {t : Option Nat × (Nat × Nat)} (hd : 2 ≤ d) : ∀ (a0 : Nat) (i1 : Int32) (i2 : Int32) (i3 : Int32) (I : AI) (r : (Int32 ⊕ String) × AI), f131 kad N Z a0 i1 i2 i3 I = some r → aGo kad d 131 (0, ([(0, .ref a0), (1, .int i1), (2, .int i2), (3, .int i3)], [])) (aMem Z I, t) (qX tvI Z t r) := by
  intro a0 i1 i2 i3 I r h
  unfold f131 at h
  refine go_ops aMi131 3 _ (f1 := (3, ([(0, .ref a0), (1, .int i1), (2, .int i2), (3, .int i3)], [.int (1 : Int32), .int (0 : Int32), .int i1]))) rfl ?_
  obtain ⟨r3_1, hxr3_1, h⟩ := Option.bind_eq_some_iff.mp h
  rcases xB_eq h with ⟨vr3_1, Ir3_1, her3_1, h2⟩ | ⟨Er3_1, Ir3_1, her3_1, h2⟩
  rotate_left
  · clear h
    subst her3_1
    subst h2
    exact gg_cst (as := [.int i1, .int (0 : Int32), .int (1 : Int32)]) (r := []) aMi131 rfl rfl rfl aMi138 rfl (Nat.le_of_ble_eq_true rfl) (Nat.le_of_ble_eq_true rfl) (by omega) (Tf138 (by omega) i1 (0 : Int32) (1 : Int32) I _ hxr3_1) qX_thr
  clear h
  subst her3_1
  have h := h2
  clear h2
  refine gg_cs (as := [.int i1, .int (0 : Int32), .int (1 : Int32)]) (r := []) aMi131 rfl rfl rfl aMi138 rfl (Nat.le_of_ble_eq_true rfl) (Nat.le_of_ble_eq_true rfl) (by omega) (Tf138 (by omega) i1 (0 : Int32) (1 : Int32) I _ hxr3_1) ?_
  show aGo kad d 131 (6, ([(0, .ref a0), (1, .int i1), (2, .int i2), (3, .int i3)], [])) (aMem Z Ir3_1, t) _
  refine go_ops aMi131 2 _ (f1 := (8, ([(0, .ref a0), (1, .int i1), (2, .int i2), (3, .int i3)], [.int i3, .int i2]))) rfl ?_
  obtain ⟨r8_2, hxr8_2, h⟩ := Option.bind_eq_some_iff.mp h
  rcases xB_eq h with ⟨vr8_2, Ir8_2, her8_2, h2⟩ | ⟨Er8_2, Ir8_2, her8_2, h2⟩
  rotate_left
  · clear h
    subst her8_2
    subst h2
    exact gg_cst (as := [.int i2, .int i3]) (r := []) aMi131 rfl rfl rfl aMi139 rfl (Nat.le_of_ble_eq_true rfl) (Nat.le_of_ble_eq_true rfl) (by omega) (Tf139 (by omega) i2 i3 Ir3_1 _ hxr8_2) qX_thr
  clear h
  subst her8_2
  have h := h2
  clear h2
  refine gg_cs (as := [.int i2, .int i3]) (r := []) aMi131 rfl rfl rfl aMi139 rfl (Nat.le_of_ble_eq_true rfl) (Nat.le_of_ble_eq_true rfl) (by omega) (Tf139 (by omega) i2 i3 Ir3_1 _ hxr8_2) ?_
  show aGo kad d 131 (11, ([(0, .ref a0), (1, .int i1), (2, .int i2), (3, .int i3)], [])) (aMem Z Ir8_2, t) _
  refine go_ops aMi131 1 _ (f1 := (12, ([(0, .ref a0), (1, .int i1), (2, .int i2), (3, .int i3)], [.ref a0]))) rfl ?_
  refine gg_gs aMi131 rfl rfl ?_
  refine go_ops aMi131 3 _ (f1 := (18, ([(0, .ref a0), (1, .int i1), (2, .int i2), (3, .int i3)], [.int i3, .int i2, .int i1, .ref (kad 5), .ref a0]))) rfl ?_
  obtain ⟨u18_3, hxu18_3, h⟩ := Option.bind_eq_some_iff.mp h
  obtain ⟨r18_4, hxr18_4, h⟩ := Option.bind_eq_some_iff.mp h
  rcases xB_eq h with ⟨vr18_4, Ir18_4, her18_4, h2⟩ | ⟨Er18_4, Ir18_4, her18_4, h2⟩
  rotate_left
  · clear h
    subst her18_4
    subst h2
    exact gg_cvt (as := [.ref (kad 5), .int i1, .int i2, .int i3]) (r := []) aMi131 rfl rfl rfl aMi142 (Nat.le_of_ble_eq_true rfl) rfl (Nat.le_of_ble_eq_true rfl) (Nat.le_of_ble_eq_true rfl) (by omega) hxu18_3 (Tf142 (by omega) a0 (kad 5) i1 i2 i3 Ir8_2 _ hxr18_4) qX_thr
  clear h
  subst her18_4
  have h := h2
  clear h2
  refine gg_cv (as := [.ref (kad 5), .int i1, .int i2, .int i3]) (r := []) aMi131 rfl rfl rfl aMi142 (Nat.le_of_ble_eq_true rfl) rfl (Nat.le_of_ble_eq_true rfl) (Nat.le_of_ble_eq_true rfl) (by omega) hxu18_3 (Tf142 (by omega) a0 (kad 5) i1 i2 i3 Ir8_2 _ hxr18_4) ?_
  show aGo kad d 131 (21, ([(0, .ref a0), (1, .int i1), (2, .int i2), (3, .int i3)], [.int vr18_4])) (aMem Z Ir18_4, t) _
  cases h
  exact go_ret aMi131 rfl aRetI qX_ret
-- KernelGym.macro (I)I
def f132 (kad : Nat → Nat) (N : Nat) (Z : AZ) (a0 : Nat) (i1 : Int32) (I : AI) : Option ((Int32 ⊕ String) × AI) :=
  (f138 kad N Z i1 (0 : Int32) (4 : Int32) I).bind fun r3_1 =>
  xB r3_1 fun vr3_1 Ir3_1 =>
  (isK Z a0 10).bind fun u11_2 =>
  (f141 kad N Z a0 (kad 6) i1 Ir3_1).bind fun r11_3 =>
  xB r11_3 fun vr11_3 Ir11_3 =>
  some (.inl vr11_3, Ir11_3)
set_option maxRecDepth 20000 in
theorem Tf132 {kad : Nat → Nat} {N : Nat} {Z : AZ} {d : Nat} {t : Option Nat × (Nat × Nat)} (hd : 3 ≤ d) : ∀ (a0 : Nat) (i1 : Int32) (I : AI) (r : (Int32 ⊕ String) × AI), f132 kad N Z a0 i1 I = some r → aGo kad d 132 (0, ([(0, .ref a0), (1, .int i1)], [])) (aMem Z I, t) (qX tvI Z t r) := by
  intro a0 i1 I r h
  unfold f132 at h
  refine go_ops aMi132 3 _ (f1 := (3, ([(0, .ref a0), (1, .int i1)], [.int (4 : Int32), .int (0 : Int32), .int i1]))) rfl ?_
  obtain ⟨r3_1, hxr3_1, h⟩ := Option.bind_eq_some_iff.mp h
  rcases xB_eq h with ⟨vr3_1, Ir3_1, her3_1, h2⟩ | ⟨Er3_1, Ir3_1, her3_1, h2⟩
  rotate_left
  · clear h
    subst her3_1
    subst h2
    exact gg_cst (as := [.int i1, .int (0 : Int32), .int (4 : Int32)]) (r := []) aMi132 rfl rfl rfl aMi138 rfl (Nat.le_of_ble_eq_true rfl) (Nat.le_of_ble_eq_true rfl) (by omega) (Tf138 (by omega) i1 (0 : Int32) (4 : Int32) I _ hxr3_1) qX_thr
  clear h
  subst her3_1
  have h := h2
  clear h2
  refine gg_cs (as := [.int i1, .int (0 : Int32), .int (4 : Int32)]) (r := []) aMi132 rfl rfl rfl aMi138 rfl (Nat.le_of_ble_eq_true rfl) (Nat.le_of_ble_eq_true rfl) (by omega) (Tf138 (by omega) i1 (0 : Int32) (4 : Int32) I _ hxr3_1) ?_
  show aGo kad d 132 (6, ([(0, .ref a0), (1, .int i1)], [])) (aMem Z Ir3_1, t) _
  refine go_ops aMi132 1 _ (f1 := (7, ([(0, .ref a0), (1, .int i1)], [.ref a0]))) rfl ?_
  refine gg_gs aMi132 rfl rfl ?_
  refine go_ops aMi132 1 _ (f1 := (11, ([(0, .ref a0), (1, .int i1)], [.int i1, .ref (kad 6), .ref a0]))) rfl ?_
  obtain ⟨u11_2, hxu11_2, h⟩ := Option.bind_eq_some_iff.mp h
  obtain ⟨r11_3, hxr11_3, h⟩ := Option.bind_eq_some_iff.mp h
  rcases xB_eq h with ⟨vr11_3, Ir11_3, her11_3, h2⟩ | ⟨Er11_3, Ir11_3, her11_3, h2⟩
  rotate_left
  · clear h
    subst her11_3
    subst h2
    exact gg_cvt (as := [.ref (kad 6), .int i1]) (r := []) aMi132 rfl rfl rfl aMi141 (Nat.le_of_ble_eq_true rfl) rfl (Nat.le_of_ble_eq_true rfl) (Nat.le_of_ble_eq_true rfl) (by omega) hxu11_2 (Tf141 (by omega) a0 (kad 6) i1 Ir3_1 _ hxr11_3) qX_thr
  clear h
  subst her11_3
  have h := h2
  clear h2
  refine gg_cv (as := [.ref (kad 6), .int i1]) (r := []) aMi132 rfl rfl rfl aMi141 (Nat.le_of_ble_eq_true rfl) rfl (Nat.le_of_ble_eq_true rfl) (Nat.le_of_ble_eq_true rfl) (by omega) hxu11_2 (Tf141 (by omega) a0 (kad 6) i1 Ir3_1 _ hxr11_3) ?_
  show aGo kad d 132 (14, ([(0, .ref a0), (1, .int i1)], [.int vr11_3])) (aMem Z Ir11_3, t) _
  cases h
  exact go_ret aMi132 rfl aRetI qX_ret
-- KernelGym.endMacro ()I
def f133 (kad : Nat → Nat) (N : Nat) (Z : AZ) (a0 : Nat) (I : AI) : Option ((Int32 ⊕ String) × AI) :=
  (isK Z a0 10).bind fun u5_1 =>
  (f141 kad N Z a0 (kad 7) (0 : Int32) I).bind fun r5_2 =>
  xB r5_2 fun vr5_2 Ir5_2 =>
  some (.inl vr5_2, Ir5_2)
set_option maxRecDepth 20000 in
theorem Tf133 {kad : Nat → Nat} {N : Nat} {Z : AZ} {d : Nat} {t : Option Nat × (Nat × Nat)} (hd : 3 ≤ d) : ∀ (a0 : Nat) (I : AI) (r : (Int32 ⊕ String) × AI), f133 kad N Z a0 I = some r → aGo kad d 133 (0, ([(0, .ref a0)], [])) (aMem Z I, t) (qX tvI Z t r) := by
  intro a0 I r h
  unfold f133 at h
  refine go_ops aMi133 1 _ (f1 := (1, ([(0, .ref a0)], [.ref a0]))) rfl ?_
  refine gg_gs aMi133 rfl rfl ?_
  refine go_ops aMi133 1 _ (f1 := (5, ([(0, .ref a0)], [.int (0 : Int32), .ref (kad 7), .ref a0]))) rfl ?_
  obtain ⟨u5_1, hxu5_1, h⟩ := Option.bind_eq_some_iff.mp h
  obtain ⟨r5_2, hxr5_2, h⟩ := Option.bind_eq_some_iff.mp h
  rcases xB_eq h with ⟨vr5_2, Ir5_2, her5_2, h2⟩ | ⟨Er5_2, Ir5_2, her5_2, h2⟩
  rotate_left
  · clear h
    subst her5_2
    subst h2
    exact gg_cvt (as := [.ref (kad 7), .int (0 : Int32)]) (r := []) aMi133 rfl rfl rfl aMi141 (Nat.le_of_ble_eq_true rfl) rfl (Nat.le_of_ble_eq_true rfl) (Nat.le_of_ble_eq_true rfl) (by omega) hxu5_1 (Tf141 (by omega) a0 (kad 7) (0 : Int32) I _ hxr5_2) qX_thr
  clear h
  subst her5_2
  have h := h2
  clear h2
  refine gg_cv (as := [.ref (kad 7), .int (0 : Int32)]) (r := []) aMi133 rfl rfl rfl aMi141 (Nat.le_of_ble_eq_true rfl) rfl (Nat.le_of_ble_eq_true rfl) (Nat.le_of_ble_eq_true rfl) (by omega) hxu5_1 (Tf141 (by omega) a0 (kad 7) (0 : Int32) I _ hxr5_2) ?_
  show aGo kad d 133 (8, ([(0, .ref a0)], [.int vr5_2])) (aMem Z Ir5_2, t) _
  cases h
  exact go_ret aMi133 rfl aRetI qX_ret
-- KernelGym.use (IIIII)I
def f134 (kad : Nat → Nat) (N : Nat) (Z : AZ) (a0 : Nat) (i1 : Int32) (i2 : Int32) (i3 : Int32) (i4 : Int32) (i5 : Int32) (I : AI) : Option ((Int32 ⊕ String) × AI) :=
  (f138 kad N Z i1 (0 : Int32) (4 : Int32) I).bind fun r3_1 =>
  xB r3_1 fun vr3_1 Ir3_1 =>
  (f139 kad N Z i2 i3 Ir3_1).bind fun r8_2 =>
  xB r8_2 fun vr8_2 Ir8_2 =>
  (f139 kad N Z i4 i5 Ir8_2).bind fun r15_3 =>
  xB r15_3 fun vr15_3 Ir15_3 =>
  (isK Z a0 10).bind fun u25_4 =>
  (f142 kad N Z a0 (kad 8) i1 i2 i3 Ir15_3).bind fun r25_5 =>
  xB r25_5 fun vr25_5 Ir25_5 =>
  (gR Z Ir25_5 10 0 a0).bind fun b31_6 =>
  (isK Z b31_6 0).bind fun u38_7 =>
  (f3 kad N Z b31_6 i4 i5 Ir25_5).bind fun r38_8 =>
  some (.inl vr25_5, r38_8.2)
set_option maxRecDepth 20000 in
theorem Tf134 {kad : Nat → Nat} {N : Nat} {Z : AZ} {d : Nat} {t : Option Nat × (Nat × Nat)} (hd : 2 ≤ d) : ∀ (a0 : Nat) (i1 : Int32) (i2 : Int32) (i3 : Int32) (i4 : Int32) (i5 : Int32) (I : AI) (r : (Int32 ⊕ String) × AI), f134 kad N Z a0 i1 i2 i3 i4 i5 I = some r → aGo kad d 134 (0, ([(0, .ref a0), (1, .int i1), (2, .int i2), (3, .int i3), (4, .int i4), (5, .int i5)], [])) (aMem Z I, t) (qX tvI Z t r) := by
  intro a0 i1 i2 i3 i4 i5 I r h
  unfold f134 at h
  refine go_ops aMi134 3 _ (f1 := (3, ([(0, .ref a0), (1, .int i1), (2, .int i2), (3, .int i3), (4, .int i4), (5, .int i5)], [.int (4 : Int32), .int (0 : Int32), .int i1]))) rfl ?_
  obtain ⟨r3_1, hxr3_1, h⟩ := Option.bind_eq_some_iff.mp h
  rcases xB_eq h with ⟨vr3_1, Ir3_1, her3_1, h2⟩ | ⟨Er3_1, Ir3_1, her3_1, h2⟩
  rotate_left
  · clear h
    subst her3_1
    subst h2
    exact gg_cst (as := [.int i1, .int (0 : Int32), .int (4 : Int32)]) (r := []) aMi134 rfl rfl rfl aMi138 rfl (Nat.le_of_ble_eq_true rfl) (Nat.le_of_ble_eq_true rfl) (by omega) (Tf138 (by omega) i1 (0 : Int32) (4 : Int32) I _ hxr3_1) qX_thr
  clear h
  subst her3_1
  have h := h2
  clear h2
  refine gg_cs (as := [.int i1, .int (0 : Int32), .int (4 : Int32)]) (r := []) aMi134 rfl rfl rfl aMi138 rfl (Nat.le_of_ble_eq_true rfl) (Nat.le_of_ble_eq_true rfl) (by omega) (Tf138 (by omega) i1 (0 : Int32) (4 : Int32) I _ hxr3_1) ?_
  show aGo kad d 134 (6, ([(0, .ref a0), (1, .int i1), (2, .int i2), (3, .int i3), (4, .int i4), (5, .int i5)], [])) (aMem Z Ir3_1, t) _
  refine go_ops aMi134 2 _ (f1 := (8, ([(0, .ref a0), (1, .int i1), (2, .int i2), (3, .int i3), (4, .int i4), (5, .int i5)], [.int i3, .int i2]))) rfl ?_
  obtain ⟨r8_2, hxr8_2, h⟩ := Option.bind_eq_some_iff.mp h
  rcases xB_eq h with ⟨vr8_2, Ir8_2, her8_2, h2⟩ | ⟨Er8_2, Ir8_2, her8_2, h2⟩
  rotate_left
  · clear h
    subst her8_2
    subst h2
    exact gg_cst (as := [.int i2, .int i3]) (r := []) aMi134 rfl rfl rfl aMi139 rfl (Nat.le_of_ble_eq_true rfl) (Nat.le_of_ble_eq_true rfl) (by omega) (Tf139 (by omega) i2 i3 Ir3_1 _ hxr8_2) qX_thr
  clear h
  subst her8_2
  have h := h2
  clear h2
  refine gg_cs (as := [.int i2, .int i3]) (r := []) aMi134 rfl rfl rfl aMi139 rfl (Nat.le_of_ble_eq_true rfl) (Nat.le_of_ble_eq_true rfl) (by omega) (Tf139 (by omega) i2 i3 Ir3_1 _ hxr8_2) ?_
  show aGo kad d 134 (11, ([(0, .ref a0), (1, .int i1), (2, .int i2), (3, .int i3), (4, .int i4), (5, .int i5)], [])) (aMem Z Ir8_2, t) _
  refine go_ops aMi134 2 _ (f1 := (15, ([(0, .ref a0), (1, .int i1), (2, .int i2), (3, .int i3), (4, .int i4), (5, .int i5)], [.int i5, .int i4]))) rfl ?_
  obtain ⟨r15_3, hxr15_3, h⟩ := Option.bind_eq_some_iff.mp h
  rcases xB_eq h with ⟨vr15_3, Ir15_3, her15_3, h2⟩ | ⟨Er15_3, Ir15_3, her15_3, h2⟩
  rotate_left
  · clear h
    subst her15_3
    subst h2
    exact gg_cst (as := [.int i4, .int i5]) (r := []) aMi134 rfl rfl rfl aMi139 rfl (Nat.le_of_ble_eq_true rfl) (Nat.le_of_ble_eq_true rfl) (by omega) (Tf139 (by omega) i4 i5 Ir8_2 _ hxr15_3) qX_thr
  clear h
  subst her15_3
  have h := h2
  clear h2
  refine gg_cs (as := [.int i4, .int i5]) (r := []) aMi134 rfl rfl rfl aMi139 rfl (Nat.le_of_ble_eq_true rfl) (Nat.le_of_ble_eq_true rfl) (by omega) (Tf139 (by omega) i4 i5 Ir8_2 _ hxr15_3) ?_
  show aGo kad d 134 (18, ([(0, .ref a0), (1, .int i1), (2, .int i2), (3, .int i3), (4, .int i4), (5, .int i5)], [])) (aMem Z Ir15_3, t) _
  refine go_ops aMi134 1 _ (f1 := (19, ([(0, .ref a0), (1, .int i1), (2, .int i2), (3, .int i3), (4, .int i4), (5, .int i5)], [.ref a0]))) rfl ?_
  refine gg_gs aMi134 rfl rfl ?_
  refine go_ops aMi134 3 _ (f1 := (25, ([(0, .ref a0), (1, .int i1), (2, .int i2), (3, .int i3), (4, .int i4), (5, .int i5)], [.int i3, .int i2, .int i1, .ref (kad 8), .ref a0]))) rfl ?_
  obtain ⟨u25_4, hxu25_4, h⟩ := Option.bind_eq_some_iff.mp h
  obtain ⟨r25_5, hxr25_5, h⟩ := Option.bind_eq_some_iff.mp h
  rcases xB_eq h with ⟨vr25_5, Ir25_5, her25_5, h2⟩ | ⟨Er25_5, Ir25_5, her25_5, h2⟩
  rotate_left
  · clear h
    subst her25_5
    subst h2
    exact gg_cvt (as := [.ref (kad 8), .int i1, .int i2, .int i3]) (r := []) aMi134 rfl rfl rfl aMi142 (Nat.le_of_ble_eq_true rfl) rfl (Nat.le_of_ble_eq_true rfl) (Nat.le_of_ble_eq_true rfl) (by omega) hxu25_4 (Tf142 (by omega) a0 (kad 8) i1 i2 i3 Ir15_3 _ hxr25_5) qX_thr
  clear h
  subst her25_5
  have h := h2
  clear h2
  refine gg_cv (as := [.ref (kad 8), .int i1, .int i2, .int i3]) (r := []) aMi134 rfl rfl rfl aMi142 (Nat.le_of_ble_eq_true rfl) rfl (Nat.le_of_ble_eq_true rfl) (Nat.le_of_ble_eq_true rfl) (by omega) hxu25_4 (Tf142 (by omega) a0 (kad 8) i1 i2 i3 Ir15_3 _ hxr25_5) ?_
  show aGo kad d 134 (28, ([(0, .ref a0), (1, .int i1), (2, .int i2), (3, .int i3), (4, .int i4), (5, .int i5)], [.int vr25_5])) (aMem Z Ir25_5, t) _
  refine go_ops aMi134 2 _ (f1 := (31, ([(6, .int vr25_5), (0, .ref a0), (1, .int i1), (2, .int i2), (3, .int i3), (4, .int i4), (5, .int i5)], [.ref a0]))) rfl ?_
  obtain ⟨b31_6, hxb31_6, h⟩ := Option.bind_eq_some_iff.mp h
  refine gg_gR aMi134 rfl rfl rfl hxb31_6 ?_
  refine go_ops aMi134 2 _ (f1 := (38, ([(6, .int vr25_5), (0, .ref a0), (1, .int i1), (2, .int i2), (3, .int i3), (4, .int i4), (5, .int i5)], [.int i5, .int i4, .ref b31_6]))) rfl ?_
  obtain ⟨u38_7, hxu38_7, h⟩ := Option.bind_eq_some_iff.mp h
  obtain ⟨r38_8, hxr38_8, h⟩ := Option.bind_eq_some_iff.mp h
  refine gg_cv (as := [.int i4, .int i5]) (r := []) aMi134 rfl rfl rfl aMi3 (Nat.le_of_ble_eq_true rfl) rfl (Nat.le_of_ble_eq_true rfl) (Nat.le_of_ble_eq_true rfl) (by omega) hxu38_7 (Tf3 (by omega) b31_6 i4 i5 Ir25_5 _ hxr38_8) ?_
  show aGo kad d 134 (41, ([(6, .int vr25_5), (0, .ref a0), (1, .int i1), (2, .int i2), (3, .int i3), (4, .int i4), (5, .int i5)], [])) (aMem Z r38_8.2, t) _
  refine go_ops aMi134 1 _ (f1 := (43, ([(6, .int vr25_5), (0, .ref a0), (1, .int i1), (2, .int i2), (3, .int i3), (4, .int i4), (5, .int i5)], [.int vr25_5]))) rfl ?_
  cases h
  exact go_ret aMi134 rfl aRetI qX_ret
-- KernelGym.error ()I
def f135 (kad : Nat → Nat) (N : Nat) (Z : AZ) (a0 : Nat) (I : AI) : Option (Int32 × AI) :=
  (gR Z I 10 0 a0).bind fun b1_1 =>
  (isK Z b1_1 0).bind fun u4_2 =>
  (f5 kad N Z b1_1 I).bind fun r4_3 =>
  some (r4_3.1, r4_3.2)
set_option maxRecDepth 20000 in
theorem Tf135 {kad : Nat → Nat} {N : Nat} {Z : AZ} {d : Nat} {t : Option Nat × (Nat × Nat)} (hd : 20 ≤ d) : ∀ (a0 : Nat) (I : AI) (r : Int32 × AI), f135 kad N Z a0 I = some r → aGo kad d 135 (0, ([(0, .ref a0)], [])) (aMem Z I, t) (qI Z t r) := by
  intro a0 I r h
  unfold f135 at h
  refine go_ops aMi135 1 _ (f1 := (1, ([(0, .ref a0)], [.ref a0]))) rfl ?_
  obtain ⟨b1_1, hxb1_1, h⟩ := Option.bind_eq_some_iff.mp h
  refine gg_gR aMi135 rfl rfl rfl hxb1_1 ?_
  obtain ⟨u4_2, hxu4_2, h⟩ := Option.bind_eq_some_iff.mp h
  obtain ⟨r4_3, hxr4_3, h⟩ := Option.bind_eq_some_iff.mp h
  refine gg_cv (as := []) (r := []) aMi135 rfl rfl rfl aMi5 (Nat.le_of_ble_eq_true rfl) rfl (Nat.le_of_ble_eq_true rfl) (Nat.le_of_ble_eq_true rfl) (by omega) hxu4_2 (Tf5 (by omega) b1_1 I _ hxr4_3) ?_
  show aGo kad d 135 (7, ([(0, .ref a0)], [.int r4_3.1])) (aMem Z r4_3.2, t) _
  cases h
  exact go_ret aMi135 rfl aRetI ⟨rfl, rfl⟩
-- KernelGym.assemble ()I
def f136 (kad : Nat → Nat) (N : Nat) (Z : AZ) (a0 : Nat) (I : AI) : Option ((Int32 ⊕ String) × AI) :=
  (gR Z I 10 0 a0).bind fun b1_1 =>
  (isK Z b1_1 0).bind fun u4_2 =>
  (f5 kad N Z b1_1 I).bind fun r4_3 =>
  if r4_3.1 = 0 then
    (gR Z r4_3.2 10 0 a0).bind fun b21_4 =>
    (gR Z r4_3.2 0 1 b21_4).bind fun b24_5 =>
    (gR Z r4_3.2 10 1 a0).bind fun b29_6 =>
    (cI Z r4_3.2 b24_5 (0 : Int32) b29_6 (0 : Int32) (256 : Int32)).bind fun I36_7 =>
    (pB Z I36_7 10 2 a0 (1 : Int32)).bind fun I41_8 =>
    (gR Z I41_8 10 0 a0).bind fun b45_9 =>
    (isK Z b45_9 0).bind fun u48_10 =>
    (f4 kad N Z b45_9 I41_8).bind fun r48_11 =>
    some (.inl r48_11.1, r48_11.2)
  else
    some (.inr (aEC 1), r4_3.2)
set_option maxRecDepth 20000 in
theorem Tf136 {kad : Nat → Nat} {N : Nat} {Z : AZ} {d : Nat} {t : Option Nat × (Nat × Nat)} (hd : 20 ≤ d) : ∀ (a0 : Nat) (I : AI) (r : (Int32 ⊕ String) × AI), f136 kad N Z a0 I = some r → aGo kad d 136 (0, ([(0, .ref a0)], [])) (aMem Z I, t) (qX tvI Z t r) := by
  intro a0 I r h
  unfold f136 at h
  refine go_ops aMi136 1 _ (f1 := (1, ([(0, .ref a0)], [.ref a0]))) rfl ?_
  obtain ⟨b1_1, hxb1_1, h⟩ := Option.bind_eq_some_iff.mp h
  refine gg_gR aMi136 rfl rfl rfl hxb1_1 ?_
  obtain ⟨u4_2, hxu4_2, h⟩ := Option.bind_eq_some_iff.mp h
  obtain ⟨r4_3, hxr4_3, h⟩ := Option.bind_eq_some_iff.mp h
  refine gg_cv (as := []) (r := []) aMi136 rfl rfl rfl aMi5 (Nat.le_of_ble_eq_true rfl) rfl (Nat.le_of_ble_eq_true rfl) (Nat.le_of_ble_eq_true rfl) (by omega) hxu4_2 (Tf5 (by omega) b1_1 I _ hxr4_3) ?_
  show aGo kad d 136 (7, ([(0, .ref a0)], [.int r4_3.1])) (aMem Z r4_3.2, t) _
  refine gg_br (b := decide (r4_3.1 = 0)) (tg := 20) (off := 13) aMi136 rfl rfl rfl rfl (fun hb => ?_) (fun hb => ?_)
  · rw [if_pos (of_decide_eq_true hb)] at h
    refine go_ops aMi136 1 _ (f1 := (21, ([(0, .ref a0)], [.ref a0]))) rfl ?_
    obtain ⟨b21_4, hxb21_4, h⟩ := Option.bind_eq_some_iff.mp h
    refine gg_gR aMi136 rfl rfl rfl hxb21_4 ?_
    obtain ⟨b24_5, hxb24_5, h⟩ := Option.bind_eq_some_iff.mp h
    refine gg_gR aMi136 rfl rfl rfl hxb24_5 ?_
    refine go_ops aMi136 2 _ (f1 := (29, ([(0, .ref a0)], [.ref a0, .int (0 : Int32), .ref b24_5]))) rfl ?_
    obtain ⟨b29_6, hxb29_6, h⟩ := Option.bind_eq_some_iff.mp h
    refine gg_gR aMi136 rfl rfl rfl hxb29_6 ?_
    refine go_ops aMi136 2 _ (f1 := (36, ([(0, .ref a0)], [.int (256 : Int32), .int (0 : Int32), .ref b29_6, .int (0 : Int32), .ref b24_5]))) rfl ?_
    obtain ⟨I36_7, hxI36_7, h⟩ := Option.bind_eq_some_iff.mp h
    refine gg_cp aMi136 rfl rfl (Nat.le_of_ble_eq_true rfl) hxI36_7 ?_
    refine go_ops aMi136 2 _ (f1 := (41, ([(0, .ref a0)], [.int (1 : Int32), .ref a0]))) rfl ?_
    obtain ⟨I41_8, hxI41_8, h⟩ := Option.bind_eq_some_iff.mp h
    refine gg_pB aMi136 rfl rfl rfl rfl (by decide) hxI41_8 ?_
    refine go_ops aMi136 1 _ (f1 := (45, ([(0, .ref a0)], [.ref a0]))) rfl ?_
    obtain ⟨b45_9, hxb45_9, h⟩ := Option.bind_eq_some_iff.mp h
    refine gg_gR aMi136 rfl rfl rfl hxb45_9 ?_
    obtain ⟨u48_10, hxu48_10, h⟩ := Option.bind_eq_some_iff.mp h
    obtain ⟨r48_11, hxr48_11, h⟩ := Option.bind_eq_some_iff.mp h
    refine gg_cv (as := []) (r := []) aMi136 rfl rfl rfl aMi4 (Nat.le_of_ble_eq_true rfl) rfl (Nat.le_of_ble_eq_true rfl) (Nat.le_of_ble_eq_true rfl) (by omega) hxu48_10 (Tf4 (by omega) b45_9 I41_8 _ hxr48_11) ?_
    show aGo kad d 136 (51, ([(0, .ref a0)], [.int r48_11.1])) (aMem Z r48_11.2, t) _
    cases h
    exact go_ret aMi136 rfl aRetI qX_ret
  · rw [if_neg (of_decide_eq_false hb)] at h
    cases h
    exact go_thr (E := aEC 1) aMi136 rfl rfl rfl rfl rfl rfl qX_thr
-- KernelGym.requireAssembled ()V
def f140 (kad : Nat → Nat) (N : Nat) (Z : AZ) (a0 : Nat) (I : AI) : Option ((Unit ⊕ String) × AI) :=
  (gI Z I 10 2 a0).bind fun x1_1 =>
  if ¬ x1_1 = 0 then
    some (.inl (), I)
  else
    some (.inr (aEC 1), I)
set_option maxRecDepth 20000 in
theorem Tf140 {kad : Nat → Nat} {N : Nat} {Z : AZ} {d : Nat} {t : Option Nat × (Nat × Nat)} (hd : 0 ≤ d) : ∀ (a0 : Nat) (I : AI) (r : (Unit ⊕ String) × AI), f140 kad N Z a0 I = some r → aGo kad d 140 (0, ([(0, .ref a0)], [])) (aMem Z I, t) (qX tvV Z t r) := by
  intro a0 I r h
  unfold f140 at h
  refine go_ops aMi140 1 _ (f1 := (1, ([(0, .ref a0)], [.ref a0]))) rfl ?_
  obtain ⟨x1_1, hxx1_1, h⟩ := Option.bind_eq_some_iff.mp h
  refine gg_gI aMi140 rfl rfl rfl hxx1_1 ?_
  refine gg_br (b := decide (¬ x1_1 = 0)) (tg := 17) (off := 13) aMi140 rfl rfl rfl rfl (fun hb => ?_) (fun hb => ?_)
  · rw [if_pos (of_decide_eq_true hb)] at h
    cases h
    exact go_ret aMi140 rfl rfl qX_ret
  · rw [if_neg (of_decide_eq_false hb)] at h
    cases h
    exact go_thr (E := aEC 1) aMi140 rfl rfl rfl rfl rfl rfl qX_thr
-- KernelGym.image (I)I
def f137 (kad : Nat → Nat) (N : Nat) (Z : AZ) (a0 : Nat) (i1 : Int32) (I : AI) : Option ((Int32 ⊕ String) × AI) :=
  (f138 kad N Z i1 (0 : Int32) (255 : Int32) I).bind fun r5_1 =>
  xB r5_1 fun vr5_1 Ir5_1 =>
  (isK Z a0 10).bind fun u9_2 =>
  (f140 kad N Z a0 Ir5_1).bind fun r9_3 =>
  xB r9_3 fun vr9_3 Ir9_3 =>
  (gR Z Ir9_3 10 1 a0).bind fun b13_4 =>
  (lI Z Ir9_3 100 b13_4 i1).bind fun x17_5 =>
  some (.inl x17_5, Ir9_3)
set_option maxRecDepth 20000 in
theorem Tf137 {kad : Nat → Nat} {N : Nat} {Z : AZ} {d : Nat} {t : Option Nat × (Nat × Nat)} (hd : 1 ≤ d) : ∀ (a0 : Nat) (i1 : Int32) (I : AI) (r : (Int32 ⊕ String) × AI), f137 kad N Z a0 i1 I = some r → aGo kad d 137 (0, ([(0, .ref a0), (1, .int i1)], [])) (aMem Z I, t) (qX tvI Z t r) := by
  intro a0 i1 I r h
  unfold f137 at h
  refine go_ops aMi137 3 _ (f1 := (5, ([(0, .ref a0), (1, .int i1)], [.int (255 : Int32), .int (0 : Int32), .int i1]))) rfl ?_
  obtain ⟨r5_1, hxr5_1, h⟩ := Option.bind_eq_some_iff.mp h
  rcases xB_eq h with ⟨vr5_1, Ir5_1, her5_1, h2⟩ | ⟨Er5_1, Ir5_1, her5_1, h2⟩
  rotate_left
  · clear h
    subst her5_1
    subst h2
    exact gg_cst (as := [.int i1, .int (0 : Int32), .int (255 : Int32)]) (r := []) aMi137 rfl rfl rfl aMi138 rfl (Nat.le_of_ble_eq_true rfl) (Nat.le_of_ble_eq_true rfl) (by omega) (Tf138 (by omega) i1 (0 : Int32) (255 : Int32) I _ hxr5_1) qX_thr
  clear h
  subst her5_1
  have h := h2
  clear h2
  refine gg_cs (as := [.int i1, .int (0 : Int32), .int (255 : Int32)]) (r := []) aMi137 rfl rfl rfl aMi138 rfl (Nat.le_of_ble_eq_true rfl) (Nat.le_of_ble_eq_true rfl) (by omega) (Tf138 (by omega) i1 (0 : Int32) (255 : Int32) I _ hxr5_1) ?_
  show aGo kad d 137 (8, ([(0, .ref a0), (1, .int i1)], [])) (aMem Z Ir5_1, t) _
  refine go_ops aMi137 1 _ (f1 := (9, ([(0, .ref a0), (1, .int i1)], [.ref a0]))) rfl ?_
  obtain ⟨u9_2, hxu9_2, h⟩ := Option.bind_eq_some_iff.mp h
  obtain ⟨r9_3, hxr9_3, h⟩ := Option.bind_eq_some_iff.mp h
  rcases xB_eq h with ⟨vr9_3, Ir9_3, her9_3, h2⟩ | ⟨Er9_3, Ir9_3, her9_3, h2⟩
  rotate_left
  · clear h
    subst her9_3
    subst h2
    exact gg_cvt (as := []) (r := []) aMi137 rfl rfl rfl aMi140 (Nat.le_of_ble_eq_true rfl) rfl (Nat.le_of_ble_eq_true rfl) (Nat.le_of_ble_eq_true rfl) (by omega) hxu9_2 (Tf140 (by omega) a0 Ir5_1 _ hxr9_3) qX_thr
  clear h
  subst her9_3
  have h := h2
  clear h2
  refine gg_cv (as := []) (r := []) aMi137 rfl rfl rfl aMi140 (Nat.le_of_ble_eq_true rfl) rfl (Nat.le_of_ble_eq_true rfl) (Nat.le_of_ble_eq_true rfl) (by omega) hxu9_2 (Tf140 (by omega) a0 Ir5_1 _ hxr9_3) ?_
  show aGo kad d 137 (12, ([(0, .ref a0), (1, .int i1)], [])) (aMem Z Ir9_3, t) _
  refine go_ops aMi137 1 _ (f1 := (13, ([(0, .ref a0), (1, .int i1)], [.ref a0]))) rfl ?_
  obtain ⟨b13_4, hxb13_4, h⟩ := Option.bind_eq_some_iff.mp h
  refine gg_gR aMi137 rfl rfl rfl hxb13_4 ?_
  refine go_ops aMi137 1 _ (f1 := (17, ([(0, .ref a0), (1, .int i1)], [.int i1, .ref b13_4]))) rfl ?_
  obtain ⟨x17_5, hxx17_5, h⟩ := Option.bind_eq_some_iff.mp h
  refine gg_lI (Or.inl ⟨rfl, rfl⟩) aMi137 rfl hxx17_5 ?_
  cases h
  exact go_ret aMi137 rfl aRetI qX_ret
-- KernelGym.start ()I
def f143 (kad : Nat → Nat) (N : Nat) (Z : AZ) (a0 : Nat) (I : AI) : Option ((Int32 ⊕ String) × AI) :=
  (gR Z I 10 3 a0).bind fun b1_1 =>
  (gR Z I 8 0 b1_1).bind fun b4_2 =>
  (gI Z I 2 0 b4_2).bind fun x7_3 =>
  if x7_3 = 0 then
    (isK Z a0 10).bind fun u24_4 =>
    (f140 kad N Z a0 I).bind fun r24_5 =>
    xB r24_5 fun vr24_5 Ir24_5 =>
    (gR Z Ir24_5 10 3 a0).bind fun b28_6 =>
    (gR Z Ir24_5 8 4 b28_6).bind fun b31_7 =>
    (isK Z b31_7 6).bind fun u34_8 =>
    (f72 kad N Z b31_7 Ir24_5).bind fun r34_9 =>
    (gR Z r34_9.2 10 3 a0).bind fun b38_10 =>
    (gR Z r34_9.2 10 1 a0).bind fun b42_11 =>
    (isK Z b38_10 8).bind fun u45_12 =>
    (f80 kad N Z b38_10 b42_11 r34_9.2).bind fun r45_13 =>
    (gR Z r45_13.2 10 1 a0).bind fun b50_14 =>
    (gR Z r45_13.2 10 6 a0).bind fun b55_15 =>
    (cI Z r45_13.2 b50_14 (0 : Int32) b55_15 (0 : Int32) (256 : Int32)).bind fun I62_16 =>
    (gR Z I62_16 10 3 a0).bind fun b66_17 =>
    (gR Z I62_16 8 3 b66_17).bind fun b69_18 =>
    (gR Z I62_16 3 0 b69_18).bind fun b72_19 =>
    (gR Z I62_16 10 7 a0).bind fun b77_20 =>
    (cI Z I62_16 b72_19 (0 : Int32) b77_20 (0 : Int32) (256 : Int32)).bind fun I84_21 =>
    some (.inl r45_13.1, I84_21)
  else
    some (.inr (aEC 1), I)
set_option maxRecDepth 20000 in
theorem Tf143 {kad : Nat → Nat} {N : Nat} {Z : AZ} {d : Nat} {t : Option Nat × (Nat × Nat)} (hd : 4 ≤ d) : ∀ (a0 : Nat) (I : AI) (r : (Int32 ⊕ String) × AI), f143 kad N Z a0 I = some r → aGo kad d 143 (0, ([(0, .ref a0)], [])) (aMem Z I, t) (qX tvI Z t r) := by
  intro a0 I r h
  unfold f143 at h
  refine go_ops aMi143 1 _ (f1 := (1, ([(0, .ref a0)], [.ref a0]))) rfl ?_
  obtain ⟨b1_1, hxb1_1, h⟩ := Option.bind_eq_some_iff.mp h
  refine gg_gR aMi143 rfl rfl rfl hxb1_1 ?_
  obtain ⟨b4_2, hxb4_2, h⟩ := Option.bind_eq_some_iff.mp h
  refine gg_gR aMi143 rfl rfl rfl hxb4_2 ?_
  obtain ⟨x7_3, hxx7_3, h⟩ := Option.bind_eq_some_iff.mp h
  refine gg_gI aMi143 rfl rfl rfl hxx7_3 ?_
  refine gg_br (b := decide (x7_3 = 0)) (tg := 23) (off := 13) aMi143 rfl rfl rfl rfl (fun hb => ?_) (fun hb => ?_)
  · rw [if_pos (of_decide_eq_true hb)] at h
    refine go_ops aMi143 1 _ (f1 := (24, ([(0, .ref a0)], [.ref a0]))) rfl ?_
    obtain ⟨u24_4, hxu24_4, h⟩ := Option.bind_eq_some_iff.mp h
    obtain ⟨r24_5, hxr24_5, h⟩ := Option.bind_eq_some_iff.mp h
    rcases xB_eq h with ⟨vr24_5, Ir24_5, her24_5, h2⟩ | ⟨Er24_5, Ir24_5, her24_5, h2⟩
    rotate_left
    · clear h
      subst her24_5
      subst h2
      exact gg_cvt (as := []) (r := []) aMi143 rfl rfl rfl aMi140 (Nat.le_of_ble_eq_true rfl) rfl (Nat.le_of_ble_eq_true rfl) (Nat.le_of_ble_eq_true rfl) (by omega) hxu24_4 (Tf140 (by omega) a0 I _ hxr24_5) qX_thr
    clear h
    subst her24_5
    have h := h2
    clear h2
    refine gg_cv (as := []) (r := []) aMi143 rfl rfl rfl aMi140 (Nat.le_of_ble_eq_true rfl) rfl (Nat.le_of_ble_eq_true rfl) (Nat.le_of_ble_eq_true rfl) (by omega) hxu24_4 (Tf140 (by omega) a0 I _ hxr24_5) ?_
    show aGo kad d 143 (27, ([(0, .ref a0)], [])) (aMem Z Ir24_5, t) _
    refine go_ops aMi143 1 _ (f1 := (28, ([(0, .ref a0)], [.ref a0]))) rfl ?_
    obtain ⟨b28_6, hxb28_6, h⟩ := Option.bind_eq_some_iff.mp h
    refine gg_gR aMi143 rfl rfl rfl hxb28_6 ?_
    obtain ⟨b31_7, hxb31_7, h⟩ := Option.bind_eq_some_iff.mp h
    refine gg_gR aMi143 rfl rfl rfl hxb31_7 ?_
    obtain ⟨u34_8, hxu34_8, h⟩ := Option.bind_eq_some_iff.mp h
    obtain ⟨r34_9, hxr34_9, h⟩ := Option.bind_eq_some_iff.mp h
    refine gg_cv (as := []) (r := []) aMi143 rfl rfl rfl aMi72 (Nat.le_of_ble_eq_true rfl) rfl (Nat.le_of_ble_eq_true rfl) (Nat.le_of_ble_eq_true rfl) (by omega) hxu34_8 (Tf72 (by omega) b31_7 Ir24_5 _ hxr34_9) ?_
    show aGo kad d 143 (37, ([(0, .ref a0)], [])) (aMem Z r34_9.2, t) _
    refine go_ops aMi143 1 _ (f1 := (38, ([(0, .ref a0)], [.ref a0]))) rfl ?_
    obtain ⟨b38_10, hxb38_10, h⟩ := Option.bind_eq_some_iff.mp h
    refine gg_gR aMi143 rfl rfl rfl hxb38_10 ?_
    refine go_ops aMi143 1 _ (f1 := (42, ([(0, .ref a0)], [.ref a0, .ref b38_10]))) rfl ?_
    obtain ⟨b42_11, hxb42_11, h⟩ := Option.bind_eq_some_iff.mp h
    refine gg_gR aMi143 rfl rfl rfl hxb42_11 ?_
    obtain ⟨u45_12, hxu45_12, h⟩ := Option.bind_eq_some_iff.mp h
    obtain ⟨r45_13, hxr45_13, h⟩ := Option.bind_eq_some_iff.mp h
    refine gg_cv (as := [.ref b42_11]) (r := []) aMi143 rfl rfl rfl aMi80 (Nat.le_of_ble_eq_true rfl) rfl (Nat.le_of_ble_eq_true rfl) (Nat.le_of_ble_eq_true rfl) (by omega) hxu45_12 (Tf80 (by omega) b38_10 b42_11 r34_9.2 _ hxr45_13) ?_
    show aGo kad d 143 (48, ([(0, .ref a0)], [.int r45_13.1])) (aMem Z r45_13.2, t) _
    refine go_ops aMi143 2 _ (f1 := (50, ([(1, .int r45_13.1), (0, .ref a0)], [.ref a0]))) rfl ?_
    obtain ⟨b50_14, hxb50_14, h⟩ := Option.bind_eq_some_iff.mp h
    refine gg_gR aMi143 rfl rfl rfl hxb50_14 ?_
    refine go_ops aMi143 2 _ (f1 := (55, ([(1, .int r45_13.1), (0, .ref a0)], [.ref a0, .int (0 : Int32), .ref b50_14]))) rfl ?_
    obtain ⟨b55_15, hxb55_15, h⟩ := Option.bind_eq_some_iff.mp h
    refine gg_gR aMi143 rfl rfl rfl hxb55_15 ?_
    refine go_ops aMi143 2 _ (f1 := (62, ([(1, .int r45_13.1), (0, .ref a0)], [.int (256 : Int32), .int (0 : Int32), .ref b55_15, .int (0 : Int32), .ref b50_14]))) rfl ?_
    obtain ⟨I62_16, hxI62_16, h⟩ := Option.bind_eq_some_iff.mp h
    refine gg_cp aMi143 rfl rfl (Nat.le_of_ble_eq_true rfl) hxI62_16 ?_
    refine go_ops aMi143 1 _ (f1 := (66, ([(1, .int r45_13.1), (0, .ref a0)], [.ref a0]))) rfl ?_
    obtain ⟨b66_17, hxb66_17, h⟩ := Option.bind_eq_some_iff.mp h
    refine gg_gR aMi143 rfl rfl rfl hxb66_17 ?_
    obtain ⟨b69_18, hxb69_18, h⟩ := Option.bind_eq_some_iff.mp h
    refine gg_gR aMi143 rfl rfl rfl hxb69_18 ?_
    obtain ⟨b72_19, hxb72_19, h⟩ := Option.bind_eq_some_iff.mp h
    refine gg_gR aMi143 rfl rfl rfl hxb72_19 ?_
    refine go_ops aMi143 2 _ (f1 := (77, ([(1, .int r45_13.1), (0, .ref a0)], [.ref a0, .int (0 : Int32), .ref b72_19]))) rfl ?_
    obtain ⟨b77_20, hxb77_20, h⟩ := Option.bind_eq_some_iff.mp h
    refine gg_gR aMi143 rfl rfl rfl hxb77_20 ?_
    refine go_ops aMi143 2 _ (f1 := (84, ([(1, .int r45_13.1), (0, .ref a0)], [.int (256 : Int32), .int (0 : Int32), .ref b77_20, .int (0 : Int32), .ref b72_19]))) rfl ?_
    obtain ⟨I84_21, hxI84_21, h⟩ := Option.bind_eq_some_iff.mp h
    refine gg_cp aMi143 rfl rfl (Nat.le_of_ble_eq_true rfl) hxI84_21 ?_
    refine go_ops aMi143 1 _ (f1 := (88, ([(1, .int r45_13.1), (0, .ref a0)], [.int r45_13.1]))) rfl ?_
    cases h
    exact go_ret aMi143 rfl aRetI qX_ret
  · rw [if_neg (of_decide_eq_false hb)] at h
    cases h
    exact go_thr (E := aEC 1) aMi143 rfl rfl rfl rfl rfl rfl qX_thr
-- KernelGym.requireOn ()V
def f165 (kad : Nat → Nat) (N : Nat) (Z : AZ) (a0 : Nat) (I : AI) : Option ((Unit ⊕ String) × AI) :=
  (gR Z I 10 3 a0).bind fun b1_1 =>
  (gR Z I 8 0 b1_1).bind fun b4_2 =>
  (gI Z I 2 0 b4_2).bind fun x7_3 =>
  if ¬ x7_3 = 0 then
    some (.inl (), I)
  else
    some (.inr (aEC 1), I)
set_option maxRecDepth 20000 in
theorem Tf165 {kad : Nat → Nat} {N : Nat} {Z : AZ} {d : Nat} {t : Option Nat × (Nat × Nat)} (hd : 0 ≤ d) : ∀ (a0 : Nat) (I : AI) (r : (Unit ⊕ String) × AI), f165 kad N Z a0 I = some r → aGo kad d 165 (0, ([(0, .ref a0)], [])) (aMem Z I, t) (qX tvV Z t r) := by
  intro a0 I r h
  unfold f165 at h
  refine go_ops aMi165 1 _ (f1 := (1, ([(0, .ref a0)], [.ref a0]))) rfl ?_
  obtain ⟨b1_1, hxb1_1, h⟩ := Option.bind_eq_some_iff.mp h
  refine gg_gR aMi165 rfl rfl rfl hxb1_1 ?_
  obtain ⟨b4_2, hxb4_2, h⟩ := Option.bind_eq_some_iff.mp h
  refine gg_gR aMi165 rfl rfl rfl hxb4_2 ?_
  obtain ⟨x7_3, hxx7_3, h⟩ := Option.bind_eq_some_iff.mp h
  refine gg_gI aMi165 rfl rfl rfl hxx7_3 ?_
  refine gg_br (b := decide (¬ x7_3 = 0)) (tg := 24) (off := 14) aMi165 rfl rfl rfl rfl (fun hb => ?_) (fun hb => ?_)
  · rw [if_pos (of_decide_eq_true hb)] at h
    cases h
    exact go_ret aMi165 rfl rfl qX_ret
  · rw [if_neg (of_decide_eq_false hb)] at h
    cases h
    exact go_thr (E := aEC 1) aMi165 rfl rfl rfl rfl rfl rfl qX_thr
-- KernelGym.crash ()I
def f144 (kad : Nat → Nat) (N : Nat) (Z : AZ) (a0 : Nat) (I : AI) : Option ((Int32 ⊕ String) × AI) :=
  (isK Z a0 10).bind fun u1_1 =>
  (f165 kad N Z a0 I).bind fun r1_2 =>
  xB r1_2 fun vr1_2 Ir1_2 =>
  (gR Z Ir1_2 10 3 a0).bind fun b5_3 =>
  (gR Z Ir1_2 8 0 b5_3).bind fun b8_4 =>
  (gI Z Ir1_2 2 2 b8_4).bind fun x11_5 =>
  (pI Z Ir1_2 10 5 a0 (0 : Int32)).bind fun I17_6 =>
  (gR Z I17_6 10 3 a0).bind fun b21_7 =>
  (isK Z b21_7 8).bind fun u24_8 =>
  (f81 kad N Z b21_7 I17_6).bind fun r24_9 =>
  some (.inl x11_5, r24_9.2)
set_option maxRecDepth 20000 in
theorem Tf144 {kad : Nat → Nat} {N : Nat} {Z : AZ} {d : Nat} {t : Option Nat × (Nat × Nat)} (hd : 3 ≤ d) : ∀ (a0 : Nat) (I : AI) (r : (Int32 ⊕ String) × AI), f144 kad N Z a0 I = some r → aGo kad d 144 (0, ([(0, .ref a0)], [])) (aMem Z I, t) (qX tvI Z t r) := by
  intro a0 I r h
  unfold f144 at h
  refine go_ops aMi144 1 _ (f1 := (1, ([(0, .ref a0)], [.ref a0]))) rfl ?_
  obtain ⟨u1_1, hxu1_1, h⟩ := Option.bind_eq_some_iff.mp h
  obtain ⟨r1_2, hxr1_2, h⟩ := Option.bind_eq_some_iff.mp h
  rcases xB_eq h with ⟨vr1_2, Ir1_2, her1_2, h2⟩ | ⟨Er1_2, Ir1_2, her1_2, h2⟩
  rotate_left
  · clear h
    subst her1_2
    subst h2
    exact gg_cvt (as := []) (r := []) aMi144 rfl rfl rfl aMi165 (Nat.le_of_ble_eq_true rfl) rfl (Nat.le_of_ble_eq_true rfl) (Nat.le_of_ble_eq_true rfl) (by omega) hxu1_1 (Tf165 (by omega) a0 I _ hxr1_2) qX_thr
  clear h
  subst her1_2
  have h := h2
  clear h2
  refine gg_cv (as := []) (r := []) aMi144 rfl rfl rfl aMi165 (Nat.le_of_ble_eq_true rfl) rfl (Nat.le_of_ble_eq_true rfl) (Nat.le_of_ble_eq_true rfl) (by omega) hxu1_1 (Tf165 (by omega) a0 I _ hxr1_2) ?_
  show aGo kad d 144 (4, ([(0, .ref a0)], [])) (aMem Z Ir1_2, t) _
  refine go_ops aMi144 1 _ (f1 := (5, ([(0, .ref a0)], [.ref a0]))) rfl ?_
  obtain ⟨b5_3, hxb5_3, h⟩ := Option.bind_eq_some_iff.mp h
  refine gg_gR aMi144 rfl rfl rfl hxb5_3 ?_
  obtain ⟨b8_4, hxb8_4, h⟩ := Option.bind_eq_some_iff.mp h
  refine gg_gR aMi144 rfl rfl rfl hxb8_4 ?_
  obtain ⟨x11_5, hxx11_5, h⟩ := Option.bind_eq_some_iff.mp h
  refine gg_gI aMi144 rfl rfl rfl hxx11_5 ?_
  refine go_ops aMi144 3 _ (f1 := (17, ([(1, .int x11_5), (0, .ref a0)], [.int (0 : Int32), .ref a0]))) rfl ?_
  obtain ⟨I17_6, hxI17_6, h⟩ := Option.bind_eq_some_iff.mp h
  refine gg_pI aMi144 rfl rfl rfl rfl (by decide) hxI17_6 ?_
  refine go_ops aMi144 1 _ (f1 := (21, ([(1, .int x11_5), (0, .ref a0)], [.ref a0]))) rfl ?_
  obtain ⟨b21_7, hxb21_7, h⟩ := Option.bind_eq_some_iff.mp h
  refine gg_gR aMi144 rfl rfl rfl hxb21_7 ?_
  obtain ⟨u24_8, hxu24_8, h⟩ := Option.bind_eq_some_iff.mp h
  obtain ⟨r24_9, hxr24_9, h⟩ := Option.bind_eq_some_iff.mp h
  refine gg_cv (as := []) (r := []) aMi144 rfl rfl rfl aMi81 (Nat.le_of_ble_eq_true rfl) rfl (Nat.le_of_ble_eq_true rfl) (Nat.le_of_ble_eq_true rfl) (by omega) hxu24_8 (Tf81 (by omega) b21_7 I17_6 _ hxr24_9) ?_
  show aGo kad d 144 (27, ([(1, .int x11_5), (0, .ref a0)], [])) (aMem Z r24_9.2, t) _
  refine go_ops aMi144 1 _ (f1 := (28, ([(1, .int x11_5), (0, .ref a0)], [.int x11_5]))) rfl ?_
  cases h
  exact go_ret aMi144 rfl aRetI qX_ret
-- KernelGym.format ()I
def f145 (kad : Nat → Nat) (N : Nat) (Z : AZ) (a0 : Nat) (I : AI) : Option ((Int32 ⊕ String) × AI) :=
  (gR Z I 10 3 a0).bind fun b1_1 =>
  (gR Z I 8 0 b1_1).bind fun b4_2 =>
  (gI Z I 2 0 b4_2).bind fun x7_3 =>
  if x7_3 = 0 then
    (gR Z I 10 3 a0).bind fun b24_4 =>
    (gR Z I 8 3 b24_4).bind fun b27_5 =>
    (isK Z b27_5 3).bind fun u30_6 =>
    (f52 kad N Z b27_5 I).bind fun r30_7 =>
    (gR Z r30_7.2 10 3 a0).bind fun b35_8 =>
    (gR Z r30_7.2 8 3 b35_8).bind fun b38_9 =>
    (isK Z b38_9 3).bind fun u41_10 =>
    (f42 kad N Z b38_9 r30_7.2).bind fun r41_11 =>
    some (.inl r30_7.1, r41_11.2)
  else
    some (.inr (aEC 1), I)
set_option maxRecDepth 20000 in
theorem Tf145 {kad : Nat → Nat} {N : Nat} {Z : AZ} {d : Nat} {t : Option Nat × (Nat × Nat)} (hd : 3 ≤ d) : ∀ (a0 : Nat) (I : AI) (r : (Int32 ⊕ String) × AI), f145 kad N Z a0 I = some r → aGo kad d 145 (0, ([(0, .ref a0)], [])) (aMem Z I, t) (qX tvI Z t r) := by
  intro a0 I r h
  unfold f145 at h
  refine go_ops aMi145 1 _ (f1 := (1, ([(0, .ref a0)], [.ref a0]))) rfl ?_
  obtain ⟨b1_1, hxb1_1, h⟩ := Option.bind_eq_some_iff.mp h
  refine gg_gR aMi145 rfl rfl rfl hxb1_1 ?_
  obtain ⟨b4_2, hxb4_2, h⟩ := Option.bind_eq_some_iff.mp h
  refine gg_gR aMi145 rfl rfl rfl hxb4_2 ?_
  obtain ⟨x7_3, hxx7_3, h⟩ := Option.bind_eq_some_iff.mp h
  refine gg_gI aMi145 rfl rfl rfl hxx7_3 ?_
  refine gg_br (b := decide (x7_3 = 0)) (tg := 23) (off := 13) aMi145 rfl rfl rfl rfl (fun hb => ?_) (fun hb => ?_)
  · rw [if_pos (of_decide_eq_true hb)] at h
    refine go_ops aMi145 1 _ (f1 := (24, ([(0, .ref a0)], [.ref a0]))) rfl ?_
    obtain ⟨b24_4, hxb24_4, h⟩ := Option.bind_eq_some_iff.mp h
    refine gg_gR aMi145 rfl rfl rfl hxb24_4 ?_
    obtain ⟨b27_5, hxb27_5, h⟩ := Option.bind_eq_some_iff.mp h
    refine gg_gR aMi145 rfl rfl rfl hxb27_5 ?_
    obtain ⟨u30_6, hxu30_6, h⟩ := Option.bind_eq_some_iff.mp h
    obtain ⟨r30_7, hxr30_7, h⟩ := Option.bind_eq_some_iff.mp h
    refine gg_cv (as := []) (r := []) aMi145 rfl rfl rfl aMi52 (Nat.le_of_ble_eq_true rfl) rfl (Nat.le_of_ble_eq_true rfl) (Nat.le_of_ble_eq_true rfl) (by omega) hxu30_6 (Tf52 (by omega) b27_5 I _ hxr30_7) ?_
    show aGo kad d 145 (33, ([(0, .ref a0)], [.int r30_7.1])) (aMem Z r30_7.2, t) _
    refine go_ops aMi145 2 _ (f1 := (35, ([(1, .int r30_7.1), (0, .ref a0)], [.ref a0]))) rfl ?_
    obtain ⟨b35_8, hxb35_8, h⟩ := Option.bind_eq_some_iff.mp h
    refine gg_gR aMi145 rfl rfl rfl hxb35_8 ?_
    obtain ⟨b38_9, hxb38_9, h⟩ := Option.bind_eq_some_iff.mp h
    refine gg_gR aMi145 rfl rfl rfl hxb38_9 ?_
    obtain ⟨u41_10, hxu41_10, h⟩ := Option.bind_eq_some_iff.mp h
    obtain ⟨r41_11, hxr41_11, h⟩ := Option.bind_eq_some_iff.mp h
    refine gg_cv (as := []) (r := []) aMi145 rfl rfl rfl aMi42 (Nat.le_of_ble_eq_true rfl) rfl (Nat.le_of_ble_eq_true rfl) (Nat.le_of_ble_eq_true rfl) (by omega) hxu41_10 (Tf42 (by omega) b38_9 r30_7.2 _ hxr41_11) ?_
    show aGo kad d 145 (44, ([(1, .int r30_7.1), (0, .ref a0)], [])) (aMem Z r41_11.2, t) _
    refine go_ops aMi145 1 _ (f1 := (45, ([(1, .int r30_7.1), (0, .ref a0)], [.int r30_7.1]))) rfl ?_
    cases h
    exact go_ret aMi145 rfl aRetI qX_ret
  · rw [if_neg (of_decide_eq_false hb)] at h
    cases h
    exact go_thr (E := aEC 1) aMi145 rfl rfl rfl rfl rfl rfl qX_thr
-- java/lang/Math.floorMod (II)I
def f305_b18 (kad : Nat → Nat) (N : Nat) (Z : AZ) (i2 : Int32) (I : AI) : Option (Int32 × AI) :=
  some (i2, I)
set_option maxRecDepth 20000 in
theorem Tf305_b18 {kad : Nat → Nat} {N : Nat} {Z : AZ} {d : Nat} {t : Option Nat × (Nat × Nat)} (hd : 0 ≤ d) : ∀ (i2 : Int32) (I : AI) (r : Int32 × AI), f305_b18 kad N Z i2 I = some r → aGo kad d 305 (18, ([(2, .int i2)], [])) (aMem Z I, t) (qI Z t r) := by
  intro i2 I r h
  unfold f305_b18 at h
  refine go_ops aMi305 1 _ (f1 := (19, ([(2, .int i2)], [.int i2]))) rfl ?_
  cases h
  exact go_ret aMi305 rfl aRetI ⟨rfl, rfl⟩
def f305 (kad : Nat → Nat) (N : Nat) (Z : AZ) (i0 : Int32) (i1 : Int32) (I : AI) : Option (Int32 × AI) :=
  if i1 = 0 then none else
  if 0 ≤ (i0 ^^^ i1) then
    f305_b18 kad N Z (i0 - i0 / i1 * i1) I
  else
    if (i0 - i0 / i1 * i1) = 0 then
      f305_b18 kad N Z (i0 - i0 / i1 * i1) I
    else
      some (((i0 - i0 / i1 * i1) + i1), I)
set_option maxRecDepth 20000 in
theorem Tf305 {kad : Nat → Nat} {N : Nat} {Z : AZ} {d : Nat} {t : Option Nat × (Nat × Nat)} (hd : 0 ≤ d) : ∀ (i0 : Int32) (i1 : Int32) (I : AI) (r : Int32 × AI), f305 kad N Z i0 i1 I = some r → aGo kad d 305 (0, ([(0, .int i0), (1, .int i1)], [])) (aMem Z I, t) (qI Z t r) := by
  intro i0 i1 I r h
  unfold f305 at h
  refine go_ops aMi305 2 _ (f1 := (2, ([(0, .int i0), (1, .int i1)], [.int i1, .int i0]))) rfl ?_
  by_cases hz2 : i1 = 0
  · rw [if_pos hz2] at h
    cases h
  rw [if_neg hz2] at h
  refine go_op (f1 := (3, ([(0, .int i0), (1, .int i1)], [.int (i0 - i0 / i1 * i1)]))) aMi305 rfl rfl (by show (if i1 = 0 then none else some _) = some _; rw [if_neg hz2]) ?_
  refine go_ops aMi305 4 _ (f1 := (7, ([(2, .int (i0 - i0 / i1 * i1)), (0, .int i0), (1, .int i1)], [.int (i0 ^^^ i1)]))) rfl ?_
  refine gg_br (b := decide (0 ≤ (i0 ^^^ i1))) (tg := 18) (off := 11) aMi305 rfl rfl rfl rfl (fun hb => ?_) (fun hb => ?_)
  · rw [if_pos (of_decide_eq_true hb)] at h
    refine go_le (lv1 := [(2, .int (i0 - i0 / i1 * i1))]) (aLe_of (show (List.map (fun q => q.1) ([(2, .int (i0 - i0 / i1 * i1))] : ALv)).Nodup from (by show ([2] : List Nat).Nodup; decide)) (aSubL_cons rfl aSubL_nil)) ?_
    exact Tf305_b18 hd (i0 - i0 / i1 * i1) I _ h
  · rw [if_neg (of_decide_eq_false hb)] at h
    refine go_ops aMi305 1 _ (f1 := (11, ([(2, .int (i0 - i0 / i1 * i1)), (0, .int i0), (1, .int i1)], [.int (i0 - i0 / i1 * i1)]))) rfl ?_
    refine gg_br (b := decide ((i0 - i0 / i1 * i1) = 0)) (tg := 18) (off := 7) aMi305 rfl rfl rfl rfl (fun hb => ?_) (fun hb => ?_)
    · rw [if_pos (of_decide_eq_true hb)] at h
      refine go_le (lv1 := [(2, .int (i0 - i0 / i1 * i1))]) (aLe_of (show (List.map (fun q => q.1) ([(2, .int (i0 - i0 / i1 * i1))] : ALv)).Nodup from (by show ([2] : List Nat).Nodup; decide)) (aSubL_cons rfl aSubL_nil)) ?_
      exact Tf305_b18 hd (i0 - i0 / i1 * i1) I _ h
    · rw [if_neg (of_decide_eq_false hb)] at h
      refine go_ops aMi305 3 _ (f1 := (17, ([(2, .int (i0 - i0 / i1 * i1)), (0, .int i0), (1, .int i1)], [.int ((i0 - i0 / i1 * i1) + i1)]))) rfl ?_
      cases h
      exact go_ret aMi305 rfl aRetI ⟨rfl, rfl⟩
-- KernelGym.keptStep (I)LKernelGym$Kept;
def f167 (kad : Nat → Nat) (N : Nat) (Z : AZ) (a0 : Nat) (i1 : Int32) (I : AI) : Option (Nat × AI) :=
  (gR Z I 10 4 a0).bind fun b1_1 =>
  (f305 kad N Z i1 (200 : Int32) I).bind fun r8_2 =>
  (lR Z r8_2.2 b1_1 r8_2.1).bind fun b11_3 =>
  some (b11_3, r8_2.2)
set_option maxRecDepth 20000 in
theorem Tf167 {kad : Nat → Nat} {N : Nat} {Z : AZ} {d : Nat} {t : Option Nat × (Nat × Nat)} (hd : 1 ≤ d) : ∀ (a0 : Nat) (i1 : Int32) (I : AI) (r : Nat × AI), f167 kad N Z a0 i1 I = some r → aGo kad d 167 (0, ([(0, .ref a0), (1, .int i1)], [])) (aMem Z I, t) (qA Z t r) := by
  intro a0 i1 I r h
  unfold f167 at h
  refine go_ops aMi167 1 _ (f1 := (1, ([(0, .ref a0), (1, .int i1)], [.ref a0]))) rfl ?_
  obtain ⟨b1_1, hxb1_1, h⟩ := Option.bind_eq_some_iff.mp h
  refine gg_gR aMi167 rfl rfl rfl hxb1_1 ?_
  refine go_ops aMi167 2 _ (f1 := (8, ([(0, .ref a0), (1, .int i1)], [.int (200 : Int32), .int i1, .ref b1_1]))) rfl ?_
  obtain ⟨r8_2, hxr8_2, h⟩ := Option.bind_eq_some_iff.mp h
  refine gg_cs (as := [.int i1, .int (200 : Int32)]) (r := [.ref b1_1]) aMi167 rfl rfl rfl aMi305 rfl (Nat.le_of_ble_eq_true rfl) (Nat.le_of_ble_eq_true rfl) (by omega) (Tf305 (by omega) i1 (200 : Int32) I _ hxr8_2) ?_
  show aGo kad d 167 (11, ([(0, .ref a0), (1, .int i1)], [.int r8_2.1, .ref b1_1])) (aMem Z r8_2.2, t) _
  obtain ⟨b11_3, hxb11_3, h⟩ := Option.bind_eq_some_iff.mp h
  refine gg_lR aMi167 rfl hxb11_3 ?_
  cases h
  exact go_ret aMi167 rfl rfl ⟨rfl, rfl⟩
-- KernelGym.makeSteps (II)I
def f166_b100 (kad : Nat → Nat) (N : Nat) (Z : AZ) (k5 : Nat → Int32 → Int32 → Int32 → Int32 → AI → Option (Int32 × AI)) (a0 : Nat) (i1 : Int32) (i2 : Int32) (i3 : Int32) (s0 : Int32) (I : AI) : Option (Int32 × AI) :=
  k5 a0 i1 i2 i3 s0 I
set_option maxRecDepth 20000 in
theorem Tf166_b100 {kad : Nat → Nat} {N : Nat} {Z : AZ} {d : Nat} {t : Option Nat × (Nat × Nat)} (hd : 10 ≤ d) (k5 : Nat → Int32 → Int32 → Int32 → Int32 → AI → Option (Int32 × AI))  (hk5 : ∀ (a0 : Nat) (i1 : Int32) (i2 : Int32) (i3 : Int32) (i4 : Int32)  (I : AI) (r : Int32 × AI), k5 a0 i1 i2 i3 i4 I = some r → aGo kad d 166 (5, ([(0, .ref a0), (1, .int i1), (2, .int i2), (3, .int i3), (4, .int i4)], [])) (aMem Z I, t) (qI Z t r)) : ∀ (a0 : Nat) (i1 : Int32) (i2 : Int32) (i3 : Int32) (s0 : Int32) (I : AI) (r : Int32 × AI), f166_b100 kad N Z k5 a0 i1 i2 i3 s0 I = some r → aGo kad d 166 (100, ([(0, .ref a0), (1, .int i1), (2, .int i2), (3, .int i3)], [.int s0])) (aMem Z I, t) (qI Z t r) := by
  intro a0 i1 i2 i3 s0 I r h
  unfold f166_b100 at h
  refine go_ops aMi166 2 _ (f1 := (5, ([(4, .int s0), (0, .ref a0), (1, .int i1), (2, .int i2), (3, .int i3)], []))) rfl ?_
  refine go_le (lv1 := [(0, .ref a0), (1, .int i1), (2, .int i2), (3, .int i3), (4, .int s0)]) (aLe_of (show (List.map (fun q => q.1) ([(0, .ref a0), (1, .int i1), (2, .int i2), (3, .int i3), (4, .int s0)] : ALv)).Nodup from (by show ([0, 1, 2, 3, 4] : List Nat).Nodup; decide)) (aSubL_cons rfl (aSubL_cons rfl (aSubL_cons rfl (aSubL_cons rfl (aSubL_cons rfl aSubL_nil)))))) ?_
  exact hk5 a0 i1 i2 i3 s0 I _ h
def f166_b99 (kad : Nat → Nat) (N : Nat) (Z : AZ) (k5 : Nat → Int32 → Int32 → Int32 → Int32 → AI → Option (Int32 × AI)) (a0 : Nat) (i1 : Int32) (i2 : Int32) (i3 : Int32) (I : AI) : Option (Int32 × AI) :=
  f166_b100 kad N Z k5 a0 i1 i2 i3 (0 : Int32) I
set_option maxRecDepth 20000 in
theorem Tf166_b99 {kad : Nat → Nat} {N : Nat} {Z : AZ} {d : Nat} {t : Option Nat × (Nat × Nat)} (hd : 10 ≤ d) (k5 : Nat → Int32 → Int32 → Int32 → Int32 → AI → Option (Int32 × AI))  (hk5 : ∀ (a0 : Nat) (i1 : Int32) (i2 : Int32) (i3 : Int32) (i4 : Int32)  (I : AI) (r : Int32 × AI), k5 a0 i1 i2 i3 i4 I = some r → aGo kad d 166 (5, ([(0, .ref a0), (1, .int i1), (2, .int i2), (3, .int i3), (4, .int i4)], [])) (aMem Z I, t) (qI Z t r)) : ∀ (a0 : Nat) (i1 : Int32) (i2 : Int32) (i3 : Int32) (I : AI) (r : Int32 × AI), f166_b99 kad N Z k5 a0 i1 i2 i3 I = some r → aGo kad d 166 (99, ([(0, .ref a0), (1, .int i1), (2, .int i2), (3, .int i3)], [])) (aMem Z I, t) (qI Z t r) := by
  intro a0 i1 i2 i3 I r h
  unfold f166_b99 at h
  refine go_ops aMi166 1 _ (f1 := (100, ([(0, .ref a0), (1, .int i1), (2, .int i2), (3, .int i3)], [.int (0 : Int32)]))) rfl ?_
  exact Tf166_b100 hd k5 hk5 a0 i1 i2 i3 (0 : Int32) I _ h
def f166_b105 (kad : Nat → Nat) (N : Nat) (Z : AZ) (i3 : Int32) (I : AI) : Option (Int32 × AI) :=
  some (i3, I)
set_option maxRecDepth 20000 in
theorem Tf166_b105 {kad : Nat → Nat} {N : Nat} {Z : AZ} {d : Nat} {t : Option Nat × (Nat × Nat)} (hd : 10 ≤ d) : ∀ (i3 : Int32) (I : AI) (r : Int32 × AI), f166_b105 kad N Z i3 I = some r → aGo kad d 166 (105, ([(3, .int i3)], [])) (aMem Z I, t) (qI Z t r) := by
  intro i3 I r h
  unfold f166_b105 at h
  refine go_ops aMi166 1 _ (f1 := (106, ([(3, .int i3)], [.int i3]))) rfl ?_
  cases h
  exact go_ret aMi166 rfl aRetI ⟨rfl, rfl⟩
def f166_b5 (kad : Nat → Nat) (N : Nat) (Z : AZ) : Nat → Nat → Int32 → Int32 → Int32 → Int32 → AI → Option (Int32 × AI)
  | 0, _, _, _, _, _, _ => none
  | F + 1, a0, i1, i2, i3, i4, I =>
    if i1 ≤ i3 then
      f166_b105 kad N Z i3 I
    else
      if ¬ i4 = 0 then
        f166_b105 kad N Z i3 I
      else
        (gR Z I 10 3 a0).bind fun b16_1 =>
        (isK Z b16_1 8).bind fun u19_2 =>
        (f82 kad N Z b16_1 I).bind fun r19_3 =>
        if r19_3.1 = 0 then
          f166_b105 kad N Z i3 r19_3.2
        else
          (gR Z r19_3.2 10 3 a0).bind fun b26_4 =>
          (gR Z r19_3.2 10 3 a0).bind fun b31_5 =>
          (gR Z r19_3.2 8 0 b31_5).bind fun b34_6 =>
          (gI Z r19_3.2 2 2 b34_6).bind fun x37_7 =>
          (isK Z a0 10).bind fun u40_8 =>
          (f167 kad N Z a0 x37_7 r19_3.2).bind fun r40_9 =>
          (isK Z b26_4 8).bind fun u43_10 =>
          (f83 kad N Z b26_4 r40_9.1 r40_9.2).bind fun r43_11 =>
          (gI Z r43_11.2 10 5 a0).bind fun x48_12 =>
          (pI Z r43_11.2 10 5 a0 (if (200 : Int32) < (x48_12 + (1 : Int32)) then (200 : Int32) else (x48_12 + (1 : Int32)))).bind fun I59_13 =>
          (gR Z I59_13 10 3 a0).bind fun b66_14 =>
          (gR Z I59_13 8 0 b66_14).bind fun b69_15 =>
          (gI Z I59_13 2 3 b69_15).bind fun x72_16 =>
          if ¬ x72_16 = i2 then
            f166_b99 kad N Z (fun p0 p1 p2 p3 p4 I => f166_b5 kad N Z F p0 p1 p2 p3 p4 I) a0 i1 i2 (i3 + (1 : Int32)) I59_13
          else
            (gR Z I59_13 10 3 a0).bind fun b80_17 =>
            (gR Z I59_13 8 0 b80_17).bind fun b83_18 =>
            (gR Z I59_13 2 15 b83_18).bind fun b86_19 =>
            (isK Z b86_19 4).bind fun u89_20 =>
            (f63 kad N Z b86_19 I59_13).bind fun r89_21 =>
            if ¬ r89_21.1 = 0 then
              f166_b99 kad N Z (fun p0 p1 p2 p3 p4 I => f166_b5 kad N Z F p0 p1 p2 p3 p4 I) a0 i1 i2 (i3 + (1 : Int32)) r89_21.2
            else
              f166_b100 kad N Z (fun p0 p1 p2 p3 p4 I => f166_b5 kad N Z F p0 p1 p2 p3 p4 I) a0 i1 i2 (i3 + (1 : Int32)) (1 : Int32) r89_21.2
set_option maxRecDepth 20000 in
theorem Tf166_b5 {kad : Nat → Nat} {N : Nat} {Z : AZ} {d : Nat} {t : Option Nat × (Nat × Nat)} (hd : 10 ≤ d) : ∀ (F : Nat) (a0 : Nat) (i1 : Int32) (i2 : Int32) (i3 : Int32) (i4 : Int32) (I : AI) (r : Int32 × AI), f166_b5 kad N Z F a0 i1 i2 i3 i4 I = some r → aGo kad d 166 (5, ([(0, .ref a0), (1, .int i1), (2, .int i2), (3, .int i3), (4, .int i4)], [])) (aMem Z I, t) (qI Z t r) := by
  intro F
  induction F with
  | zero => intro a0 i1 i2 i3 i4 I r h; cases h
  | succ F ih =>
    intro a0 i1 i2 i3 i4 I r h
    unfold f166_b5 at h
    refine go_ops aMi166 2 _ (f1 := (7, ([(0, .ref a0), (1, .int i1), (2, .int i2), (3, .int i3), (4, .int i4)], [.int i1, .int i3]))) rfl ?_
    refine gg_br (b := decide (i1 ≤ i3)) (tg := 105) (off := 98) aMi166 rfl rfl rfl rfl (fun hb => ?_) (fun hb => ?_)
    · rw [if_pos (of_decide_eq_true hb)] at h
      refine go_le (lv1 := [(3, .int i3)]) (aLe_of (show (List.map (fun q => q.1) ([(3, .int i3)] : ALv)).Nodup from (by show ([3] : List Nat).Nodup; decide)) (aSubL_cons rfl aSubL_nil)) ?_
      exact Tf166_b105 hd i3 I _ h
    · rw [if_neg (of_decide_eq_false hb)] at h
      refine go_ops aMi166 1 _ (f1 := (12, ([(0, .ref a0), (1, .int i1), (2, .int i2), (3, .int i3), (4, .int i4)], [.int i4]))) rfl ?_
      refine gg_br (b := decide (¬ i4 = 0)) (tg := 105) (off := 93) aMi166 rfl rfl rfl rfl (fun hb => ?_) (fun hb => ?_)
      · rw [if_pos (of_decide_eq_true hb)] at h
        refine go_le (lv1 := [(3, .int i3)]) (aLe_of (show (List.map (fun q => q.1) ([(3, .int i3)] : ALv)).Nodup from (by show ([3] : List Nat).Nodup; decide)) (aSubL_cons rfl aSubL_nil)) ?_
        exact Tf166_b105 hd i3 I _ h
      · rw [if_neg (of_decide_eq_false hb)] at h
        refine go_ops aMi166 1 _ (f1 := (16, ([(0, .ref a0), (1, .int i1), (2, .int i2), (3, .int i3), (4, .int i4)], [.ref a0]))) rfl ?_
        obtain ⟨b16_1, hxb16_1, h⟩ := Option.bind_eq_some_iff.mp h
        refine gg_gR aMi166 rfl rfl rfl hxb16_1 ?_
        obtain ⟨u19_2, hxu19_2, h⟩ := Option.bind_eq_some_iff.mp h
        obtain ⟨r19_3, hxr19_3, h⟩ := Option.bind_eq_some_iff.mp h
        refine gg_cv (as := []) (r := []) aMi166 rfl rfl rfl aMi82 (Nat.le_of_ble_eq_true rfl) rfl (Nat.le_of_ble_eq_true rfl) (Nat.le_of_ble_eq_true rfl) (by omega) hxu19_2 (Tf82 (by omega) b16_1 I _ hxr19_3) ?_
        show aGo kad d 166 (22, ([(0, .ref a0), (1, .int i1), (2, .int i2), (3, .int i3), (4, .int i4)], [.int r19_3.1])) (aMem Z r19_3.2, t) _
        refine gg_br (b := decide (r19_3.1 = 0)) (tg := 105) (off := 83) aMi166 rfl rfl rfl rfl (fun hb => ?_) (fun hb => ?_)
        · rw [if_pos (of_decide_eq_true hb)] at h
          refine go_le (lv1 := [(3, .int i3)]) (aLe_of (show (List.map (fun q => q.1) ([(3, .int i3)] : ALv)).Nodup from (by show ([3] : List Nat).Nodup; decide)) (aSubL_cons rfl aSubL_nil)) ?_
          exact Tf166_b105 hd i3 r19_3.2 _ h
        · rw [if_neg (of_decide_eq_false hb)] at h
          refine go_ops aMi166 1 _ (f1 := (26, ([(0, .ref a0), (1, .int i1), (2, .int i2), (3, .int i3), (4, .int i4)], [.ref a0]))) rfl ?_
          obtain ⟨b26_4, hxb26_4, h⟩ := Option.bind_eq_some_iff.mp h
          refine gg_gR aMi166 rfl rfl rfl hxb26_4 ?_
          refine go_ops aMi166 2 _ (f1 := (31, ([(0, .ref a0), (1, .int i1), (2, .int i2), (3, .int i3), (4, .int i4)], [.ref a0, .ref a0, .ref b26_4]))) rfl ?_
          obtain ⟨b31_5, hxb31_5, h⟩ := Option.bind_eq_some_iff.mp h
          refine gg_gR aMi166 rfl rfl rfl hxb31_5 ?_
          obtain ⟨b34_6, hxb34_6, h⟩ := Option.bind_eq_some_iff.mp h
          refine gg_gR aMi166 rfl rfl rfl hxb34_6 ?_
          obtain ⟨x37_7, hxx37_7, h⟩ := Option.bind_eq_some_iff.mp h
          refine gg_gI aMi166 rfl rfl rfl hxx37_7 ?_
          obtain ⟨u40_8, hxu40_8, h⟩ := Option.bind_eq_some_iff.mp h
          obtain ⟨r40_9, hxr40_9, h⟩ := Option.bind_eq_some_iff.mp h
          refine gg_cv (as := [.int x37_7]) (r := [.ref b26_4]) aMi166 rfl rfl rfl aMi167 (Nat.le_of_ble_eq_true rfl) rfl (Nat.le_of_ble_eq_true rfl) (Nat.le_of_ble_eq_true rfl) (by omega) hxu40_8 (Tf167 (by omega) a0 x37_7 r19_3.2 _ hxr40_9) ?_
          show aGo kad d 166 (43, ([(0, .ref a0), (1, .int i1), (2, .int i2), (3, .int i3), (4, .int i4)], [.ref r40_9.1, .ref b26_4])) (aMem Z r40_9.2, t) _
          obtain ⟨u43_10, hxu43_10, h⟩ := Option.bind_eq_some_iff.mp h
          obtain ⟨r43_11, hxr43_11, h⟩ := Option.bind_eq_some_iff.mp h
          refine gg_cv (as := [.ref r40_9.1]) (r := []) aMi166 rfl rfl rfl aMi83 (Nat.le_of_ble_eq_true rfl) rfl (Nat.le_of_ble_eq_true rfl) (Nat.le_of_ble_eq_true rfl) (by omega) hxu43_10 (Tf83 (by omega) b26_4 r40_9.1 r40_9.2 _ hxr43_11) ?_
          show aGo kad d 166 (46, ([(0, .ref a0), (1, .int i1), (2, .int i2), (3, .int i3), (4, .int i4)], [])) (aMem Z r43_11.2, t) _
          refine go_ops aMi166 2 _ (f1 := (48, ([(0, .ref a0), (1, .int i1), (2, .int i2), (3, .int i3), (4, .int i4)], [.ref a0, .ref a0]))) rfl ?_
          obtain ⟨x48_12, hxx48_12, h⟩ := Option.bind_eq_some_iff.mp h
          refine gg_gI aMi166 rfl rfl rfl hxx48_12 ?_
          refine go_ops aMi166 3 _ (f1 := (56, ([(0, .ref a0), (1, .int i1), (2, .int i2), (3, .int i3), (4, .int i4)], [.int (200 : Int32), .int (x48_12 + (1 : Int32)), .ref a0]))) rfl ?_
          refine gg_mn aMi166 rfl rfl (Nat.le_of_ble_eq_true rfl) ?_
          obtain ⟨I59_13, hxI59_13, h⟩ := Option.bind_eq_some_iff.mp h
          refine gg_pI aMi166 rfl rfl rfl rfl (by decide) hxI59_13 ?_
          refine go_ops aMi166 2 _ (f1 := (66, ([(3, .int (i3 + (1 : Int32))), (0, .ref a0), (1, .int i1), (2, .int i2), (4, .int i4)], [.ref a0]))) rfl ?_
          obtain ⟨b66_14, hxb66_14, h⟩ := Option.bind_eq_some_iff.mp h
          refine gg_gR aMi166 rfl rfl rfl hxb66_14 ?_
          obtain ⟨b69_15, hxb69_15, h⟩ := Option.bind_eq_some_iff.mp h
          refine gg_gR aMi166 rfl rfl rfl hxb69_15 ?_
          obtain ⟨x72_16, hxx72_16, h⟩ := Option.bind_eq_some_iff.mp h
          refine gg_gI aMi166 rfl rfl rfl hxx72_16 ?_
          refine go_ops aMi166 1 _ (f1 := (76, ([(3, .int (i3 + (1 : Int32))), (0, .ref a0), (1, .int i1), (2, .int i2), (4, .int i4)], [.int i2, .int x72_16]))) rfl ?_
          refine gg_br (b := decide (¬ x72_16 = i2)) (tg := 99) (off := 23) aMi166 rfl rfl rfl rfl (fun hb => ?_) (fun hb => ?_)
          · rw [if_pos (of_decide_eq_true hb)] at h
            refine go_le (lv1 := [(0, .ref a0), (1, .int i1), (2, .int i2), (3, .int (i3 + (1 : Int32)))]) (aLe_of (show (List.map (fun q => q.1) ([(0, .ref a0), (1, .int i1), (2, .int i2), (3, .int (i3 + (1 : Int32)))] : ALv)).Nodup from (by show ([0, 1, 2, 3] : List Nat).Nodup; decide)) (aSubL_cons rfl (aSubL_cons rfl (aSubL_cons rfl (aSubL_cons rfl aSubL_nil))))) ?_
            exact Tf166_b99 hd (fun p0 p1 p2 p3 p4 I => f166_b5 kad N Z F p0 p1 p2 p3 p4 I) (fun p0 p1 p2 p3 p4 I r hh => ih p0 p1 p2 p3 p4 I r hh) a0 i1 i2 (i3 + (1 : Int32)) I59_13 _ h
          · rw [if_neg (of_decide_eq_false hb)] at h
            refine go_ops aMi166 1 _ (f1 := (80, ([(3, .int (i3 + (1 : Int32))), (0, .ref a0), (1, .int i1), (2, .int i2), (4, .int i4)], [.ref a0]))) rfl ?_
            obtain ⟨b80_17, hxb80_17, h⟩ := Option.bind_eq_some_iff.mp h
            refine gg_gR aMi166 rfl rfl rfl hxb80_17 ?_
            obtain ⟨b83_18, hxb83_18, h⟩ := Option.bind_eq_some_iff.mp h
            refine gg_gR aMi166 rfl rfl rfl hxb83_18 ?_
            obtain ⟨b86_19, hxb86_19, h⟩ := Option.bind_eq_some_iff.mp h
            refine gg_gR aMi166 rfl rfl rfl hxb86_19 ?_
            obtain ⟨u89_20, hxu89_20, h⟩ := Option.bind_eq_some_iff.mp h
            obtain ⟨r89_21, hxr89_21, h⟩ := Option.bind_eq_some_iff.mp h
            refine gg_cv (as := []) (r := []) aMi166 rfl rfl rfl aMi63 (Nat.le_of_ble_eq_true rfl) rfl (Nat.le_of_ble_eq_true rfl) (Nat.le_of_ble_eq_true rfl) (by omega) hxu89_20 (Tf63 (by omega) b86_19 I59_13 _ hxr89_21) ?_
            show aGo kad d 166 (92, ([(3, .int (i3 + (1 : Int32))), (0, .ref a0), (1, .int i1), (2, .int i2), (4, .int i4)], [.int r89_21.1])) (aMem Z r89_21.2, t) _
            refine gg_br (b := decide (¬ r89_21.1 = 0)) (tg := 99) (off := 7) aMi166 rfl rfl rfl rfl (fun hb => ?_) (fun hb => ?_)
            · rw [if_pos (of_decide_eq_true hb)] at h
              refine go_le (lv1 := [(0, .ref a0), (1, .int i1), (2, .int i2), (3, .int (i3 + (1 : Int32)))]) (aLe_of (show (List.map (fun q => q.1) ([(0, .ref a0), (1, .int i1), (2, .int i2), (3, .int (i3 + (1 : Int32)))] : ALv)).Nodup from (by show ([0, 1, 2, 3] : List Nat).Nodup; decide)) (aSubL_cons rfl (aSubL_cons rfl (aSubL_cons rfl (aSubL_cons rfl aSubL_nil))))) ?_
              exact Tf166_b99 hd (fun p0 p1 p2 p3 p4 I => f166_b5 kad N Z F p0 p1 p2 p3 p4 I) (fun p0 p1 p2 p3 p4 I r hh => ih p0 p1 p2 p3 p4 I r hh) a0 i1 i2 (i3 + (1 : Int32)) r89_21.2 _ h
            · rw [if_neg (of_decide_eq_false hb)] at h
              refine go_ops aMi166 2 _ (f1 := (100, ([(3, .int (i3 + (1 : Int32))), (0, .ref a0), (1, .int i1), (2, .int i2), (4, .int i4)], [.int (1 : Int32)]))) rfl ?_
              refine go_le (lv1 := [(0, .ref a0), (1, .int i1), (2, .int i2), (3, .int (i3 + (1 : Int32)))]) (aLe_of (show (List.map (fun q => q.1) ([(0, .ref a0), (1, .int i1), (2, .int i2), (3, .int (i3 + (1 : Int32)))] : ALv)).Nodup from (by show ([0, 1, 2, 3] : List Nat).Nodup; decide)) (aSubL_cons rfl (aSubL_cons rfl (aSubL_cons rfl (aSubL_cons rfl aSubL_nil))))) ?_
              exact Tf166_b100 hd (fun p0 p1 p2 p3 p4 I => f166_b5 kad N Z F p0 p1 p2 p3 p4 I) (fun p0 p1 p2 p3 p4 I r hh => ih p0 p1 p2 p3 p4 I r hh) a0 i1 i2 (i3 + (1 : Int32)) (1 : Int32) r89_21.2 _ h
def f166 (kad : Nat → Nat) (N : Nat) (Z : AZ) (a0 : Nat) (i1 : Int32) (i2 : Int32) (I : AI) : Option (Int32 × AI) :=
  f166_b5 kad N Z N a0 i1 i2 (0 : Int32) (0 : Int32) I
set_option maxRecDepth 20000 in
theorem Tf166 {kad : Nat → Nat} {N : Nat} {Z : AZ} {d : Nat} {t : Option Nat × (Nat × Nat)} (hd : 10 ≤ d) : ∀ (a0 : Nat) (i1 : Int32) (i2 : Int32) (I : AI) (r : Int32 × AI), f166 kad N Z a0 i1 i2 I = some r → aGo kad d 166 (0, ([(0, .ref a0), (1, .int i1), (2, .int i2)], [])) (aMem Z I, t) (qI Z t r) := by
  intro a0 i1 i2 I r h
  unfold f166 at h
  refine go_ops aMi166 4 _ (f1 := (5, ([(4, .int (0 : Int32)), (3, .int (0 : Int32)), (0, .ref a0), (1, .int i1), (2, .int i2)], []))) rfl ?_
  refine go_le (lv1 := [(0, .ref a0), (1, .int i1), (2, .int i2), (3, .int (0 : Int32)), (4, .int (0 : Int32))]) (aLe_of (show (List.map (fun q => q.1) ([(0, .ref a0), (1, .int i1), (2, .int i2), (3, .int (0 : Int32)), (4, .int (0 : Int32))] : ALv)).Nodup from (by show ([0, 1, 2, 3, 4] : List Nat).Nodup; decide)) (aSubL_cons rfl (aSubL_cons rfl (aSubL_cons rfl (aSubL_cons rfl (aSubL_cons rfl aSubL_nil)))))) ?_
  exact Tf166_b5 hd N a0 i1 i2 (0 : Int32) (0 : Int32) I _ h
-- KernelGym.step (I)I
def f146 (kad : Nat → Nat) (N : Nat) (Z : AZ) (a0 : Nat) (i1 : Int32) (I : AI) : Option ((Int32 ⊕ String) × AI) :=
  (f138 kad N Z i1 (1 : Int32) (100 : Int32) I).bind fun r4_1 =>
  xB r4_1 fun vr4_1 Ir4_1 =>
  (isK Z a0 10).bind fun u8_2 =>
  (f165 kad N Z a0 Ir4_1).bind fun r8_3 =>
  xB r8_3 fun vr8_3 Ir8_3 =>
  (isK Z a0 10).bind fun u14_4 =>
  (f166 kad N Z a0 i1 (Int32.ofInt (-1)) Ir8_3).bind fun r14_5 =>
  some (.inl r14_5.1, r14_5.2)
set_option maxRecDepth 20000 in
theorem Tf146 {kad : Nat → Nat} {N : Nat} {Z : AZ} {d : Nat} {t : Option Nat × (Nat × Nat)} (hd : 11 ≤ d) : ∀ (a0 : Nat) (i1 : Int32) (I : AI) (r : (Int32 ⊕ String) × AI), f146 kad N Z a0 i1 I = some r → aGo kad d 146 (0, ([(0, .ref a0), (1, .int i1)], [])) (aMem Z I, t) (qX tvI Z t r) := by
  intro a0 i1 I r h
  unfold f146 at h
  refine go_ops aMi146 3 _ (f1 := (4, ([(0, .ref a0), (1, .int i1)], [.int (100 : Int32), .int (1 : Int32), .int i1]))) rfl ?_
  obtain ⟨r4_1, hxr4_1, h⟩ := Option.bind_eq_some_iff.mp h
  rcases xB_eq h with ⟨vr4_1, Ir4_1, her4_1, h2⟩ | ⟨Er4_1, Ir4_1, her4_1, h2⟩
  rotate_left
  · clear h
    subst her4_1
    subst h2
    exact gg_cst (as := [.int i1, .int (1 : Int32), .int (100 : Int32)]) (r := []) aMi146 rfl rfl rfl aMi138 rfl (Nat.le_of_ble_eq_true rfl) (Nat.le_of_ble_eq_true rfl) (by omega) (Tf138 (by omega) i1 (1 : Int32) (100 : Int32) I _ hxr4_1) qX_thr
  clear h
  subst her4_1
  have h := h2
  clear h2
  refine gg_cs (as := [.int i1, .int (1 : Int32), .int (100 : Int32)]) (r := []) aMi146 rfl rfl rfl aMi138 rfl (Nat.le_of_ble_eq_true rfl) (Nat.le_of_ble_eq_true rfl) (by omega) (Tf138 (by omega) i1 (1 : Int32) (100 : Int32) I _ hxr4_1) ?_
  show aGo kad d 146 (7, ([(0, .ref a0), (1, .int i1)], [])) (aMem Z Ir4_1, t) _
  refine go_ops aMi146 1 _ (f1 := (8, ([(0, .ref a0), (1, .int i1)], [.ref a0]))) rfl ?_
  obtain ⟨u8_2, hxu8_2, h⟩ := Option.bind_eq_some_iff.mp h
  obtain ⟨r8_3, hxr8_3, h⟩ := Option.bind_eq_some_iff.mp h
  rcases xB_eq h with ⟨vr8_3, Ir8_3, her8_3, h2⟩ | ⟨Er8_3, Ir8_3, her8_3, h2⟩
  rotate_left
  · clear h
    subst her8_3
    subst h2
    exact gg_cvt (as := []) (r := []) aMi146 rfl rfl rfl aMi165 (Nat.le_of_ble_eq_true rfl) rfl (Nat.le_of_ble_eq_true rfl) (Nat.le_of_ble_eq_true rfl) (by omega) hxu8_2 (Tf165 (by omega) a0 Ir4_1 _ hxr8_3) qX_thr
  clear h
  subst her8_3
  have h := h2
  clear h2
  refine gg_cv (as := []) (r := []) aMi146 rfl rfl rfl aMi165 (Nat.le_of_ble_eq_true rfl) rfl (Nat.le_of_ble_eq_true rfl) (Nat.le_of_ble_eq_true rfl) (by omega) hxu8_2 (Tf165 (by omega) a0 Ir4_1 _ hxr8_3) ?_
  show aGo kad d 146 (11, ([(0, .ref a0), (1, .int i1)], [])) (aMem Z Ir8_3, t) _
  refine go_ops aMi146 3 _ (f1 := (14, ([(0, .ref a0), (1, .int i1)], [.int (Int32.ofInt (-1)), .int i1, .ref a0]))) rfl ?_
  obtain ⟨u14_4, hxu14_4, h⟩ := Option.bind_eq_some_iff.mp h
  obtain ⟨r14_5, hxr14_5, h⟩ := Option.bind_eq_some_iff.mp h
  refine gg_cv (as := [.int i1, .int (Int32.ofInt (-1))]) (r := []) aMi146 rfl rfl rfl aMi166 (Nat.le_of_ble_eq_true rfl) rfl (Nat.le_of_ble_eq_true rfl) (Nat.le_of_ble_eq_true rfl) (by omega) hxu14_4 (Tf166 (by omega) a0 i1 (Int32.ofInt (-1)) Ir8_3 _ hxr14_5) ?_
  show aGo kad d 146 (17, ([(0, .ref a0), (1, .int i1)], [.int r14_5.1])) (aMem Z r14_5.2, t) _
  cases h
  exact go_ret aMi146 rfl aRetI qX_ret
-- KernelGym.runTo (II)I
def f147 (kad : Nat → Nat) (N : Nat) (Z : AZ) (a0 : Nat) (i1 : Int32) (i2 : Int32) (I : AI) : Option ((Int32 ⊕ String) × AI) :=
  (f138 kad N Z i1 (0 : Int32) (255 : Int32) I).bind fun r5_1 =>
  xB r5_1 fun vr5_1 Ir5_1 =>
  (f138 kad N Z i2 (1 : Int32) (100 : Int32) Ir5_1).bind fun r12_2 =>
  xB r12_2 fun vr12_2 Ir12_2 =>
  (isK Z a0 10).bind fun u16_3 =>
  (f165 kad N Z a0 Ir12_2).bind fun r16_4 =>
  xB r16_4 fun vr16_4 Ir16_4 =>
  (isK Z a0 10).bind fun u22_5 =>
  (f166 kad N Z a0 i2 i1 Ir16_4).bind fun r22_6 =>
  some (.inl r22_6.1, r22_6.2)
set_option maxRecDepth 20000 in
theorem Tf147 {kad : Nat → Nat} {N : Nat} {Z : AZ} {d : Nat} {t : Option Nat × (Nat × Nat)} (hd : 11 ≤ d) : ∀ (a0 : Nat) (i1 : Int32) (i2 : Int32) (I : AI) (r : (Int32 ⊕ String) × AI), f147 kad N Z a0 i1 i2 I = some r → aGo kad d 147 (0, ([(0, .ref a0), (1, .int i1), (2, .int i2)], [])) (aMem Z I, t) (qX tvI Z t r) := by
  intro a0 i1 i2 I r h
  unfold f147 at h
  refine go_ops aMi147 3 _ (f1 := (5, ([(0, .ref a0), (1, .int i1), (2, .int i2)], [.int (255 : Int32), .int (0 : Int32), .int i1]))) rfl ?_
  obtain ⟨r5_1, hxr5_1, h⟩ := Option.bind_eq_some_iff.mp h
  rcases xB_eq h with ⟨vr5_1, Ir5_1, her5_1, h2⟩ | ⟨Er5_1, Ir5_1, her5_1, h2⟩
  rotate_left
  · clear h
    subst her5_1
    subst h2
    exact gg_cst (as := [.int i1, .int (0 : Int32), .int (255 : Int32)]) (r := []) aMi147 rfl rfl rfl aMi138 rfl (Nat.le_of_ble_eq_true rfl) (Nat.le_of_ble_eq_true rfl) (by omega) (Tf138 (by omega) i1 (0 : Int32) (255 : Int32) I _ hxr5_1) qX_thr
  clear h
  subst her5_1
  have h := h2
  clear h2
  refine gg_cs (as := [.int i1, .int (0 : Int32), .int (255 : Int32)]) (r := []) aMi147 rfl rfl rfl aMi138 rfl (Nat.le_of_ble_eq_true rfl) (Nat.le_of_ble_eq_true rfl) (by omega) (Tf138 (by omega) i1 (0 : Int32) (255 : Int32) I _ hxr5_1) ?_
  show aGo kad d 147 (8, ([(0, .ref a0), (1, .int i1), (2, .int i2)], [])) (aMem Z Ir5_1, t) _
  refine go_ops aMi147 3 _ (f1 := (12, ([(0, .ref a0), (1, .int i1), (2, .int i2)], [.int (100 : Int32), .int (1 : Int32), .int i2]))) rfl ?_
  obtain ⟨r12_2, hxr12_2, h⟩ := Option.bind_eq_some_iff.mp h
  rcases xB_eq h with ⟨vr12_2, Ir12_2, her12_2, h2⟩ | ⟨Er12_2, Ir12_2, her12_2, h2⟩
  rotate_left
  · clear h
    subst her12_2
    subst h2
    exact gg_cst (as := [.int i2, .int (1 : Int32), .int (100 : Int32)]) (r := []) aMi147 rfl rfl rfl aMi138 rfl (Nat.le_of_ble_eq_true rfl) (Nat.le_of_ble_eq_true rfl) (by omega) (Tf138 (by omega) i2 (1 : Int32) (100 : Int32) Ir5_1 _ hxr12_2) qX_thr
  clear h
  subst her12_2
  have h := h2
  clear h2
  refine gg_cs (as := [.int i2, .int (1 : Int32), .int (100 : Int32)]) (r := []) aMi147 rfl rfl rfl aMi138 rfl (Nat.le_of_ble_eq_true rfl) (Nat.le_of_ble_eq_true rfl) (by omega) (Tf138 (by omega) i2 (1 : Int32) (100 : Int32) Ir5_1 _ hxr12_2) ?_
  show aGo kad d 147 (15, ([(0, .ref a0), (1, .int i1), (2, .int i2)], [])) (aMem Z Ir12_2, t) _
  refine go_ops aMi147 1 _ (f1 := (16, ([(0, .ref a0), (1, .int i1), (2, .int i2)], [.ref a0]))) rfl ?_
  obtain ⟨u16_3, hxu16_3, h⟩ := Option.bind_eq_some_iff.mp h
  obtain ⟨r16_4, hxr16_4, h⟩ := Option.bind_eq_some_iff.mp h
  rcases xB_eq h with ⟨vr16_4, Ir16_4, her16_4, h2⟩ | ⟨Er16_4, Ir16_4, her16_4, h2⟩
  rotate_left
  · clear h
    subst her16_4
    subst h2
    exact gg_cvt (as := []) (r := []) aMi147 rfl rfl rfl aMi165 (Nat.le_of_ble_eq_true rfl) rfl (Nat.le_of_ble_eq_true rfl) (Nat.le_of_ble_eq_true rfl) (by omega) hxu16_3 (Tf165 (by omega) a0 Ir12_2 _ hxr16_4) qX_thr
  clear h
  subst her16_4
  have h := h2
  clear h2
  refine gg_cv (as := []) (r := []) aMi147 rfl rfl rfl aMi165 (Nat.le_of_ble_eq_true rfl) rfl (Nat.le_of_ble_eq_true rfl) (Nat.le_of_ble_eq_true rfl) (by omega) hxu16_3 (Tf165 (by omega) a0 Ir12_2 _ hxr16_4) ?_
  show aGo kad d 147 (19, ([(0, .ref a0), (1, .int i1), (2, .int i2)], [])) (aMem Z Ir16_4, t) _
  refine go_ops aMi147 3 _ (f1 := (22, ([(0, .ref a0), (1, .int i1), (2, .int i2)], [.int i1, .int i2, .ref a0]))) rfl ?_
  obtain ⟨u22_5, hxu22_5, h⟩ := Option.bind_eq_some_iff.mp h
  obtain ⟨r22_6, hxr22_6, h⟩ := Option.bind_eq_some_iff.mp h
  refine gg_cv (as := [.int i2, .int i1]) (r := []) aMi147 rfl rfl rfl aMi166 (Nat.le_of_ble_eq_true rfl) rfl (Nat.le_of_ble_eq_true rfl) (Nat.le_of_ble_eq_true rfl) (by omega) hxu22_5 (Tf166 (by omega) a0 i2 i1 Ir16_4 _ hxr22_6) ?_
  show aGo kad d 147 (25, ([(0, .ref a0), (1, .int i1), (2, .int i2)], [.int r22_6.1])) (aMem Z r22_6.2, t) _
  cases h
  exact go_ret aMi147 rfl aRetI qX_ret
-- KernelGym.back (I)I
def f148_b65 (kad : Nat → Nat) (N : Nat) (Z : AZ) (i2 : Int32) (I : AI) : Option ((Int32 ⊕ String) × AI) :=
  some (.inl i2, I)
set_option maxRecDepth 20000 in
theorem Tf148_b65 {kad : Nat → Nat} {N : Nat} {Z : AZ} {d : Nat} {t : Option Nat × (Nat × Nat)} (hd : 3 ≤ d) : ∀ (i2 : Int32) (I : AI) (r : (Int32 ⊕ String) × AI), f148_b65 kad N Z i2 I = some r → aGo kad d 148 (65, ([(2, .int i2)], [])) (aMem Z I, t) (qX tvI Z t r) := by
  intro i2 I r h
  unfold f148_b65 at h
  refine go_ops aMi148 1 _ (f1 := (66, ([(2, .int i2)], [.int i2]))) rfl ?_
  cases h
  exact go_ret aMi148 rfl aRetI qX_ret
def f148_b14 (kad : Nat → Nat) (N : Nat) (Z : AZ) : Nat → Nat → Int32 → Int32 → AI → Option ((Int32 ⊕ String) × AI)
  | 0, _, _, _, _ => none
  | F + 1, a0, i1, i2, I =>
    if i1 ≤ i2 then
      f148_b65 kad N Z i2 I
    else
      (gI Z I 10 5 a0).bind fun x20_1 =>
      if x20_1 ≤ 0 then
        f148_b65 kad N Z i2 I
      else
        (gR Z I 10 3 a0).bind fun b27_2 =>
        (gR Z I 10 3 a0).bind fun b32_3 =>
        (gR Z I 8 0 b32_3).bind fun b35_4 =>
        (gI Z I 2 2 b35_4).bind fun x38_5 =>
        (isK Z a0 10).bind fun u43_6 =>
        (f167 kad N Z a0 (x38_5 - (1 : Int32)) I).bind fun r43_7 =>
        (isK Z b27_2 8).bind fun u46_8 =>
        (f84 kad N Z b27_2 r43_7.1 r43_7.2).bind fun r46_9 =>
        (gI Z r46_9.2 10 5 a0).bind fun x51_10 =>
        (pI Z r46_9.2 10 5 a0 (x51_10 - (1 : Int32))).bind fun I56_11 =>
        f148_b14 kad N Z F a0 i1 (i2 + (1 : Int32)) I56_11
set_option maxRecDepth 20000 in
theorem Tf148_b14 {kad : Nat → Nat} {N : Nat} {Z : AZ} {d : Nat} {t : Option Nat × (Nat × Nat)} (hd : 3 ≤ d) : ∀ (F : Nat) (a0 : Nat) (i1 : Int32) (i2 : Int32) (I : AI) (r : (Int32 ⊕ String) × AI), f148_b14 kad N Z F a0 i1 i2 I = some r → aGo kad d 148 (14, ([(0, .ref a0), (1, .int i1), (2, .int i2)], [])) (aMem Z I, t) (qX tvI Z t r) := by
  intro F
  induction F with
  | zero => intro a0 i1 i2 I r h; cases h
  | succ F ih =>
    intro a0 i1 i2 I r h
    unfold f148_b14 at h
    refine go_ops aMi148 2 _ (f1 := (16, ([(0, .ref a0), (1, .int i1), (2, .int i2)], [.int i1, .int i2]))) rfl ?_
    refine gg_br (b := decide (i1 ≤ i2)) (tg := 65) (off := 49) aMi148 rfl rfl rfl rfl (fun hb => ?_) (fun hb => ?_)
    · rw [if_pos (of_decide_eq_true hb)] at h
      refine go_le (lv1 := [(2, .int i2)]) (aLe_of (show (List.map (fun q => q.1) ([(2, .int i2)] : ALv)).Nodup from (by show ([2] : List Nat).Nodup; decide)) (aSubL_cons rfl aSubL_nil)) ?_
      exact Tf148_b65 hd i2 I _ h
    · rw [if_neg (of_decide_eq_false hb)] at h
      refine go_ops aMi148 1 _ (f1 := (20, ([(0, .ref a0), (1, .int i1), (2, .int i2)], [.ref a0]))) rfl ?_
      obtain ⟨x20_1, hxx20_1, h⟩ := Option.bind_eq_some_iff.mp h
      refine gg_gI aMi148 rfl rfl rfl hxx20_1 ?_
      refine gg_br (b := decide (x20_1 ≤ 0)) (tg := 65) (off := 42) aMi148 rfl rfl rfl rfl (fun hb => ?_) (fun hb => ?_)
      · rw [if_pos (of_decide_eq_true hb)] at h
        refine go_le (lv1 := [(2, .int i2)]) (aLe_of (show (List.map (fun q => q.1) ([(2, .int i2)] : ALv)).Nodup from (by show ([2] : List Nat).Nodup; decide)) (aSubL_cons rfl aSubL_nil)) ?_
        exact Tf148_b65 hd i2 I _ h
      · rw [if_neg (of_decide_eq_false hb)] at h
        refine go_ops aMi148 1 _ (f1 := (27, ([(0, .ref a0), (1, .int i1), (2, .int i2)], [.ref a0]))) rfl ?_
        obtain ⟨b27_2, hxb27_2, h⟩ := Option.bind_eq_some_iff.mp h
        refine gg_gR aMi148 rfl rfl rfl hxb27_2 ?_
        refine go_ops aMi148 2 _ (f1 := (32, ([(0, .ref a0), (1, .int i1), (2, .int i2)], [.ref a0, .ref a0, .ref b27_2]))) rfl ?_
        obtain ⟨b32_3, hxb32_3, h⟩ := Option.bind_eq_some_iff.mp h
        refine gg_gR aMi148 rfl rfl rfl hxb32_3 ?_
        obtain ⟨b35_4, hxb35_4, h⟩ := Option.bind_eq_some_iff.mp h
        refine gg_gR aMi148 rfl rfl rfl hxb35_4 ?_
        obtain ⟨x38_5, hxx38_5, h⟩ := Option.bind_eq_some_iff.mp h
        refine gg_gI aMi148 rfl rfl rfl hxx38_5 ?_
        refine go_ops aMi148 2 _ (f1 := (43, ([(0, .ref a0), (1, .int i1), (2, .int i2)], [.int (x38_5 - (1 : Int32)), .ref a0, .ref b27_2]))) rfl ?_
        obtain ⟨u43_6, hxu43_6, h⟩ := Option.bind_eq_some_iff.mp h
        obtain ⟨r43_7, hxr43_7, h⟩ := Option.bind_eq_some_iff.mp h
        refine gg_cv (as := [.int (x38_5 - (1 : Int32))]) (r := [.ref b27_2]) aMi148 rfl rfl rfl aMi167 (Nat.le_of_ble_eq_true rfl) rfl (Nat.le_of_ble_eq_true rfl) (Nat.le_of_ble_eq_true rfl) (by omega) hxu43_6 (Tf167 (by omega) a0 (x38_5 - (1 : Int32)) I _ hxr43_7) ?_
        show aGo kad d 148 (46, ([(0, .ref a0), (1, .int i1), (2, .int i2)], [.ref r43_7.1, .ref b27_2])) (aMem Z r43_7.2, t) _
        obtain ⟨u46_8, hxu46_8, h⟩ := Option.bind_eq_some_iff.mp h
        obtain ⟨r46_9, hxr46_9, h⟩ := Option.bind_eq_some_iff.mp h
        refine gg_cv (as := [.ref r43_7.1]) (r := []) aMi148 rfl rfl rfl aMi84 (Nat.le_of_ble_eq_true rfl) rfl (Nat.le_of_ble_eq_true rfl) (Nat.le_of_ble_eq_true rfl) (by omega) hxu46_8 (Tf84 (by omega) b27_2 r43_7.1 r43_7.2 _ hxr46_9) ?_
        show aGo kad d 148 (49, ([(0, .ref a0), (1, .int i1), (2, .int i2)], [])) (aMem Z r46_9.2, t) _
        refine go_ops aMi148 2 _ (f1 := (51, ([(0, .ref a0), (1, .int i1), (2, .int i2)], [.ref a0, .ref a0]))) rfl ?_
        obtain ⟨x51_10, hxx51_10, h⟩ := Option.bind_eq_some_iff.mp h
        refine gg_gI aMi148 rfl rfl rfl hxx51_10 ?_
        refine go_ops aMi148 2 _ (f1 := (56, ([(0, .ref a0), (1, .int i1), (2, .int i2)], [.int (x51_10 - (1 : Int32)), .ref a0]))) rfl ?_
        obtain ⟨I56_11, hxI56_11, h⟩ := Option.bind_eq_some_iff.mp h
        refine gg_pI aMi148 rfl rfl rfl rfl (by decide) hxI56_11 ?_
        refine go_ops aMi148 2 _ (f1 := (14, ([(2, .int (i2 + (1 : Int32))), (0, .ref a0), (1, .int i1)], []))) rfl ?_
        refine go_le (lv1 := [(0, .ref a0), (1, .int i1), (2, .int (i2 + (1 : Int32)))]) (aLe_of (show (List.map (fun q => q.1) ([(0, .ref a0), (1, .int i1), (2, .int (i2 + (1 : Int32)))] : ALv)).Nodup from (by show ([0, 1, 2] : List Nat).Nodup; decide)) (aSubL_cons rfl (aSubL_cons rfl (aSubL_cons rfl aSubL_nil)))) ?_
        exact ih a0 i1 (i2 + (1 : Int32)) I56_11 _ h
def f148 (kad : Nat → Nat) (N : Nat) (Z : AZ) (a0 : Nat) (i1 : Int32) (I : AI) : Option ((Int32 ⊕ String) × AI) :=
  (f138 kad N Z i1 (1 : Int32) (200 : Int32) I).bind fun r5_1 =>
  xB r5_1 fun vr5_1 Ir5_1 =>
  (isK Z a0 10).bind fun u9_2 =>
  (f165 kad N Z a0 Ir5_1).bind fun r9_3 =>
  xB r9_3 fun vr9_3 Ir9_3 =>
  f148_b14 kad N Z N a0 i1 (0 : Int32) Ir9_3
set_option maxRecDepth 20000 in
theorem Tf148 {kad : Nat → Nat} {N : Nat} {Z : AZ} {d : Nat} {t : Option Nat × (Nat × Nat)} (hd : 3 ≤ d) : ∀ (a0 : Nat) (i1 : Int32) (I : AI) (r : (Int32 ⊕ String) × AI), f148 kad N Z a0 i1 I = some r → aGo kad d 148 (0, ([(0, .ref a0), (1, .int i1)], [])) (aMem Z I, t) (qX tvI Z t r) := by
  intro a0 i1 I r h
  unfold f148 at h
  refine go_ops aMi148 3 _ (f1 := (5, ([(0, .ref a0), (1, .int i1)], [.int (200 : Int32), .int (1 : Int32), .int i1]))) rfl ?_
  obtain ⟨r5_1, hxr5_1, h⟩ := Option.bind_eq_some_iff.mp h
  rcases xB_eq h with ⟨vr5_1, Ir5_1, her5_1, h2⟩ | ⟨Er5_1, Ir5_1, her5_1, h2⟩
  rotate_left
  · clear h
    subst her5_1
    subst h2
    exact gg_cst (as := [.int i1, .int (1 : Int32), .int (200 : Int32)]) (r := []) aMi148 rfl rfl rfl aMi138 rfl (Nat.le_of_ble_eq_true rfl) (Nat.le_of_ble_eq_true rfl) (by omega) (Tf138 (by omega) i1 (1 : Int32) (200 : Int32) I _ hxr5_1) qX_thr
  clear h
  subst her5_1
  have h := h2
  clear h2
  refine gg_cs (as := [.int i1, .int (1 : Int32), .int (200 : Int32)]) (r := []) aMi148 rfl rfl rfl aMi138 rfl (Nat.le_of_ble_eq_true rfl) (Nat.le_of_ble_eq_true rfl) (by omega) (Tf138 (by omega) i1 (1 : Int32) (200 : Int32) I _ hxr5_1) ?_
  show aGo kad d 148 (8, ([(0, .ref a0), (1, .int i1)], [])) (aMem Z Ir5_1, t) _
  refine go_ops aMi148 1 _ (f1 := (9, ([(0, .ref a0), (1, .int i1)], [.ref a0]))) rfl ?_
  obtain ⟨u9_2, hxu9_2, h⟩ := Option.bind_eq_some_iff.mp h
  obtain ⟨r9_3, hxr9_3, h⟩ := Option.bind_eq_some_iff.mp h
  rcases xB_eq h with ⟨vr9_3, Ir9_3, her9_3, h2⟩ | ⟨Er9_3, Ir9_3, her9_3, h2⟩
  rotate_left
  · clear h
    subst her9_3
    subst h2
    exact gg_cvt (as := []) (r := []) aMi148 rfl rfl rfl aMi165 (Nat.le_of_ble_eq_true rfl) rfl (Nat.le_of_ble_eq_true rfl) (Nat.le_of_ble_eq_true rfl) (by omega) hxu9_2 (Tf165 (by omega) a0 Ir5_1 _ hxr9_3) qX_thr
  clear h
  subst her9_3
  have h := h2
  clear h2
  refine gg_cv (as := []) (r := []) aMi148 rfl rfl rfl aMi165 (Nat.le_of_ble_eq_true rfl) rfl (Nat.le_of_ble_eq_true rfl) (Nat.le_of_ble_eq_true rfl) (by omega) hxu9_2 (Tf165 (by omega) a0 Ir5_1 _ hxr9_3) ?_
  show aGo kad d 148 (12, ([(0, .ref a0), (1, .int i1)], [])) (aMem Z Ir9_3, t) _
  refine go_ops aMi148 2 _ (f1 := (14, ([(2, .int (0 : Int32)), (0, .ref a0), (1, .int i1)], []))) rfl ?_
  refine go_le (lv1 := [(0, .ref a0), (1, .int i1), (2, .int (0 : Int32))]) (aLe_of (show (List.map (fun q => q.1) ([(0, .ref a0), (1, .int i1), (2, .int (0 : Int32))] : ALv)).Nodup from (by show ([0, 1, 2] : List Nat).Nodup; decide)) (aSubL_cons rfl (aSubL_cons rfl (aSubL_cons rfl aSubL_nil)))) ?_
  exact Tf148_b14 hd N a0 i1 (0 : Int32) Ir9_3 _ h
