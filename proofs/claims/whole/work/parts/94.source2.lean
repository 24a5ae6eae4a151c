/-! a line is added, in both -/
def ADD (es : List Nat) (g m : Nat) (I J : AI) (cls : Option ((Int32 ⊕ String) × AI)) (mdl : Option (Int32 × AI)) : Prop := ∃ th v n' L', th ≤ es.length ∧ LI n' L' ∧ Ok cls (fun x I' => x = rx es th v ∧ CSr n' (g + 1) L' I' ∧ frCL g I I') ∧ Ok mdl (fun x J' => (th = 0 → x = v) ∧ MSr n' m L' J' ∧ frML m (up2 J m 0 (Int32.ofNat th)) J')
section SD
variable {kad : Nat → Nat} {N : Nat} {Z : AZ} {g m n : Nat} {I J L : AI} {a b c d e f k : Int32}
theorem MSr.o (H : MSr n m L I) (h0 : J m 1 = I m 1) (h1 : J (m + 1) = I (m + 1)) (h2 : J (m + 2) = I (m + 2)) : MSr n m L J := by
  refine ⟨by rw [h0]; exact H.1, fun i hi => ?_⟩
  unfold MLn
  rw [h1, h2]
  exact H.2 i hi
theorem CSr.o (H : CSr n g L I) (h0 : J g 0 = I g 0) (h1 : ∀ i, i < n → J (g + (12 + i)) = I (g + (12 + i))) : CSr n g L J := by
  refine ⟨by rw [h0]; exact H.1, fun i hi => ?_⟩
  unfold CL
  rw [h1 i hi]
  exact H.2 i hi
theorem frCL.refl : frCL g I I := fun _ _ => rfl
theorem frML.refl : frML m I I := fun _ _ _ _ => rfl
theorem xB_id {o : Option ((Int32 ⊕ String) × AI)} : (o.bind fun r => xB r fun v I => some (.inl v, I)) = o := by
  cases o with
  | none => rfl
  | some z =>
    obtain ⟨z1, z2⟩ := z
    cases z1 <;> rfl
theorem K139 : f139 kad N Z k a I = some (if k < 0 ∨ 3 < k then .inr (aEC 0) else if a < 0 ∨ (if k = 1 then 19 else 65535) < a then .inr (aEC 0) else .inl (), I) := by
  unfold f139 f139_b20
  rw [K138, Option.bind_some]
  by_cases h : k < 0 ∨ 3 < k
  · rw [if_pos h, if_pos h]; rfl
  · rw [if_neg h, if_neg h]
    unfold xB
    dsimp only
    rw [K138, K138, Option.bind_some, Option.bind_some]
    by_cases h1 : k = 1
    · rw [if_neg (fun hh => hh h1), if_pos h1]
      by_cases h2 : a < 0 ∨ 19 < a
      · rw [if_pos h2]
      · rw [if_neg h2]
    · rw [if_pos h1, if_neg h1]
      by_cases h2 : a < 0 ∨ 65535 < a
      · rw [if_pos h2]
      · rw [if_neg h2]
theorem opOK_ne : ¬ opOK k a ↔ (k < 0 ∨ 3 < k) ∨ (a < 0 ∨ (if k = 1 then 19 else 65535) < a) := by
  unfold opOK
  constructor
  · intro h
    by_cases h1 : k < 0 ∨ 3 < k
    · exact Or.inl h1
    · refine Or.inr ?_
      by_cases h2 : a < 0 ∨ (if k = 1 then 19 else 65535) < a
      · exact h2
      · exact absurd ⟨h1, h2⟩ h
  · rintro (h | h) ⟨h1, h2⟩
    · exact h1 h
    · exact h2 h
theorem K139_n (h : ¬ opOK k a) : f139 kad N Z k a I = some (.inr (aEC 0), I) := by
  rw [K139]
  rcases opOK_ne.mp h with h1 | h1
  · rw [if_pos h1]
  · rw [if_pos h1, ite_self]
theorem K139_y (h : opOK k a) : f139 kad N Z k a I = some (.inl (), I) := by
  rw [K139, if_neg h.1, if_neg h.2]
theorem M189_n (h : ¬ opOK k a) : f189 kad N Z k a I = some (0, I) := by
  unfold f189 f189_b23 f189_b33 f189_b34
  rw [M186, Option.bind_some]
  rcases opOK_ne.mp h with h1 | h1
  · rw [if_pos h1, if_pos rfl, if_pos (Or.inl rfl)]
  · by_cases h0 : k < 0 ∨ 3 < k
    · rw [if_pos h0, if_pos rfl, if_pos (Or.inl rfl)]
    rw [if_neg h0, if_neg z10]
    by_cases h2 : k = 1
    · rw [if_pos h2] at h1
      rw [if_neg (fun hh => hh h2), M186, Option.bind_some, if_pos h1, if_pos rfl, if_pos (Or.inl rfl)]
    · rw [if_neg h2] at h1
      rw [if_pos h2, M186, Option.bind_some, if_pos h1, if_pos rfl, if_pos (Or.inl rfl)]
theorem M189_y (h : opOK k a) : f189 kad N Z k a I = some (1, I) := by
  unfold f189 f189_b23 f189_b33 f189_b34
  obtain ⟨h0, h1⟩ := h
  rw [M186, Option.bind_some, if_neg h0, if_neg z10]
  by_cases h2 : k = 1
  · rw [if_pos h2] at h1
    rw [if_neg (fun hh => hh h2), M186, Option.bind_some, if_neg h1, if_neg z10, if_pos (Or.inr rfl)]
  · rw [if_neg h2] at h1
    rw [if_pos h2, M186, Option.bind_some, if_neg h1, if_neg z10, if_pos (Or.inr rfl)]
theorem K141 {l : Nat} : f141 kad N Z g l a I = f142 kad N Z g l a 0 0 I := by
  unfold f141
  exact xB_id
theorem ADD_bad (hI : LI n L) (HC : CSr n (g + 1) L I) (HM : MSr n m L J) {es : List Nat} {th : Nat} (h0 : 0 < th) (h1 : th ≤ es.length) {x : Int32} : ADD es g m I J (some (.inr (aEC (es.getD (th - 1) 0)), I)) (some (x, up2 J m 0 (Int32.ofNat th))) := by
  refine ⟨th, 0, n, L, h1, hI, ⟨_, _, rfl, ?_, HC, frCL.refl⟩, ⟨_, _, rfl, fun hh => absurd hh (by omega), HM.o (up2_ne (by omega)) (up2_b (by omega)) (up2_b (by omega)), frML.refl⟩⟩
  unfold rx
  rw [if_neg (by omega)]
/-- a call that adds a line: full, or the line is there -/
theorem ADD_go (hg : sh10 kad Z g) (hI : LI n L) (HC : CSr n (g + 1) L I) (HM : MSr n m L J) {j : Nat} (hj : j < 9) {p q r s' t : Int32} (hv : LV (lAdd L n (Int32.ofNat j) a b d 0 0) n)
    (k1 : (Int32.ofNat j = 0 ∨ Int32.ofNat j = 1 ∨ Int32.ofNat j = 4 ∨ Int32.ofNat j = 6) → p = a) (k2 : (Int32.ofNat j = 2 ∨ Int32.ofNat j = 3 ∨ Int32.ofNat j = 5 ∨ Int32.ofNat j = 8) → p = b ∧ q = d) (k3 : (Int32.ofNat j = 2 ∨ Int32.ofNat j = 5) → r = a) (k4 : Int32.ofNat j = 8 → False) :
    ADD [0, 1] g m I J (f142 kad N Z g (kad j) a b d I) (f190 kad N Z m 1 (Int32.ofNat j) p q r s' t J) := by
  obtain ⟨q0, q1⟩ := K142 (N := N) (a := a) (b := b) (c := d) hg hI.1 HC hj
  by_cases h1 : n = 100
  · rw [q0 h1, M190_2 z10 (by rw [HM.1, h1]; rfl)]
    exact ADD_bad hI HC HM (es := [0, 1]) (th := 2) (by decide) (by decide)
  have hn : n < 100 := by have := hI.1; omega
  obtain ⟨I', e1, e2, e3⟩ := q1 hn
  obtain ⟨J', f1, ⟨f2, f3⟩, f4, f5⟩ := M190_ok (kad := kad) (N := N) (Z := Z) (c := Int32.ofNat j) (p := p) (q := q) (r := r) (s' := s') (t := t) (s := 1) z10 HM.1 hn
  obtain ⟨g1, g2⟩ := HM.add (a := a) (b := b) (d := d) (e := 0) (f := 0) hn f2 f3 f4 f5 k1 k2 k3 (fun hh => (k4 hh).elim)
  exact ⟨0, Int32.ofNat (n + 1), n + 1, _, by decide, hI.add hn hv, ⟨_, _, e1, rfl, e2, e3⟩, ⟨_, _, f1, fun _ => rfl, g1, g2⟩⟩
theorem LV_n {j : Int32} : LV (lAdd L n j a b d e f) n ↔ ((j = 0 ∧ ¬ bad a 0 1) ∨ (j = 1 ∧ ¬ bad a 0 19) ∨ (j = 2 ∧ ¬ bad a 0 65535 ∧ opOK b d) ∨ (j = 3 ∧ opOK b d) ∨ (j = 4 ∧ ¬ bad a 1 32) ∨ (j = 5 ∧ ¬ bad a 0 1 ∧ opOK b d) ∨ (j = 6 ∧ ¬ bad a 0 4) ∨ j = 7 ∨ (j = 8 ∧ ¬ bad a 0 4 ∧ opOK b d ∧ opOK e f)) := by
  unfold LV
  rw [lAdd_n, lAdd_n, lAdd_n, lAdd_n, lAdd_n, lAdd_n]
  exact Iff.rfl
theorem xB_r {α β : Type} {E : String} {k : α → AI → Option ((β ⊕ String) × AI)} : xB (.inr E, I) k = some (.inr E, I) := rfl
theorem xB_l {α β : Type} {v : α} {k : α → AI → Option ((β ⊕ String) × AI)} : xB (.inl v, I) k = k v I := rfl
theorem bindE {α : Type} {o : Option (α × AI)} : (o.bind fun r => some (r.1, r.2)) = o := by
  cases o <;> rfl
theorem t00 : (0 : Int32) = 0 := rfl
theorem t10 : ((1 : Int32) = 0) = False := eq_false (by decide)
theorem ADD_1 (hI : LI n L) (HC : CSr n (g + 1) L I) (HM : MSr n m L J) {x : Int32} : ADD [0, 1] g m I J (some (.inr (aEC 0), I)) (some (x, up2 J m 0 1)) := ADD_bad hI HC HM (es := [0, 1]) (th := 1) (by decide) (by decide)
theorem T126 (hg : sh10 kad Z g) (hI : LI n L) (HC : CSr n (g + 1) L I) (HM : MSr n m L J) : ADD [0, 1] g m I J (f126 kad N Z g a I) (f191 kad N Z m a J) := by
  unfold f126 f191
  simp only [K138, M186, Option.bind_some, K141, xB_id, bindE]
  by_cases h1 : a < 0 ∨ 1 < a
  · simp only [if_pos h1, xB_r, M190_1]
    exact ADD_1 hI HC HM
  · simp only [if_neg h1, xB_l]
    exact ADD_go hg hI HC HM (j := 0) (by decide) (LV_n.mpr (Or.inl ⟨rfl, h1⟩)) (fun _ => rfl) (fun hh => absurd hh (by decide)) (fun hh => absurd hh (by decide)) (fun hh => absurd hh (by decide))
theorem T127 (hg : sh10 kad Z g) (hI : LI n L) (HC : CSr n (g + 1) L I) (HM : MSr n m L J) : ADD [0, 1] g m I J (f127 kad N Z g a I) (f192 kad N Z m a J) := by
  unfold f127 f192
  simp only [K138, M186, Option.bind_some, K141, xB_id, bindE]
  by_cases h1 : a < 0 ∨ 19 < a
  · simp only [if_pos h1, xB_r, M190_1]
    exact ADD_1 hI HC HM
  · simp only [if_neg h1, xB_l]
    exact ADD_go hg hI HC HM (j := 1) (by decide) (LV_n.mpr (Or.inr (Or.inl ⟨rfl, h1⟩))) (fun _ => rfl) (fun hh => absurd hh (by decide)) (fun hh => absurd hh (by decide)) (fun hh => absurd hh (by decide))
theorem T130 (hg : sh10 kad Z g) (hI : LI n L) (HC : CSr n (g + 1) L I) (HM : MSr n m L J) : ADD [0, 1] g m I J (f130 kad N Z g a I) (f195 kad N Z m a J) := by
  unfold f130 f195
  simp only [K138, M186, Option.bind_some, K141, xB_id, bindE]
  by_cases h1 : a < 1 ∨ 32 < a
  · simp only [if_pos h1, xB_r, M190_1]
    exact ADD_1 hI HC HM
  · simp only [if_neg h1, xB_l]
    exact ADD_go hg hI HC HM (j := 4) (by decide) (LV_n.mpr (by right; right; right; right; exact Or.inl ⟨rfl, h1⟩)) (fun _ => rfl) (fun hh => absurd hh (by decide)) (fun hh => absurd hh (by decide)) (fun hh => absurd hh (by decide))
theorem T132 (hg : sh10 kad Z g) (hI : LI n L) (HC : CSr n (g + 1) L I) (HM : MSr n m L J) : ADD [0, 1] g m I J (f132 kad N Z g a I) (f197 kad N Z m a J) := by
  unfold f132 f197
  simp only [K138, M186, Option.bind_some, K141, xB_id, bindE]
  by_cases h1 : a < 0 ∨ 4 < a
  · simp only [if_pos h1, xB_r, M190_1]
    exact ADD_1 hI HC HM
  · simp only [if_neg h1, xB_l]
    exact ADD_go hg hI HC HM (j := 6) (by decide) (LV_n.mpr (by right; right; right; right; right; right; exact Or.inl ⟨rfl, h1⟩)) (fun _ => rfl) (fun hh => absurd hh (by decide)) (fun hh => absurd hh (by decide)) (fun hh => absurd hh (by decide))
theorem T129 (hg : sh10 kad Z g) (hI : LI n L) (HC : CSr n (g + 1) L I) (HM : MSr n m L J) : ADD [0, 1] g m I J (f129 kad N Z g a b I) (f194 kad N Z m a b J) := by
  unfold f129 f194
  simp only [xB_id, bindE]
  by_cases h1 : opOK a b
  · simp only [K139_y h1, M189_y h1, Option.bind_some, xB_l]
    exact ADD_go hg hI HC HM (j := 3) (by decide) (LV_n.mpr (by right; right; right; exact Or.inl ⟨rfl, h1⟩)) (fun hh => absurd hh (by decide)) (fun _ => ⟨rfl, rfl⟩) (fun hh => absurd hh (by decide)) (fun hh => absurd hh (by decide))
  · simp only [K139_n h1, M189_n h1, Option.bind_some, xB_r, M190_1]
    exact ADD_1 hI HC HM
theorem T131 (hg : sh10 kad Z g) (hI : LI n L) (HC : CSr n (g + 1) L I) (HM : MSr n m L J) : ADD [0, 1] g m I J (f131 kad N Z g a b c I) (f196 kad N Z m a b c J) := by
  unfold f131 f196 f196_b22 f196_b23
  simp only [K138, M186, Option.bind_some, xB_id, bindE]
  by_cases h1 : a < 0 ∨ 1 < a
  · simp only [if_pos h1, xB_r, M190_1, t00, if_true]
    exact ADD_1 hI HC HM
  · simp only [if_neg h1, xB_l, t10, if_false]
    by_cases h2 : opOK b c
    · simp only [K139_y h2, M189_y h2, Option.bind_some, xB_l, t10, if_false]
      exact ADD_go hg hI HC HM (j := 5) (by decide) (LV_n.mpr (by right; right; right; right; right; exact Or.inl ⟨rfl, h1, h2⟩)) (fun hh => absurd hh (by decide)) (fun _ => ⟨rfl, rfl⟩) (fun _ => rfl) (fun hh => absurd hh (by decide))
    · simp only [K139_n h2, M189_n h2, Option.bind_some, xB_r, t00, if_true, M190_1]
      exact ADD_1 hI HC HM
theorem code_in {i d' s' : Int32} (h1 : ¬ (i < 0 ∨ 26 < i)) (h2 : ¬ (d' < 0 ∨ 3 < d')) (h3 : ¬ (s' < 0 ∨ 3 < s')) : ¬ bad (16 * i + 4 * d' + s') 0 65535 := by
  obtain ⟨i', hi, hi2⟩ : ∃ k : Nat, i = Int32.ofNat k ∧ k ≤ 26 := by
    obtain ⟨e, _, e2⟩ := in_nat (i := i) (a := 0) (b := 26) h1 (by decide) (by decide)
    exact ⟨_, e, e2⟩
  obtain ⟨dd, hd, hd2⟩ : ∃ k : Nat, d' = Int32.ofNat k ∧ k ≤ 3 := by
    obtain ⟨e, _, e2⟩ := in_nat (i := d') (a := 0) (b := 3) h2 (by decide) (by decide)
    exact ⟨_, e, e2⟩
  obtain ⟨ss, hs, hs2⟩ : ∃ k : Nat, s' = Int32.ofNat k ∧ k ≤ 3 := by
    obtain ⟨e, _, e2⟩ := in_nat (i := s') (a := 0) (b := 3) h3 (by decide) (by decide)
    exact ⟨_, e, e2⟩
  have e : 16 * i + 4 * d' + s' = Int32.ofNat (16 * i' + 4 * dd + ss) := by
    rw [hi, hd, hs, show (16 : Int32) = Int32.ofNat 16 from rfl, show (4 : Int32) = Int32.ofNat 4 from rfl, eM, eM, eA, eA]
  unfold bad
  rw [e]
  rintro (h | h)
  · exact of_nn (by omega) h
  · have := (of_lt (m := 65535) (by decide) (by omega)).mp h
    omega
theorem T128 (hg : sh10 kad Z g) (hI : LI n L) (HC : CSr n (g + 1) L I) (HM : MSr n m L J) : ADD [0, 1] g m I J (f128 kad N Z g a b c d e I) (f193 kad N Z m a b c d e J) := by
  unfold f128 f193 f193_b42 f193_b43
  simp only [K138, M186, Option.bind_some, xB_id, bindE]
  by_cases h1 : a < 0 ∨ 26 < a
  · simp only [if_pos h1, xB_r, M190_1, t00, if_true]
    exact ADD_1 hI HC HM
  simp only [if_neg h1, xB_l, t10, if_false]
  by_cases h2 : b < 0 ∨ 3 < b
  · simp only [if_pos h2, xB_r, M190_1, t00, if_true]
    exact ADD_1 hI HC HM
  simp only [if_neg h2, xB_l, t10, if_false]
  by_cases h3 : c < 0 ∨ 3 < c
  · simp only [if_pos h3, xB_r, M190_1, t00, if_true]
    exact ADD_1 hI HC HM
  simp only [if_neg h3, xB_l, t10, if_false]
  by_cases h4 : opOK d e
  · simp only [K139_y h4, M189_y h4, Option.bind_some, xB_l, t10, if_false]
    exact ADD_go hg hI HC HM (j := 2) (by decide) (LV_n.mpr (by right; right; exact Or.inl ⟨rfl, code_in h1 h2 h3, h4⟩)) (fun hh => absurd hh (by decide)) (fun _ => ⟨rfl, rfl⟩) (fun _ => rfl) (fun hh => absurd hh (by decide))
  · simp only [K139_n h4, M189_n h4, Option.bind_some, xB_r, t00, if_true, M190_1]
    exact ADD_1 hI HC HM
theorem T133 (hg : sh10 kad Z g) (hI : LI n L) (HC : CSr n (g + 1) L I) (HM : MSr n m L J) : ADD [1] g m I J (f133 kad N Z g I) (f198 kad N Z m J) := by
  unfold f133 f198 f198_b15
  simp only [xB_id, bindE, K141]
  obtain ⟨q0, q1⟩ := K142 (N := N) (a := 0) (b := 0) (c := 0) hg hI.1 HC (j := 7) (by decide)
  by_cases h1 : n = 100
  · rw [q0 h1, if_neg (fun hh => hh (by rw [HM.1, h1]; rfl)), M185_1, Option.bind_some, if_neg z00]
    exact ADD_bad hI HC HM (es := [1]) (th := 1) (by decide) (by decide)
  have hn : n < 100 := by have := hI.1; omega
  have h0 : ¬ J m 1 = 100 := fun hh => by
    have := (of_inj (n := 100) (by omega) (by decide)).mp (HM.1.symm.trans hh)
    omega
  rw [if_pos h0, M185_0, Option.bind_some, if_pos z10]
  obtain ⟨I', e1, e2, e3⟩ := q1 hn
  have HM2 : MSr n m L (up2 J m 0 0) := HM.o (up2_ne (by omega)) (up2_b (by omega)) (up2_b (by omega))
  obtain ⟨J', f1, ⟨f2, f3⟩, f4, f5⟩ := M190_ok (kad := kad) (N := N) (Z := Z) (c := 7) (p := 0) (q := 0) (r := 0) (s' := 0) (t := 0) (s := 1) z10 HM2.1 hn
  obtain ⟨g1, g2⟩ := HM2.add (a := 0) (b := 0) (d := 0) (e := 0) (f := 0) hn f2 f3 f4 f5 (by decide) (by decide) (by decide) (by decide)
  have hz : up2 (up2 J m 0 0) m 0 0 = up2 J m 0 0 := up2_self up2_eq
  rw [hz] at g2
  exact ⟨0, Int32.ofNat (n + 1), n + 1, _, by decide, hI.add hn (LV_n.mpr (by right; right; right; right; right; right; right; exact Or.inl rfl)), ⟨_, _, e1, rfl, e2, e3⟩, ⟨_, _, f1, fun _ => rfl, g1, g2⟩⟩
theorem K3 (hn : n < 100) (H : CSr (n + 1) g (lAdd L n 8 a b c 0 0) I) : f3 kad N Z g e f I = some ((), up2 (up2 I (g + (12 + n)) 4 e) (g + (12 + n)) 5 f) ∧ CSr (n + 1) g (lAdd L n 8 a b c e f) (up2 (up2 I (g + (12 + n)) 4 e) (g + (12 + n)) 5 f) := by
  constructor
  · unfold f3 f3_b38
    rw [H.1, if_neg (show ¬ Int32.ofNat (n + 1) ≤ 0 from fun h => by
      have := (of_le (n := 0) (by omega) (by decide)).mp h
      omega), if_neg (show ¬ (100 : Int32) < Int32.ofNat (n + 1) from fun h => by
      have := (of_lt (m := 100) (by decide) (by omega)).mp h
      omega), sub1 rfl, ixA_of hn, Option.bind_some, wI_ok, Option.bind_some, wI_ok, Option.bind_some]
  · refine ⟨by rw [up2_b (by omega), up2_b (by omega)]; exact H.1, fun i hi => ?_⟩
    have := H.2 i hi
    unfold CL at this ⊢
    by_cases ei : i = n
    · rw [ei, lAdd_n, lAdd_n, lAdd_n, lAdd_n, lAdd_n, lAdd_n] at this ⊢
      obtain ⟨⟨t1, t2⟩, ⟨t3, t4⟩, t5, t6⟩ := this
      refine ⟨⟨?_, ?_⟩, ⟨?_, ?_⟩, ?_, ?_⟩
      · rw [up2_ne (by omega), up2_ne (by omega)]; exact t1
      · rw [up2_ne (by omega), up2_ne (by omega)]; exact t2
      · rw [up2_ne (by omega), up2_ne (by omega)]; exact t3
      · rw [up2_ne (by omega), up2_ne (by omega)]; exact t4
      · rw [up2_ne (by omega), up2_eq]; rfl
      · rw [up2_eq]; rfl
    · rw [lAdd_o ei, lAdd_o ei, lAdd_o ei, lAdd_o ei, lAdd_o ei, lAdd_o ei] at this ⊢
      rw [up2_b (by omega), up2_b (by omega)]
      exact this
theorem T134 {i1 i2 i3 i4 i5 : Int32} (hg : sh10 kad Z g) (hI : LI n L) (HC : CSr n (g + 1) L I) (HM : MSr n m L J) : ADD [0, 1] g m I J (f134 kad N Z g i1 i2 i3 i4 i5 I) (f199 kad N Z m i1 i2 i3 i4 i5 J) := by
  unfold f134 f199 f199_b31 f199_b32
  simp only [K138, M186, Option.bind_some, bindE]
  by_cases h1 : i1 < 0 ∨ 4 < i1
  · simp only [if_pos h1, xB_r, M190_1, t00, if_true]
    exact ADD_1 hI HC HM
  simp only [if_neg h1, xB_l, t10, if_false]
  by_cases h2 : ¬ opOK i2 i3
  · simp only [K139_n h2, M189_n h2, Option.bind_some, xB_r, t00, if_true, M190_1]
    exact ADD_1 hI HC HM
  have h2 := Classical.not_not.mp h2
  simp only [K139_y h2, M189_y h2, Option.bind_some, xB_l, t10, if_false]
  by_cases h3 : ¬ opOK i4 i5
  · simp only [K139_n h3, M189_n h3, Option.bind_some, xB_r, t00, if_true, M190_1]
    exact ADD_1 hI HC HM
  have h3 := Classical.not_not.mp h3
  simp only [K139_y h3, M189_y h3, Option.bind_some, xB_l, t10, if_false]
  obtain ⟨q0, q1⟩ := K142 (N := N) (a := i1) (b := i2) (c := i3) hg hI.1 HC (j := 8) (by decide)
  by_cases hh : n = 100
  · rw [q0 hh, Option.bind_some, xB_r, M190_2 z10 (by rw [HM.1, hh]; rfl)]
    exact ADD_bad hI HC HM (es := [0, 1]) (th := 2) (by decide) (by decide)
  have hn : n < 100 := by have := hI.1; omega
  obtain ⟨I', e1, e2, e3⟩ := q1 hn
  obtain ⟨e4, e5⟩ := K3 (kad := kad) (N := N) (Z := Z) (e := i4) (f := i5) hn e2
  obtain ⟨J', f1, ⟨f2, f3⟩, f4, f5⟩ := M190_ok (kad := kad) (N := N) (Z := Z) (c := 8) (p := i2) (q := i3) (r := i4) (s' := i5) (t := i1) (s := 1) z10 HM.1 hn
  obtain ⟨g1, g2⟩ := HM.add (a := i1) (b := i2) (d := i3) (e := i4) (f := i5) hn f2 f3 f4 f5 (fun hh => absurd hh (by decide)) (fun _ => ⟨rfl, rfl⟩) (fun hh => absurd hh (by decide)) (fun _ => ⟨rfl, rfl, rfl⟩)
  refine ⟨0, Int32.ofNat (n + 1), n + 1, _, by decide, hI.add hn (LV_n.mpr (by right; right; right; right; right; right; right; right; exact ⟨rfl, h1, h2, h3⟩)), ⟨_, _, ?_, rfl, e5, fun x hx => ?_⟩, ⟨_, _, f1, fun _ => rfl, g1, g2⟩⟩
  · rw [e1, Option.bind_some, xB_l, e4, Option.bind_some]; rfl
  · rw [up2_b (by omega), up2_b (by omega)]
    exact e3 x hx
end SD
