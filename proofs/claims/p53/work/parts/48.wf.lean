/-! the file calls leave a whole disk whole -/
theorem wd_nat {n : Nat} (h : n ≤ 65535) : wd (Int32.ofNat n) := by
  apply wd_of
  · rw [Int32.toInt_ofNat_of_lt (by omega)]; omega
  · rw [Int32.toInt_ofNat_of_lt (by omega)]; omega
theorem succ_of {s : Int32} (h : wd s) : s + 1 = Int32.ofNat (nT s + 1) := by
  rw [← of_s, of_nT (wd_nn h)]
theorem wd_0 : wd 0 := wd_nat (n := 0) (by decide)
theorem nz_nT {x : Int32} (h : wd x) : x = 0 ↔ nT x = 0 :=
  ⟨fun h => by rw [h]; rfl, fun hh => by rw [← of_nT (wd_nn h), hh]; rfl⟩
theorem wd_inj {x y : Int32} (hx : wd x) (hy : wd y) (h : nT x = nT y) : x = y := nT_inj (wd_nn hx) (wd_nn hy) h
theorem WF.gen {D E : Nat → Int32} {t : Nat} (h : WF D) (w : ∀ k, k < 256 → wd (E k)) (o : ∀ t', t' < 6 → ¬ t' = t → ∀ i, i < 4 → E (40 + 4 * t' + i) = D (40 + 4 * t' + i)) (l : LWe E t) (u : ∀ t' i, t' < 6 → ¬ t' = t → (i = 2 ∨ i = 3) → ¬ D (40 + 4 * t' + i) = 0 → uB E (nT (D (40 + 4 * t' + i))) = true) (ut : ∀ i, (i = 2 ∨ i = 3) → ¬ E (40 + 4 * t + i) = 0 → uB E (nT (E (40 + 4 * t + i))) = true) (it : ∀ i, (i = 2 ∨ i = 3) → ¬ E (40 + 4 * t + i) = 0 → ∀ t' i', t' < 6 → ¬ t' = t → (i' = 2 ∨ i' = 3) → ¬ E (40 + 4 * t + i) = D (40 + 4 * t' + i')) (ii : ¬ E (40 + 4 * t + 2) = 0 → ¬ E (40 + 4 * t + 2) = E (40 + 4 * t + 3)) (wx : WX E) : WF E := by
  obtain ⟨⟨hwd, hl⟩, hm, hi, hx⟩ := h
  refine ⟨⟨w, fun t' ht' => ?_⟩, fun t' i ht' hi' hn => ?_, fun t1 i1 t2 i2 h1 h2 h3 h4 hn he => ?_, wx⟩
  · by_cases e : t' = t
    · rw [e]; exact l
    · exact LWe.cong (o t' ht' e) (hl t' ht')
  · by_cases e : t' = t
    · rw [e] at hn ⊢; exact ut i hi' hn
    · rw [o t' ht' e i (by omega)] at hn ⊢
      exact u t' i ht' e hi' hn
  · by_cases e1 : t1 = t
    · by_cases e2 : t2 = t
      · rw [e1] at hn he
        rw [e2] at he
        refine ⟨e1.trans e2.symm, ?_⟩
        rcases h3 with rfl | rfl <;> rcases h4 with rfl | rfl
        · rfl
        · exact absurd he (ii hn)
        · exact absurd he.symm (ii (by rw [← he]; exact hn))
        · rfl
      · rw [o t2 h2 e2 i2 (by omega), e1] at he
        rw [e1] at hn
        exact absurd he (it i1 h3 hn t2 i2 h2 e2 h4)
    · by_cases e2 : t2 = t
      · rw [o t1 h1 e1 i1 (by omega), e2] at he
        rw [o t1 h1 e1 i1 (by omega)] at hn
        exact absurd he.symm (it i2 h4 (by rw [← he]; exact hn) t1 i1 h1 e1 h3)
      · rw [o t1 h1 e1 i1 (by omega), o t2 h2 e2 i2 (by omega)] at he
        rw [o t1 h1 e1 i1 (by omega)] at hn
        exact hi t1 i1 t2 i2 h1 h2 h3 h4 hn he
theorem wP_wd {D : Nat → Int32} {i : Nat} {v : Int32} (h : ∀ k, k < 256 → wd (D k)) (hv : wd v) : ∀ k, k < 256 → wd (wP D i v k) := fun k hk => by
  unfold wP
  split
  · exact hv
  · exact h k hk
theorem WF.data {D : Nat → Int32} {k : Nat} {v : Int32} (h : WF D) (hk : 64 ≤ k) (hv : wd v) : WF (wP D k v) := by
  have e : ∀ j, j < 64 → wP D k v j = D j := fun j hj => wP_ne (by omega)
  obtain ⟨⟨hwd, hl⟩, hm, hi, hx⟩ := h
  refine ⟨⟨wP_wd hwd hv, fun t ht => LWe.cong (fun i hi => e _ (by omega)) (hl t ht)⟩, fun t i ht hi hn => ?_, fun t i t' i' h1 h2 h3 h4 hn he => ?_, hx.1.same (fun t ht => e _ (by omega)), hx.2.same (fun c hc => uB_P (by omega)) (fun t i ht hi => e _ (by omega))⟩
  · rw [e _ (by omega)] at hn ⊢
    have h5 := (hl t ht).2.2.2.2 i hi hn
    rw [uB_P (by omega)]
    exact hm t i ht hi hn
  · rw [e _ (by omega)] at hn
    rw [e _ (by omega), e _ (by omega)] at he
    exact hi t i t' i' h1 h2 h3 h4 hn he
theorem WF.name {D : Nat → Int32} {t : Nat} {v : Int32} (h : WF D) (ht : t < 6) (hv : wd v) (hv0 : ¬ v = 0) (hu : ∀ t', t' < 6 → ¬ t' = t → ¬ v = D (40 + 4 * t')) : WF (wP D (40 + 4 * t) v) := by
  have h' := h
  obtain ⟨⟨hwd, hl⟩, hm, hi, hx⟩ := h
  have e : ∀ j, ¬ j = 40 + 4 * t → wP D (40 + 4 * t) v j = D j := fun j hj => wP_ne hj
  obtain ⟨a1, a2, a3, a4, a5⟩ := hl t ht
  have eu : ∀ c, c < 32 → uB (wP D (40 + 4 * t) v) c = uB D c := fun c hc => uB_P (by omega)
  refine WF.gen (t := t) h' (wP_wd hwd hv) (fun t' ht' hn i hi => e _ (by omega)) ⟨fun hh => ?_, ?_⟩ (fun t' i ht' hn hi2 h0 => ?_) (fun i hi2 h0 => ?_) (fun i hi2 h0 t' i' ht' hn hi' => ?_) (fun h0 => ?_) ⟨hx.1.put (t := t) (fun t' ht' hn => e _ (by omega)) (fun _ t' ht' hn => by rw [wP_eq]; exact hu t' ht' hn), hx.2.same eu (fun t' i ht' hi2 => e _ (by omega))⟩
  · rw [wP_eq] at hh
    exact absurd hh hv0
  · rw [e _ (by omega), e _ (by omega), e _ (by omega)]
    refine ⟨a2, a3, a4, fun i hi2 => ?_⟩
    rw [e _ (by omega)]
    exact a5 i hi2
  · rw [eu _ ((hl t' ht').2.2.2.2 i hi2 h0).2]
    exact hm t' i ht' hi2 h0
  · rw [e _ (by omega)] at h0 ⊢
    rw [eu _ (a5 i hi2 h0).2]
    exact hm t i ht hi2 h0
  · rw [e _ (by omega)] at h0 ⊢
    exact fun he => hn (hi t i t' i' ht ht' hi2 hi' h0 he).1.symm
  · rw [e _ (by omega)] at h0 ⊢
    rw [e _ (by omega)]
    exact fun he => absurd (hi t 2 t 3 ht ht (Or.inl rfl) (Or.inr rfl) h0 he).2 (by decide)
/-! a word is put at the end -/
def pApp1 (t b : Nat) (w : Int32) (D : Nat → Int32) : Nat → Int32 := wP (wP (wZ (wP (wOn D b) (40 + 4 * t + (2 + nT (D (40 + 4 * t + 1)) / 8)) (Int32.ofNat b)) b 8) (8 * b + nT (D (40 + 4 * t + 1)) % 8) w) (40 + 4 * t + 1) (D (40 + 4 * t + 1) + 1)
def pApp2 (t b : Nat) (w : Int32) (D : Nat → Int32) : Nat → Int32 := wP (wP D (8 * b + nT (D (40 + 4 * t + 1)) % 8) w) (40 + 4 * t + 1) (D (40 + 4 * t + 1) + 1)
theorem WF.app2 {D : Nat → Int32} {t b : Nat} {w : Int32} (h : WF D) (ht : t < 6) (hb8 : 8 ≤ b) (hn : ¬ D (40 + 4 * t) = 0) (h16 : nT (D (40 + 4 * t + 1)) < 16) (h8 : ¬ nT (D (40 + 4 * t + 1)) % 8 = 0) (hw : wd w) : WF (pApp2 t b w D) := by
  unfold pApp2
  have hF := h.data (k := 8 * b + nT (D (40 + 4 * t + 1)) % 8) (by omega) hw
  have e0 : ∀ i, i < 64 → wP D (8 * b + nT (D (40 + 4 * t + 1)) % 8) w i = D i := fun i hi => wP_ne (by omega)
  have hs := h.1.1 (40 + 4 * t + 1) (by omega)
  have f0 := e0 (40 + 4 * t) (by omega)
  have f1 := e0 (40 + 4 * t + 1) (by omega)
  generalize wP D (8 * b + nT (D (40 + 4 * t + 1)) % 8) w = F at hF f0 f1
  rw [← f0] at hn
  rw [← f1] at hs h16 h8 ⊢
  rw [succ_of hs]
  have h' := hF
  obtain ⟨⟨hwd, hl⟩, hm, hi, hx⟩ := hF
  generalize hsn : nT (F (40 + 4 * t + 1)) = n at h16 h8
  have e : ∀ j, ¬ j = 40 + 4 * t + 1 → wP F (40 + 4 * t + 1) (Int32.ofNat (n + 1)) j = F j := fun j hj => wP_ne hj
  obtain ⟨a1, a2, a3, a4, a5⟩ := hl t ht
  rw [hsn] at a3 a4
  have eu : ∀ c, c < 32 → uB (wP F (40 + 4 * t + 1) (Int32.ofNat (n + 1))) c = uB F c := fun c hc => uB_P (by omega)
  refine WF.gen (t := t) h' (wP_wd hwd (wd_nat (by omega))) (fun t' ht' hn i hi => e _ (by omega)) ⟨fun hh => ?_, ?_⟩ (fun t' i ht' hn hi2 h0 => ?_) (fun i hi2 h0 => ?_) (fun i hi2 h0 t' i' ht' hn hi' => ?_) (fun h0 => ?_) ⟨hx.1.same (fun t' ht' => e _ (by omega)), hx.2.same eu (fun t' i ht' hi2 => e _ (by omega))⟩
  · rw [e _ (by omega)] at hh
    exact absurd hh hn
  · rw [wP_eq, nT_of (by omega), e (40 + 4 * t + 2) (by omega), e (40 + 4 * t + 3) (by omega)]
    refine ⟨by omega, ?_, ?_, fun i hi2 => ?_⟩
    · rw [a3]; omega
    · rw [a4]; omega
    · rw [e _ (by omega)]
      exact a5 i hi2
  · rw [eu _ ((hl t' ht').2.2.2.2 i hi2 h0).2]
    exact hm t' i ht' hi2 h0
  · rw [e _ (by omega)] at h0 ⊢
    rw [eu _ (a5 i hi2 h0).2]
    exact hm t i ht hi2 h0
  · rw [e _ (by omega)] at h0 ⊢
    exact fun he => hn (hi t i t' i' ht ht' hi2 hi' h0 he).1.symm
  · rw [e _ (by omega)] at h0 ⊢
    rw [e _ (by omega)]
    exact fun he => absurd (hi t 2 t 3 ht ht (Or.inl rfl) (Or.inr rfl) h0 he).2 (by decide)
theorem WF.app1 {D : Nat → Int32} {t b : Nat} {w : Int32} (h : WF D) (ht : t < 6) (hb8 : 8 ≤ b) (hb : b < 32) (hu : uB D b = false) (hn : ¬ D (40 + 4 * t) = 0) (h16 : nT (D (40 + 4 * t + 1)) < 16) (h8 : nT (D (40 + 4 * t + 1)) % 8 = 0) (hw : wd w) : WF (pApp1 t b w D) := by
  unfold pApp1
  have h' := h
  obtain ⟨⟨hwd, hl⟩, hm, hi, hx⟩ := h
  rw [succ_of (hwd (40 + 4 * t + 1) (by omega))]
  generalize hsn : nT (D (40 + 4 * t + 1)) = n at h16 h8
  obtain ⟨a1, a2, a3, a4, a5⟩ := hl t ht
  rw [hsn] at a3 a4
  have f0 : ∀ k, wP (wP (wZ (wP (wOn D b) (40 + 4 * t + (2 + n / 8)) (Int32.ofNat b)) b 8) (8 * b + n % 8) w) (40 + 4 * t + 1) (Int32.ofNat (n + 1)) k = (if k = 40 + 4 * t + 1 then Int32.ofNat (n + 1) else if k = 8 * b + n % 8 then w else if 8 * b ≤ k ∧ k < 8 * b + 8 then 0 else if k = 40 + 4 * t + (2 + n / 8) then Int32.ofNat b else wOn D b k) := fun k => rfl
  generalize wP (wP (wZ (wP (wOn D b) (40 + 4 * t + (2 + n / 8)) (Int32.ofNat b)) b 8) (8 * b + n % 8) w) (40 + 4 * t + 1) (Int32.ofNat (n + 1)) = E at f0
  have fo : ∀ k, 34 ≤ k → k < 64 → ¬ k = 40 + 4 * t + 1 → ¬ k = 40 + 4 * t + (2 + n / 8) → E k = D k := fun k h1 h2 h3 h4 => by
    rw [f0, if_neg h3, if_neg (by omega), if_neg (by omega), if_neg h4]
    exact wP_ne (by omega)
  have f1 : E (40 + 4 * t + 1) = Int32.ofNat (n + 1) := by rw [f0, if_pos rfl]
  have fb : E (40 + 4 * t + (2 + n / 8)) = Int32.ofNat b := by
    rw [f0, if_neg (by omega), if_neg (by omega), if_neg (by omega), if_pos rfl]
  have fu : ∀ c, c < 32 → uB E c = (uB D c || decide (c = b)) := fun c hc => by
    rw [← uB_on hb hc]
    unfold uB
    rw [f0, if_neg (by omega), if_neg (by omega), if_neg (by omega), if_neg (by omega)]
  have fw : ∀ k, k < 256 → wd (E k) := fun k hk => by
    rw [f0]
    split
    · exact wd_nat (by omega)
    split
    · exact hw
    split
    · exact wd_0
    split
    · exact wd_nat (by omega)
    · unfold wOn wP
      split
      · exact wd_or (hwd _ (by omega)) hb
      · exact hwd k hk
  have eb : nT (Int32.ofNat b) = b := nT_of (by omega)
  have hb0 : ¬ Int32.ofNat b = 0 := fun hh => by
    have := (of_inj (n := 0) (by omega) (by decide)).mp hh
    omega
  have fi : ∀ i, (i = 2 ∨ i = 3) → ¬ i = 2 + n / 8 → E (40 + 4 * t + i) = D (40 + 4 * t + i) := fun i h1 h2 => fo _ (by omega) (by omega) (by omega) (by omega)
  refine WF.gen (t := t) h' fw (fun t' ht' hn i hi => fo _ (by omega) (by omega) (by omega) (by omega)) ⟨fun hh => ?_, ?_⟩ (fun t' i ht' hn hi2 h0 => ?_) (fun i hi2 h0 => ?_) (fun i hi2 h0 t' i' ht' hn hi' => ?_) (fun h0 => ?_) ⟨hx.1.same (fun t' ht' => fo _ (by omega) (by omega) (by omega) (by omega)), fun c hc => ?_⟩
  · rw [fo _ (by omega) (by omega) (by omega) (by omega)] at hh
    exact absurd hh hn
  · rw [f1, nT_of (by omega)]
    refine ⟨by omega, ?_, ?_, fun i hi2 h0 => ?_⟩
    · by_cases h9 : n = 0
      · subst h9
        constructor
        · intro hh; exact absurd (fb.symm.trans hh) hb0
        · intro hh; omega
      · rw [fi 2 (Or.inl rfl) (by omega), a3]
        omega
    · by_cases h9 : n = 0
      · rw [fi 3 (Or.inr rfl) (by omega), a4]
        omega
      · have e8 : n = 8 := by omega
        subst e8
        constructor
        · intro hh; exact absurd (fb.symm.trans hh) hb0
        · intro hh; omega
    · by_cases h9 : i = 2 + n / 8
      · rw [h9, fb, eb]
        exact ⟨hb8, hb⟩
      · rw [fi i hi2 h9] at h0 ⊢
        exact a5 i hi2 h0
  · rw [fu _ ((hl t' ht').2.2.2.2 i hi2 h0).2, hm t' i ht' hi2 h0, Bool.true_or]
  · by_cases h9 : i = 2 + n / 8
    · rw [h9, fb, eb, fu b hb, show decide (b = b) = true from decide_eq_true rfl, Bool.or_true]
    · rw [fi i hi2 h9] at h0 ⊢
      rw [fu _ (a5 i hi2 h0).2, hm t i ht hi2 h0, Bool.true_or]
  · by_cases h9 : i = 2 + n / 8
    · rw [h9, fb]
      intro he
      have := hm t' i' ht' hi' (fun h0 => hb0 (he.trans h0))
      rw [← he, eb, hu] at this
      exact absurd this (by decide)
    · rw [fi i hi2 h9] at h0 ⊢
      exact fun he => hn (hi t i t' i' ht ht' hi2 hi' h0 he).1.symm
  · by_cases h9 : n = 0
    · rw [fi 3 (Or.inr rfl) (by omega), a4.mpr (by omega)]
      exact h0
    · have e8 : n = 8 := by omega
      subst e8
      intro he
      have e3 : E (40 + 4 * t + 3) = Int32.ofNat b := fb
      have h0' := h0
      rw [e3, fi 2 (Or.inl rfl) (by decide)] at he
      rw [fi 2 (Or.inl rfl) (by decide)] at h0'
      have := hm t 2 ht (Or.inl rfl) h0'
      rw [he, eb, hu] at this
      exact absurd this (by decide)
  · have fd : D (40 + 4 * t + (2 + n / 8)) = 0 := by
      by_cases h9 : n = 0
      · rw [h9]
        exact a3.mpr h9
      · have e8 : n = 8 := by omega
        rw [e8]
        exact a4.mpr (by omega)
    have fe : ∀ t' i, t' < 6 → (i = 2 ∨ i = 3) → ¬ (t' = t ∧ i = 2 + n / 8) → E (40 + 4 * t' + i) = D (40 + 4 * t' + i) := fun t' i h1 h2 h3 => fo _ (by omega) (by omega) (by omega) (by omega)
    rw [fu c hc, Bool.or_eq_true, decide_eq_true_eq, hx.2 c hc]
    constructor
    · rintro ((h1 | ⟨t', i, h1, h2, h3, h4⟩) | h1)
      · exact Or.inl h1
      · have hne : ¬ (t' = t ∧ i = 2 + n / 8) := fun hh => h3 (by rw [hh.1, hh.2]; exact fd)
        exact Or.inr ⟨t', i, h1, h2, by rw [fe t' i h1 h2 hne]; exact h3, by rw [fe t' i h1 h2 hne]; exact h4⟩
      · exact Or.inr ⟨t, 2 + n / 8, ht, by omega, by rw [fb]; exact hb0, by rw [fb, eb]; exact h1.symm⟩
    · rintro (h1 | ⟨t', i, h1, h2, h3, h4⟩)
      · exact Or.inl (Or.inl h1)
      · by_cases hne : t' = t ∧ i = 2 + n / 8
        · rw [hne.1, hne.2, fb, eb] at h4
          exact Or.inr h4.symm
        · rw [fe t' i h1 h2 hne] at h3 h4
          exact Or.inl (Or.inr ⟨t', i, h1, h2, h3, h4⟩)
/-! a file is removed -/
def pOff (x : Int32) (W : Nat → Int32) : Nat → Int32 := if x = 0 then W else wOff W (nT x)
def pRm (t : Nat) (D : Nat → Int32) : Nat → Int32 := wP (wP (wP (wP (pOff (D (40 + 4 * t + 3)) (pOff (D (40 + 4 * t + 2)) D)) (40 + 4 * t) 0) (40 + 4 * t + 1) 0) (40 + 4 * t + 2) 0) (40 + 4 * t + 3) 0
def pRmS (t : Nat) (D : Nat → Int32) : Nat → Bool := sA (if D (40 + 4 * t + 3) = 0 then (if D (40 + 4 * t + 2) = 0 then sN else sA sN 4) else sA (if D (40 + 4 * t + 2) = 0 then sN else sA sN 4) 4) (5 + t / 2)
theorem pOff_hi {x : Int32} {W : Nat → Int32} {k : Nat} (h : 34 ≤ k) (hx : nT x < 32) : pOff x W k = W k := by
  unfold pOff
  split
  · rfl
  · exact wP_ne (by omega)
theorem pOff_wd {x : Int32} {W : Nat → Int32} (h : ∀ k, k < 256 → wd (W k)) : ∀ k, k < 256 → wd (pOff x W k) := fun k hk => by
  unfold pOff
  split
  · exact h k hk
  · unfold wOff wP
    split
    · rename_i he
      exact wd_an (h _ (by omega))
    · exact h k hk
theorem uB_pOff {x : Int32} {W : Nat → Int32} {c : Nat} (hx : nT x < 32) (hc : c < 32) (h : ¬ x = 0 → ¬ c = nT x) : uB (pOff x W) c = uB W c := by
  unfold pOff
  split
  · rfl
  · rename_i h0
    rw [uB_off hx hc, show decide (c = nT x) = false from decide_eq_false (h h0), Bool.not_false, Bool.and_true]
theorem uB_pOff_t {x : Int32} {W : Nat → Int32} {c : Nat} (hx : nT x < 32) (hc : c < 32) (h : uB (pOff x W) c = true) : uB W c = true ∧ (¬ x = 0 → ¬ c = nT x) := by
  unfold pOff at h
  split at h
  · rename_i h0
    exact ⟨h, fun hh => absurd h0 hh⟩
  · rw [uB_off hx hc, Bool.and_eq_true, Bool.not_eq_true', decide_eq_false_iff_not] at h
    exact ⟨h.1, fun _ => h.2⟩
theorem LWe.b32 {D : Nat → Int32} {t i : Nat} (h : LWe D t) (hi : i = 2 ∨ i = 3) : nT (D (40 + 4 * t + i)) < 32 := by
  by_cases h0 : D (40 + 4 * t + i) = 0
  · rw [h0]; decide
  · exact (h.2.2.2.2 i hi h0).2
theorem WF.rm {D : Nat → Int32} {t : Nat} (h : WF D) (ht : t < 6) : WF (pRm t D) := by
  unfold pRm
  have h' := h
  obtain ⟨⟨hwd, hl⟩, hm, hi, hx⟩ := h
  have h2 := (hl t ht).b32 (i := 2) (Or.inl rfl)
  have h3 := (hl t ht).b32 (i := 3) (Or.inr rfl)
  have f0 : ∀ k, wP (wP (wP (wP (pOff (D (40 + 4 * t + 3)) (pOff (D (40 + 4 * t + 2)) D)) (40 + 4 * t) 0) (40 + 4 * t + 1) 0) (40 + 4 * t + 2) 0) (40 + 4 * t + 3) 0 k = (if k = 40 + 4 * t + 3 then 0 else if k = 40 + 4 * t + 2 then 0 else if k = 40 + 4 * t + 1 then 0 else if k = 40 + 4 * t then 0 else pOff (D (40 + 4 * t + 3)) (pOff (D (40 + 4 * t + 2)) D) k) := fun k => rfl
  generalize wP (wP (wP (wP (pOff (D (40 + 4 * t + 3)) (pOff (D (40 + 4 * t + 2)) D)) (40 + 4 * t) 0) (40 + 4 * t + 1) 0) (40 + 4 * t + 2) 0) (40 + 4 * t + 3) 0 = E at f0
  have fz : ∀ i, i < 4 → E (40 + 4 * t + i) = 0 := fun i hi => by
    rw [f0]
    rcases (show i = 0 ∨ i = 1 ∨ i = 2 ∨ i = 3 by omega) with rfl | rfl | rfl | rfl
    · rw [if_neg (by omega), if_neg (by omega), if_neg (by omega), if_pos (by omega)]
    · rw [if_neg (by omega), if_neg (by omega), if_pos rfl]
    · rw [if_neg (by omega), if_pos rfl]
    · rw [if_pos rfl]
  have fo : ∀ k, (k < 40 + 4 * t ∨ 40 + 4 * t + 4 ≤ k) → E k = pOff (D (40 + 4 * t + 3)) (pOff (D (40 + 4 * t + 2)) D) k := fun k hk => by
    rw [f0, if_neg (by omega), if_neg (by omega), if_neg (by omega), if_neg (by omega)]
  have fw : ∀ k, k < 256 → wd (E k) := fun k hk => by
    rw [f0]
    split
    · exact wd_0
    split
    · exact wd_0
    split
    · exact wd_0
    split
    · exact wd_0
    · exact pOff_wd (pOff_wd hwd) k hk
  have nn : ∀ i, i < 4 → ¬ ¬ E (40 + 4 * t + i) = 0 := fun i hi hh => hh (fz i hi)
  refine WF.gen (t := t) h' fw (fun t' ht' hn i hi => ?_) ⟨fun hh => ?_, ?_⟩ (fun t' i ht' hn hi2 h0 => ?_) (fun i hi2 h0 => absurd h0 (nn i (by omega))) (fun i hi2 h0 t' i' ht' hn hi' => absurd h0 (nn i (by omega))) (fun h0 => absurd h0 (nn 2 (by decide))) ⟨hx.1.put (t := t) (fun t' ht' hn => ?_) (fun h0 => absurd (fz 0 (by decide)) h0), fun c hc => ?_⟩
  · rw [fo _ (by omega), pOff_hi (by omega) h3, pOff_hi (by omega) h2]
  · exact ⟨fz 1 (by decide), fz 2 (by decide), fz 3 (by decide)⟩
  · rw [fz 1 (by decide), fz 2 (by decide), fz 3 (by decide)]
    refine ⟨by decide, by decide, by decide, fun i hi2 h0 => absurd h0 (nn i (by omega))⟩
  · have hc := ((hl t' ht').2.2.2.2 i hi2 h0)
    have e : uB E (nT (D (40 + 4 * t' + i))) = uB (pOff (D (40 + 4 * t + 3)) (pOff (D (40 + 4 * t + 2)) D)) (nT (D (40 + 4 * t' + i))) := by
      unfold uB
      rw [fo _ (by omega)]
    have ne : ∀ j, (j = 2 ∨ j = 3) → ¬ nT (D (40 + 4 * t' + i)) = nT (D (40 + 4 * t + j)) := fun j hj hh => hn (hi t' i t j ht' ht hi2 hj h0 (wd_inj (hwd _ (by omega)) (hwd _ (by omega)) hh)).1
    rw [e, uB_pOff h3 hc.2 (fun _ => ne 3 (Or.inr rfl)), uB_pOff h2 hc.2 (fun _ => ne 2 (Or.inl rfl))]
    exact hm t' i ht' hi2 h0
  · rw [fo _ (by omega), pOff_hi (by omega) h3, pOff_hi (by omega) h2]
  · have eu : uB E c = uB (pOff (D (40 + 4 * t + 3)) (pOff (D (40 + 4 * t + 2)) D)) c := by
      unfold uB
      rw [fo _ (by omega)]
    have fe : ∀ t' i, t' < 6 → (i = 2 ∨ i = 3) → ¬ t' = t → E (40 + 4 * t' + i) = D (40 + 4 * t' + i) := fun t' i h1' h2' h3' => by
      rw [fo _ (by omega), pOff_hi (by omega) h3, pOff_hi (by omega) h2]
    rw [eu]
    constructor
    · intro hu
      obtain ⟨u1, u2⟩ := uB_pOff_t h3 hc hu
      obtain ⟨u3, u4⟩ := uB_pOff_t h2 hc u1
      rcases (hx.2 c hc).mp u3 with h5 | ⟨t', i, h5, h6, h7, h8⟩
      · exact Or.inl h5
      · by_cases e : t' = t
        · rw [e] at h7 h8
          rcases h6 with rfl | rfl
          · exact absurd h8.symm (u4 h7)
          · exact absurd h8.symm (u2 h7)
        · exact Or.inr ⟨t', i, h5, h6, by rw [fe t' i h5 h6 e]; exact h7, by rw [fe t' i h5 h6 e]; exact h8⟩
    · intro hu
      have hD : uB D c = true := (hx.2 c hc).mpr (by
        rcases hu with h5 | ⟨t', i, h5, h6, h7, h8⟩
        · exact Or.inl h5
        · have e : ¬ t' = t := fun e => h7 (by rw [e]; exact fz i (by omega))
          rw [fe t' i h5 h6 e] at h7 h8
          exact Or.inr ⟨t', i, h5, h6, h7, h8⟩)
      have ne : ∀ j, (j = 2 ∨ j = 3) → ¬ D (40 + 4 * t + j) = 0 → ¬ c = nT (D (40 + 4 * t + j)) := fun j hj h0 hh => by
        have h8' := ((hl t ht).2.2.2.2 j hj h0).1
        rcases hu with h5 | ⟨t', i, h5, h6, h7, h8⟩
        · omega
        · have e : ¬ t' = t := fun e => h7 (by rw [e]; exact fz i (by omega))
          rw [fe t' i h5 h6 e] at h7 h8
          exact e (hi t' i t j h5 ht h6 hj h7 (wd_inj (hwd _ (by omega)) (hwd _ (by omega)) (h8.trans hh))).1
      rw [uB_pOff h3 hc (ne 3 (Or.inr rfl)), uB_pOff h2 hc (ne 2 (Or.inl rfl))]
      exact hD
theorem pRm_o {D : Nat → Int32} {t k : Nat} (hl : LWe D t) (h : 34 ≤ k) (hk : k < 40 + 4 * t ∨ 40 + 4 * t + 4 ≤ k) : pRm t D k = D k := by
  unfold pRm
  rw [wP_ne (by omega), wP_ne (by omega), wP_ne (by omega), wP_ne (by omega), pOff_hi h (hl.b32 (Or.inr rfl)), pOff_hi h (hl.b32 (Or.inl rfl))]
