/-! the log: what a disk is while a call goes on -/
def kB (D : Nat → Int32) (b : Nat) (g : Nat → Int32) : Nat → Int32 := fun k => if 8 * b ≤ k ∧ k < 8 * b + 8 then g (k - 8 * b) else D k
def apD (D : Nat → Int32) (bs : Nat → Nat) (f : Nat → Int32) : Nat → (Nat → Int32)
  | 0 => D
  | n + 1 => kB (apD D bs f n) (bs n) (fun p => f (8 * n + p))
def bsX (X : AI) : Nat → Nat := fun i => nT (X 4 i)
theorem sWBl_w {b : Nat} {g : Nat → Int32} {X : AI} : sWBl b g X 9 = kB (X 9) b g := by
  funext k
  rw [sWBl_9]
  rfl
theorem kB_in {D : Nat → Int32} {b p : Nat} {g : Nat → Int32} (hp : p < 8) : kB D b g (8 * b + p) = g p := by
  unfold kB
  rw [if_pos (by omega)]
  congr 1
  omega
theorem kB_out {D : Nat → Int32} {b k : Nat} {g : Nat → Int32} (h : ¬ (8 * b ≤ k ∧ k < 8 * b + 8)) : kB D b g k = D k := by
  unfold kB
  rw [if_neg h]
theorem apD_o {D : Nat → Int32} {bs : Nat → Nat} {f : Nat → Int32} {k : Nat} : ∀ n, (∀ i, i < n → ¬ (8 * bs i ≤ k ∧ k < 8 * bs i + 8)) → apD D bs f n k = D k := by
  intro n
  induction n with
  | zero => intro _; rfl
  | succ n ih =>
    intro h
    unfold apD
    rw [kB_out (h n (by omega))]
    exact ih (fun i hi => h i (by omega))
theorem apD_at {D : Nat → Int32} {bs : Nat → Nat} {f : Nat → Int32} {p : Nat} (hp : p < 8) : ∀ n i, (∀ j k, j < k → k < n → bs j < bs k) → i < n → apD D bs f n (8 * bs i + p) = f (8 * i + p) := by
  intro n
  induction n with
  | zero => intro i _ hi; omega
  | succ n ih =>
    intro i h hi
    unfold apD
    by_cases e : i = n
    · subst e
      rw [kB_in hp]
    · have := h i n (by omega) (by omega)
      rw [kB_out (by omega)]
      exact ih i (fun j k hj hk => h j k hj (by omega)) (by omega)
/-- a place is in a block that is written, or in none -/
theorem blk_or (bs : Nat → Nat) (k : Nat) : ∀ n, (∃ i, i < n ∧ 8 * bs i ≤ k ∧ k < 8 * bs i + 8) ∨ (∀ i, i < n → ¬ (8 * bs i ≤ k ∧ k < 8 * bs i + 8)) := by
  intro n
  by_cases h : ∃ i, i < n ∧ 8 * bs i ≤ k ∧ k < 8 * bs i + 8
  · exact Or.inl h
  · exact Or.inr (fun i hi hh => h ⟨i, hi, hh⟩)
theorem apD_cong {D E : Nat → Int32} {bs : Nat → Nat} {f : Nat → Int32} {n : Nat} (hr : ∀ j k, j < k → k < n → bs j < bs k) {k : Nat} (h : (∀ i, i < n → ¬ (8 * bs i ≤ k ∧ k < 8 * bs i + 8)) → E k = D k) : apD E bs f n k = apD D bs f n k := by
  rcases blk_or bs k n with ⟨i, hi, h1, h2⟩ | h1
  · have e : k = 8 * bs i + (k - 8 * bs i) := by omega
    rw [e, apD_at (by omega) n i hr hi, apD_at (by omega) n i hr hi]
  · rw [apD_o n h1, apD_o n h1]
    exact h h1
theorem WF.log {D E : Nat → Int32} (h : WF D) (he : ∀ k, 32 ≤ k → k < 256 → E k = D k) (hw : ∀ k, k < 32 → wd (E k)) : WF E := by
  obtain ⟨⟨hwd, hl⟩, hm, hi, hx⟩ := h
  have e : ∀ t i, t < 6 → i < 4 → E (40 + 4 * t + i) = D (40 + 4 * t + i) := fun t i ht hi => he _ (by omega) (by omega)
  refine ⟨⟨fun k hk => ?_, fun t ht => LWe.cong (fun i hi => e t i ht hi) (hl t ht)⟩, fun t i ht hi2 hn => ?_, fun t i t' i' h1 h2 h3 h4 hn hh => ?_, hx.1.same (fun t ht => e t 0 ht (by decide)), hx.2.same (fun c hc => by unfold uB; rw [he _ (by omega) (by omega)]) (fun t i ht hi2 => e t i ht (by omega))⟩
  · by_cases h32 : k < 32
    · exact hw k h32
    · rw [he k (by omega) hk]; exact hwd k hk
  · rw [e t i ht (by omega)] at hn ⊢
    have hc := (hl t ht).2.2.2.2 i hi2 hn
    rw [show uB E (nT (D (40 + 4 * t + i))) = uB D (nT (D (40 + 4 * t + i))) from by unfold uB; rw [he _ (by omega) (by omega)]]
    exact hm t i ht hi2 hn
  · rw [e t i h1 (by omega)] at hn
    rw [e t i h1 (by omega), e t' i' h2 (by omega)] at hh
    exact hi t i t' i' h1 h2 h3 h4 hn hh
/-- nothing goes on; the disk is whole -/
def FI (X : AI) : Prop := (X 3 0 = 0 ∧ X 3 1 = 0) ∧ X 9 0 = 0 ∧ WF (X 9)
/-- a call goes on -/
def FW (n d : Nat) (X : AI) : Prop := (isW n d X ∧ nT (X 1 3) ≤ 254) ∧ ((∀ j k, j < k → k < n → bsX X j < bsX X k) ∧ (∀ k, k < n → 4 ≤ bsX X k)) ∧ WF (apD (X 9) (bsX X) (X 5) n) ∧ (∀ i p, i < n → i < d → p < 8 → X 9 (8 * (1 + i) + p) = X 5 (8 * i + p)) ∧ (d ≤ n → X 9 0 = 0 ∧ WF (X 9)) ∧ (n < d → LW (X 9) ∧ (∀ k, k < 8 → X 9 k = sHd n (X 4) (X 5) k) ∧ (∀ i p, i + n + 1 < d → p < 8 → X 9 (8 * bsX X i + p) = X 5 (8 * i + p)))
theorem sHd_wd {n : Nat} {p q : Nat → Int32} (hn : n ≤ 3) (hp : ∀ k, k < n → wd (p k)) (k : Nat) : wd (sHd n p q k) := by
  unfold sHd
  split
  · apply wd_bits
    intro j h1 h2
    rw [dB_and]
    have e : ∀ k : Fin 32, 16 ≤ k.1 → dB 65535 k.1 = false := by decide +kernel
    rw [e ⟨j, h2⟩ h1, Bool.and_false]
  · split
    · exact wd_nat (by omega)
    · split
      · exact hp _ (by omega)
      · exact wd_0
/-- the write of a block, as far as the log is concerned -/
theorem FW.next {n d : Nat} {X X' : AI} (h : FW n d X) (hd : ¬ d = 2 * n + 1) (h3 : X' 3 0 = Int32.ofNat n ∧ X' 3 1 = Int32.ofNat (d + 1)) (h4 : X' 4 = X 4) (h5 : X' 5 = X 5) (h13 : X' 1 3 = X 1 3) (h9 : X' 9 = if d < n then kB (X 9) (1 + d) (fun k => X 5 (8 * d + k)) else if d = n then kB (X 9) 0 (sHd n (X 4) (X 5)) else kB (X 9) (bsX X (d - n - 1)) (fun k => X 5 (8 * (d - n - 1) + k))) : FW n (d + 1) X' := by
  obtain ⟨⟨⟨⟨w1, w2, w3⟩, ⟨w4, w5⟩, w6, w7⟩, w8⟩, ⟨r1, r2⟩, a1, a2, a3, a4⟩ := h
  have eb : bsX X' = bsX X := by unfold bsX; rw [h4]
  have b32 : ∀ k, k < n → bsX X k < 32 := fun k hk => (w6 k hk).2
  have w4d : ∀ k, k < n → wd (X 4 k) := fun k hk => by rw [(w6 k hk).1]; exact wd_nat (by have := (w6 k hk).2; omega)
  have isw : isW n (d + 1) X' := by
    refine ⟨⟨w1, w2, by omega⟩, h3, ?_, ?_⟩
    · rw [h4]; exact w6
    · rw [h5]; exact w7
  unfold FW
  rw [eb, h4, h5, h13]
  by_cases c1 : d < n
  · rw [if_pos c1] at h9
    obtain ⟨z, wf⟩ := a3 (by omega)
    have hi : ∀ k, 32 ≤ k → X' 9 k = X 9 k := fun k hk => by rw [h9]; exact kB_out (by omega)
    have hw : ∀ k, k < 32 → wd (X' 9 k) := fun k hk => by
      rw [h9]
      unfold kB
      split
      · exact w7 _ (by omega)
      · exact wf.1.1 k (by omega)
    refine ⟨⟨isw, w8⟩, ⟨r1, r2⟩, a1.log (fun k k1 k2 => apD_cong r1 (fun _ => hi k k1)) (fun k hk => ?_), fun i p i1 i2 ip => ?_, fun _ => ⟨?_, wf.log (fun k k1 k2 => hi k k1) hw⟩, fun hh => absurd hh (by omega)⟩
    · rw [apD_o n (fun i hi' => by have := r2 i hi'; omega)]
      exact hw k hk
    · rw [h9]
      by_cases e : i = d
      · subst e
        rw [kB_in ip]
      · rw [kB_out (by omega)]
        exact a2 i p i1 (by omega) ip
    · rw [h9, kB_out (by omega)]
      exact z
  rw [if_neg c1] at h9
  by_cases c2 : d = n
  · rw [if_pos c2] at h9
    obtain ⟨z, wf⟩ := a3 (by omega)
    have hi : ∀ k, 8 ≤ k → X' 9 k = X 9 k := fun k hk => by rw [h9]; exact kB_out (by omega)
    have hw : ∀ k, k < 32 → wd (X' 9 k) := fun k hk => by
      rw [h9]
      unfold kB
      split
      · exact sHd_wd w2 w4d _
      · exact wf.1.1 k (by omega)
    refine ⟨⟨isw, w8⟩, ⟨r1, r2⟩, a1.log (fun k k1 k2 => apD_cong r1 (fun _ => hi k (by omega))) (fun k hk => ?_), fun i p i1 i2 ip => ?_, fun hh => absurd hh (by omega), fun _ => ⟨(wf.log (fun k k1 k2 => hi k (by omega)) hw).1, fun k hk => ?_, fun i p hip => absurd hip (by omega)⟩⟩
    · rw [apD_o n (fun i hi' => by have := r2 i hi'; omega)]
      exact hw k hk
    · rw [hi _ (by omega)]
      exact a2 i p i1 (by omega) ip
    · rw [h9]
      have := kB_in (D := X 9) (b := 0) (g := sHd n (X 4) (X 5)) hk
      rwa [show 8 * 0 + k = k from by omega] at this
  rw [if_neg c2] at h9
  obtain ⟨l1, l2, l3⟩ := a4 (by omega)
  have hj : d - n - 1 < n := by omega
  have jb := r2 _ hj
  have jb2 := b32 _ hj
  have hi : ∀ k, k < 32 → X' 9 k = X 9 k := fun k hk => by rw [h9]; exact kB_out (by omega)
  have ap : ∀ k, apD (X' 9) (bsX X) (X 5) n k = apD (X 9) (bsX X) (X 5) n k := fun k => apD_cong r1 (fun hh => by rw [h9]; exact kB_out (hh _ hj))
  refine ⟨⟨isw, w8⟩, ⟨r1, r2⟩, a1.log (fun k _ _ => ap k) (fun k hk => by rw [ap k]; exact a1.1.1 k (by omega)), fun i p i1 i2 ip => ?_, fun hh => absurd hh (by omega), fun _ => ⟨⟨fun k hk => ?_, fun t ht => ?_⟩, fun k hk => ?_, fun i p hip hp => ?_⟩⟩
  · rw [hi _ (by omega)]
    exact a2 i p i1 (by omega) ip
  · rw [h9]
    unfold kB
    split
    · exact w7 _ (by omega)
    · exact l1.1 k hk
  · by_cases hb : bsX X (d - n - 1) = 5 + t / 2
    · refine LWe.cong (fun i hi4 => ?_) (a1.1.2 t ht)
      have e : 40 + 4 * t + i = 8 * bsX X (d - n - 1) + (4 * (t % 2) + i) := by omega
      rw [e, h9, kB_in (by omega), apD_at (by omega) n _ r1 hj]
    · refine LWe.cong (fun i hi4 => ?_) (l1.2 t ht)
      rw [h9]
      exact kB_out (by omega)
  · rw [hi k (by omega)]
    exact l2 k hk
  · rw [h9]
    by_cases e : i = d - n - 1
    · subst e
      rw [kB_in hp]
    · have := r1 i (d - n - 1) (by omega) hj
      rw [kB_out (by omega)]
      exact l3 i p (by omega) hp
theorem FW.last {n : Nat} {X X' : AI} (h : FW n (2 * n + 1) X) (h3 : X' 3 0 = 0 ∧ X' 3 1 = 0) (h9 : X' 9 = kB (X 9) 0 (fun _ => 0)) : FI X' := by
  obtain ⟨⟨⟨⟨w1, w2, w3⟩, -, w6, w7⟩, w8⟩, ⟨r1, r2⟩, a1, a2, a3, a4⟩ := h
  obtain ⟨l1, l2, l3⟩ := a4 (by omega)
  refine ⟨h3, ?_, a1.log (fun k k1 k2 => ?_) (fun k hk => ?_)⟩
  · rw [h9]
    exact kB_in (D := X 9) (b := 0) (p := 0) (by decide)
  · rw [h9, kB_out (by omega)]
    rcases blk_or (bsX X) k n with ⟨i, hi, h1, h2⟩ | h1
    · have e : k = 8 * bsX X i + (k - 8 * bsX X i) := by omega
      rw [e, apD_at (by omega) n i r1 hi]
      exact l3 i _ (by omega) (by omega)
    · rw [apD_o n h1]
  · rw [h9]
    unfold kB
    split
    · exact wd_0
    · exact l1.1 k (by omega)
