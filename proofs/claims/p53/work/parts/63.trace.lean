/-! the steps of a machine from its start on; keys that are told later -/
section TR
variable {K K' X B : AI} {q p : Nat} {t s : Int32}
theorem sCome_cong {X Y : AI} (h0 : Y 10 0 = X 10 0) (h : ∀ i, Y 12 i = X 12 i) : ∀ (n i : Nat), sCome Y t n i = sCome X t n i := by
  intro n
  induction n with
  | zero => intro i; rfl
  | succ n ih =>
    intro i
    unfold sCome
    rw [ih, h0, h i]
theorem sTold_cong {X Y : AI} (h0 : Y 10 0 = X 10 0) (h : ∀ i, Y 12 i = X 12 i) : ∀ (n i : Nat), sTold Y t n i = sTold X t n i := by
  intro n
  induction n with
  | zero => intro i; rfl
  | succ n ih =>
    intro i
    unfold sTold
    rw [ih, h0, h i]
theorem sCome_of (hK : okK q K) (hp : p ≤ q) (h1 : ∀ i, i < p → K 12 i ≤ t) (h2 : p < q → t < K 12 p) : ∀ (n i : Nat), i + n = 21 → i ≤ p → sCome K t n i = p := by
  obtain ⟨k1, k2, k3⟩ := hK
  intro n
  induction n with
  | zero => intro i hi hip; omega
  | succ n ih =>
    intro i hi hip
    unfold sCome
    rw [k1]
    by_cases e : i = p
    · subst e
      by_cases hq : i = q
      · rw [if_pos (by rw [hq]; exact Int32.le_refl _)]
      · rw [if_neg (fun hh => absurd ((of_le (by omega) (by omega)).mp hh) (by omega)), if_neg (by omega), if_pos (h2 (by omega))]
    · rw [if_neg (fun hh => absurd ((of_le (by omega) (by omega)).mp hh) (by omega)), if_neg (by omega), if_neg (Int32.not_lt.mpr (h1 i (by omega)))]
      exact ih (i + 1) (by omega) (by omega)
theorem sCome_spec (hK : okK q K) : ∀ (n i : Nat), i + n = 21 → i ≤ q → (∀ j, j < i → K 12 j ≤ t) → i ≤ sCome K t n i ∧ sCome K t n i ≤ q ∧ (∀ j, j < sCome K t n i → K 12 j ≤ t) ∧ (sCome K t n i < q → t < K 12 (sCome K t n i)) := by
  obtain ⟨k1, k2, k3⟩ := hK
  intro n
  induction n with
  | zero => intro i hi hiq; omega
  | succ n ih =>
    intro i hi hiq hj
    unfold sCome
    rw [k1]
    by_cases hq : i = q
    · rw [if_pos (by rw [hq]; exact Int32.le_refl _)]
      exact ⟨Nat.le_refl _, hiq, hj, fun h => by omega⟩
    · rw [if_neg (fun hh => absurd ((of_le (by omega) (by omega)).mp hh) (by omega)), if_neg (by omega)]
      by_cases hl : t < K 12 i
      · rw [if_pos hl]
        exact ⟨Nat.le_refl _, hiq, hj, fun _ => hl⟩
      · rw [if_neg hl]
        obtain ⟨r1, r2, r3, r4⟩ := ih (i + 1) (by omega) (by omega) (fun j hj' => by
          by_cases e : j = i
          · rw [e]; exact Int32.not_lt.mp hl
          · exact hj j (by omega))
        exact ⟨by omega, r2, r3, r4⟩
theorem sTold_iff (hK : okK q K) : ∀ (n i : Nat), i + n = 21 → (sTold K t n i = true ↔ ∃ j, i ≤ j ∧ j < q ∧ K 12 j = t) := by
  obtain ⟨k1, k2, k3⟩ := hK
  intro n
  induction n with
  | zero =>
    intro i hi
    constructor
    · intro h; exact absurd h (by unfold sTold; decide)
    · intro ⟨j, h1, h2, _⟩; omega
  | succ n ih =>
    intro i hi
    unfold sTold
    rw [k1]
    by_cases hq : q ≤ i
    · rw [if_pos ((of_le (by omega) (by omega)).mpr hq)]
      constructor
      · intro h; exact absurd h (by decide)
      · intro ⟨j, h1, h2, _⟩; omega
    · rw [if_neg (fun hh => absurd ((of_le (by omega) (by omega)).mp hh) (by omega)), if_neg (by omega)]
      by_cases e : K 12 i = t
      · rw [if_pos e]
        exact ⟨fun _ => ⟨i, Nat.le_refl _, by omega, e⟩, fun _ => rfl⟩
      · rw [if_neg e, ih (i + 1) (by omega)]
        constructor
        · intro ⟨j, h1, h2, h3⟩; exact ⟨j, by omega, h2, h3⟩
        · intro ⟨j, h1, h2, h3⟩
          refine ⟨j, ?_, h2, h3⟩
          by_cases ej : j = i
          · exact absurd (ej ▸ h3) e
          · omega
/-- one key more, behind those that have come at step s -/
def kI (K K' : AI) (q p : Nat) (s v : Int32) : Prop := (K' 10 0 = Int32.ofNat (q + 1) ∧ q < 20) ∧ (p ≤ q ∧ (∀ i, i < p → K 12 i ≤ s) ∧ (p < q → s < K 12 p)) ∧ (∀ i, i < p → K' 12 i = K 12 i ∧ K' 11 i = K 11 i) ∧ (K' 12 p = s ∧ K' 11 p = v) ∧ (∀ i, p ≤ i → i < q → K' 12 (i + 1) = K 12 i ∧ K' 11 (i + 1) = K 11 i)
variable {v : Int32}
theorem kI.hi (h : kI K K' q p s v) (hK : okK q K) {i : Nat} (h1 : p ≤ i) (h2 : i < q) : s < K 12 i := by
  have h3 := h.2.1.2.2 (by omega)
  by_cases e : i = p
  · rw [e]; exact h3
  · have h4 := hK.2.2 p i (by omega) h2
    grind
theorem kI.ok (h : kI K K' q p s v) (hK : okK q K) : okK (q + 1) K' := by
  have hi := fun i => h.hi hK (i := i)
  obtain ⟨⟨a1, a2⟩, ⟨b1, b2, b3⟩, c, ⟨d1, d2⟩, e⟩ := h
  have g : ∀ i, i < q + 1 → K' 12 i = if i < p then K 12 i else if i = p then s else K 12 (i - 1) := fun i hi' => by
    by_cases h1 : i < p
    · rw [if_pos h1]; exact (c i h1).1
    · rw [if_neg h1]
      by_cases h2 : i = p
      · rw [if_pos h2, h2]; exact d1
      · rw [if_neg h2]
        have := (e (i - 1) (by omega) (by omega)).1
        rwa [show i - 1 + 1 = i from by omega] at this
  refine ⟨a1, by omega, fun i j hij hj => ?_⟩
  rw [g i (by omega), g j hj]
  by_cases h1 : i < p
  · rw [if_pos h1]
    by_cases h2 : j < p
    · rw [if_pos h2]; exact hK.2.2 i j hij (by omega)
    · rw [if_neg h2]
      by_cases h3 : j = p
      · rw [if_pos h3]; exact b2 i h1
      · rw [if_neg h3]
        have u1 := hi (j - 1) (by omega) (by omega)
        have u2 := b2 i h1
        grind
  · rw [if_neg h1]
    by_cases h2 : i = p
    · rw [if_pos h2, if_neg (by omega), if_neg (by omega)]
      have u1 := hi (j - 1) (by omega) (by omega)
      grind
    · rw [if_neg h2, if_neg (by omega), if_neg (by omega)]
      by_cases h3 : i - 1 = j - 1
      · omega
      · exact hK.2.2 (i - 1) (j - 1) (by omega) (by omega)
/-- before that step nothing else has come -/
theorem kI.come (h : kI K K' q p s v) (hK : okK q K) (ht : t < s) : sCome K' t 21 0 = sCome K t 21 0 ∧ sCome K t 21 0 ≤ p := by
  have hK' := h.ok hK
  obtain ⟨r1, r2, r3, r4⟩ := sCome_spec (t := t) hK 21 0 rfl (by omega) (fun j hj => absurd hj (by omega))
  have hp : sCome K t 21 0 ≤ p := by
    rcases Nat.lt_or_ge p (sCome K t 21 0) with hl | hl
    · have u1 := h.hi hK (Nat.le_refl p) (by omega)
      have u2 := r3 p hl
      exact absurd u1 (by grind)
    · exact hl
  refine ⟨?_, hp⟩
  obtain ⟨⟨a1, a2⟩, ⟨b1, b2, b3⟩, c, ⟨d1, d2⟩, e⟩ := h
  refine sCome_of hK' (by omega) (fun i hi => ?_) (fun _ => ?_) 21 0 rfl (by omega)
  · rw [(c i (by omega)).1]; exact r3 i hi
  · by_cases hpp : sCome K t 21 0 = p
    · rw [hpp, d1]; exact ht
    · rw [(c _ (by omega)).1]
      exact r4 (by omega)
theorem kI.told (h : kI K K' q p s v) (hK : okK q K) (ht : t < s) : sTold K' t 21 0 = sTold K t 21 0 := by
  have hK' := h.ok hK
  have hi := fun i => h.hi hK (i := i)
  obtain ⟨⟨a1, a2⟩, ⟨b1, b2, b3⟩, c, ⟨d1, d2⟩, e⟩ := h
  have key : sTold K' t 21 0 = true ↔ sTold K t 21 0 = true := by
    rw [sTold_iff hK' 21 0 rfl, sTold_iff hK 21 0 rfl]
    constructor
    · intro ⟨j, h1, h2, h3⟩
      by_cases j1 : j < p
      · exact ⟨j, h1, by omega, by rw [← (c j j1).1]; exact h3⟩
      · by_cases j2 : j = p
        · rw [j2, d1] at h3
          exact absurd ht (by rw [h3]; exact Int32.lt_irrefl)
        · have := (e (j - 1) (by omega) (by omega)).1
          rw [show j - 1 + 1 = j from by omega, h3] at this
          have u1 := hi (j - 1) (by omega) (by omega)
          exact absurd u1 (by grind)
    · intro ⟨j, h1, h2, h3⟩
      by_cases j1 : j < p
      · exact ⟨j, h1, by omega, by rw [(c j j1).1]; exact h3⟩
      · have u1 := hi j (by omega) h2
        exact absurd u1 (by grind)
  cases h1 : sTold K' t 21 0 <;> cases h2 : sTold K t 21 0 <;> simp_all
theorem kI.self (h : kI K K' q p s v) (hK : okK q K) : sTold K' s 21 0 = true :=
  (sTold_iff (h.ok hK) 21 0 rfl).mpr ⟨p, by omega, by have := h.2.1.1; omega, h.2.2.2.1.1⟩
/-- so many steps -/
def sIt : Nat → AI → AI
  | 0, X => X
  | n + 1, X => sStep (sIt n X)
def tr (K B : AI) (j : Nat) : AI := sIt j (sKeys (ov K B))
theorem sStep_o {c : Nat} (hc : 10 ≤ c ∧ c ≤ 12) : sStep X c = X c := by
  rw [sStep_pre, sKeys_o (by omega)]
  unfold sPre
  rw [sTime_o (by omega), up2_b (by omega), sCore_o (by omega), sBegin_lo (by omega)]
theorem tr_key {c j : Nat} (hc : 10 ≤ c ∧ c ≤ 12) : tr K B j c = K c := by
  unfold tr
  induction j with
  | zero =>
    unfold sIt
    rw [sKeys_o (by omega), ov_k hc]
  | succ n ih =>
    unfold sIt
    rw [sStep_o hc, ih]
theorem tr_2 (hB : B 1 2 = 0) (j : Nat) : tr K B j 1 2 = Int32.ofNat j := by
  unfold tr
  induction j with
  | zero =>
    unfold sIt
    rw [sKeys_13.2, ov_r1]
    exact hB
  | succ n ih =>
    unfold sIt
    rw [sStep_pre, sKeys_13.2, sPre_2, ih, of_s]
theorem tr_s {j : Nat} : tr K B (j + 1) = sStep (tr K B j) := rfl
theorem sKeys_pos (h : sTold X (X 1 2) 21 0 = true) : sKeys X = up2 X 1 9 1 := by
  unfold sKeys
  rw [if_pos h]
theorem ov_k9 : up2 (ov K (sKeys X)) 1 9 1 = up2 (ov K X) 1 9 1 := by
  unfold sKeys
  split
  · rw [← ov_u1, up2_2]
  · rfl
/-- a key that is told at a step changes nothing before it -/
theorem tr_ins {n : Nat} (h : kI K K' q p (Int32.ofNat n) v) (hK : okK q K) (hB : B 1 2 = 0) (hn : n < 2000) (hV : ∀ j, j < n → ¬ tr K B j 1 13 < 0) : ∀ j, (j < n → tr K' B j = ov K' (tr K B j)) ∧ (j = n → tr K' B j = up2 (ov K' (tr K B j)) 1 9 1) := by
  have lt : ∀ j, j < n → Int32.ofNat j < Int32.ofNat n := fun j hj => (of_lt (by omega) (by omega)).mpr hj
  intro j
  induction j with
  | zero =>
    have e0 : ∀ L : AI, tr L B 0 = sKeys (ov L B) := fun L => rfl
    have e1 : ∀ L : AI, ov L B 1 2 = Int32.ofNat 0 := fun L => by rw [ov_r1]; exact hB
    have c0 : ∀ L : AI, sTold (ov L B) (Int32.ofNat 0) 21 0 = sTold L (Int32.ofNat 0) 21 0 := fun L => sTold_cong (by rw [ov_k (by decide)]) (fun i => by rw [ov_k (by decide)]) 21 0
    refine ⟨fun hj => ?_, fun hj => ?_⟩
    · rw [e0, e0]
      have ht := h.told hK (lt 0 hj)
      have e : ov K' (ov K B) = ov K' B := ov_ov
      rw [← e]
      refine sKeys_ov ?_
      rw [e, e1, c0, c0]
      exact ht
    · rw [e0, e0, ov_k9, ov_ov]
      refine sKeys_pos ?_
      rw [e1, c0]
      have := h.self hK
      rwa [← hj] at this
  | succ j ih =>
    have hpre : j < n → sPre (tr K' B j) = ov K' (sPre (tr K B j)) := fun hj => by
      rw [ih.1 hj]
      obtain ⟨c1, c2⟩ := h.come hK (lt j hj)
      have ec : ∀ L : AI, sCome (tr L B j) (Int32.ofNat j) 21 0 = sCome L (Int32.ofNat j) 21 0 := fun L => sCome_cong (by rw [tr_key (by decide)]) (fun i => by rw [tr_key (by decide)]) 21 0
      have eo : sCome (ov K' (tr K B j)) (Int32.ofNat j) 21 0 = sCome K' (Int32.ofNat j) 21 0 := sCome_cong (by rw [ov_k (by decide)]) (fun i => by rw [ov_k (by decide)]) 21 0
      refine sPre_ov ⟨?_, fun i i0 hi => ?_⟩ (hV j hj)
      · rw [tr_2 hB, eo, ec, c1]
      · rw [tr_2 hB, ec] at hi
        have hi' : nT i < sCome K (Int32.ofNat j) 21 0 := by
          have e := of_nT i0
          rw [← e] at hi
          have := h.2.1.1
          have := hK.2.1
          have hlt := Int32.toInt_lt i
          have hnt : nT i = i.toInt.toNat := rfl
          exact (of_lt (by omega) (by omega)).mp hi
        unfold sKeyV
        rw [ov_k (by decide), tr_key (by decide), if_neg i0, if_neg i0]
        split
        · rfl
        · exact (h.2.2.1 _ (by omega)).2
    have e2 : ∀ L : AI, sPre (tr L B j) 1 2 = Int32.ofNat (j + 1) := fun L => by rw [sPre_2, tr_2 hB, of_s]
    have ek : ∀ (L : AI) c, 10 ≤ c ∧ c ≤ 12 → sPre (tr L B j) c = L c := fun L c hc => by
      unfold sPre
      rw [sTime_o (by omega), up2_b (by omega), sCore_o (by omega), sBegin_lo (by omega), tr_key hc]
    have ct : ∀ (L : AI) t, sTold (sPre (tr L B j)) t 21 0 = sTold L t 21 0 := fun L t => sTold_cong (by rw [ek L 10 (by decide)]) (fun i => by rw [ek L 12 (by decide)]) 21 0
    refine ⟨fun hj => ?_, fun hj => ?_⟩
    · rw [tr_s, tr_s, sStep_pre, sStep_pre, hpre (by omega)]
      refine sKeys_ov ?_
      rw [← hpre (by omega), e2, ct, ct]
      exact h.told hK (lt (j + 1) hj)
    · rw [tr_s, tr_s, sStep_pre, sStep_pre, hpre (by omega), ov_k9]
      refine sKeys_pos ?_
      rw [← hpre (by omega), e2, ct, hj]
      exact h.self hK
end TR
