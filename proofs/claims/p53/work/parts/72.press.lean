/-! a key is pressed, in both -/
def insK (K : AI) (q p : Nat) (s v : Int32) : AI := fun c k => if c = 10 then Int32.ofNat (q + 1) else if c = 11 then (if k < p then K 11 k else if k = p then v else K 11 (k - 1)) else (if k < p then K 12 k else if k = p then s else K 12 (k - 1))
theorem insK_ok {K : AI} {q p : Nat} {s v : Int32} (hq : q < 20) (hp : p ≤ q) (h1 : ∀ i, i < p → K 12 i ≤ s) (h2 : p < q → s < K 12 p) : kI K (insK K q p s v) q p s v := by
  refine ⟨⟨?_, hq⟩, ⟨hp, h1, h2⟩, fun i hi => ⟨?_, ?_⟩, ⟨?_, ?_⟩, fun i i1 i2 => ⟨?_, ?_⟩⟩
  · unfold insK; rw [if_pos rfl]
  · unfold insK; rw [if_neg (by decide), if_neg (by decide), if_pos hi]
  · unfold insK; rw [if_neg (by decide), if_pos rfl, if_pos hi]
  · unfold insK; rw [if_neg (by decide), if_neg (by decide), if_neg (by omega), if_pos rfl]
  · unfold insK; rw [if_neg (by decide), if_pos rfl, if_neg (by omega), if_pos rfl]
  · unfold insK; rw [if_neg (by decide), if_neg (by decide), if_neg (by omega), if_neg (by omega), Nat.add_sub_cancel]
  · unfold insK; rw [if_neg (by decide), if_pos rfl, if_neg (by omega), if_neg (by omega), Nat.add_sub_cancel]
/-- a row whose words from i on, up to q, are moved up by one -/
def shK (I : AI) (b i q : Nat) : AI := fun c k => if c = b ∧ i < k ∧ k ≤ q then I b (k - 1) else I c k
theorem shK_b {I : AI} {b i q c : Nat} (h : ¬ c = b) : shK I b i q c = I c := by
  funext k
  unfold shK
  rw [if_neg (fun hh => h hh.1)]
theorem shK_0 {I : AI} {b q : Nat} : shK I b q q = I := by
  funext c k
  unfold shK
  rw [if_neg (by omega)]
theorem shK_s {I : AI} {b i q : Nat} (hi : i < q) : up2 (shK I b (i + 1) q) b (i + 1) (shK I b (i + 1) q b i) = shK I b i q := by
  funext c k
  have e : shK I b (i + 1) q b i = I b i := by
    unfold shK
    rw [if_neg (by omega)]
  rw [e]
  by_cases h : c = b ∧ k = i + 1
  · obtain ⟨rfl, rfl⟩ := h
    rw [up2_eq]
    unfold shK
    rw [if_pos (by omega), Nat.add_sub_cancel]
  · rw [up2_ne h]
    unfold shK
    by_cases h2 : c = b ∧ i + 1 < k ∧ k ≤ q
    · rw [if_pos h2, if_pos (by omega)]
    · rw [if_neg h2, if_neg (by omega)]
section PR2
variable {kad : Nat → Nat} {N : Nat} {Z : AZ} {g m q p s kc : Nat} {I : AI} {K B : AI} {M D : Nat → Int32} {W v : Int32}
theorem K75_l {k : Nat} {t : Int32} (hK : okK q K) (h0 : I k 0 = K 10 0) (h2 : ∀ j, j < q → I (k + 2) j = K 12 j) : ∀ (n i F : Nat), i + n = 21 → n < F → f75_b2 kad N Z F k t (Int32.ofNat i) I = some (Int32.ofNat (sCome K t n i), I) := by
  have hq := hK.2.1
  intro n
  induction n with
  | zero =>
    intro i F hi hF
    obtain ⟨F, rfl⟩ : ∃ G, F = G + 1 := ⟨F - 1, by omega⟩
    unfold f75_b2 f75_b32 sCome
    rw [h0, hK.1, if_pos ((of_le (by omega) (by omega)).mpr (by omega))]
  | succ n ih =>
    intro i F hi hF
    obtain ⟨F, rfl⟩ : ∃ G, F = G + 1 := ⟨F - 1, by omega⟩
    unfold f75_b2 f75_b32 sCome
    rw [h0, hK.1]
    by_cases hqi : q ≤ i
    · have e := (of_le (m := q) (n := i) (by omega) (by omega)).mpr hqi
      rw [if_pos e, if_pos e]
    · have e : ¬ Int32.ofNat q ≤ Int32.ofNat i := fun h => hqi ((of_le (by omega) (by omega)).mp h)
      rw [if_neg e, if_neg e, if_neg (show ¬ (20 : Int32) ≤ Int32.ofNat i from fun h => absurd ((of_le (m := 20) (by decide) (by omega)).mp h) (by omega)), if_neg (show ¬ 20 ≤ i by omega), ixA_of (by omega), Option.bind_some, h2 i (by omega)]
      by_cases ht : t < K 12 i
      · rw [if_pos ht, if_pos ht]
      · rw [if_neg ht, if_neg ht, of_s]
        exact ih (i + 1) F (by omega) (by omega)
theorem K74_l {k : Nat} {t : Int32} (hq : q < 20) (hp : p ≤ q) : ∀ (r i F : Nat) (I : AI), i = p + r → i ≤ q → r < F → f74_b22 kad N Z F k v t (Int32.ofNat p) (Int32.ofNat i) (shK (shK I (k + 1) i q) (k + 2) i q) = f74_b73 kad N Z k v t (Int32.ofNat p) (shK (shK I (k + 1) p q) (k + 2) p q) := by
  intro r
  induction r with
  | zero =>
    intro i F I hi hiq hF
    obtain ⟨F, rfl⟩ : ∃ G, F = G + 1 := ⟨F - 1, by omega⟩
    unfold f74_b22
    rw [hi, Nat.add_zero, if_pos (Int32.le_refl _)]
  | succ r ih =>
    intro i F I hi hiq hF
    obtain ⟨F, rfl⟩ : ∃ G, F = G + 1 := ⟨F - 1, by omega⟩
    obtain ⟨i, rfl⟩ : ∃ j, i = j + 1 := ⟨i - 1, by omega⟩
    have e1 : Int32.ofNat (i + 1) - 1 = Int32.ofNat i := by rw [← of_s]; grind
    have e2 : Int32.ofNat (i + 1) + Int32.ofInt (-1) = Int32.ofNat i := by
      rw [← of_s, show Int32.ofInt (-1) = (-1 : Int32) from by decide]; grind
    unfold f74_b22
    rw [if_neg (fun h => absurd ((of_le (by omega) (by omega)).mp h) (by omega)), if_neg (show ¬ (20 : Int32) ≤ Int32.ofNat (i + 1) from fun h => absurd ((of_le (m := 20) (by decide) (by omega)).mp h) (by omega)), e1, ixA_of (by omega), Option.bind_some, ixA_of (by omega), Option.bind_some]
    unfold wI
    rw [Option.bind_some, Option.bind_some, Option.bind_some, Option.bind_some, e2]
    have s1 : up2 (shK (shK I (k + 1) (i + 1) q) (k + 2) (i + 1) q) (k + 1) (i + 1) (shK (shK I (k + 1) (i + 1) q) (k + 2) (i + 1) q (k + 1) i) = shK (shK I (k + 1) i q) (k + 2) (i + 1) q := by
      rw [shK_b (show ¬ k + 1 = k + 2 by omega)]
      funext c j
      rw [← shK_s (I := I) (b := k + 1) (i := i) (q := q) (by omega)]
      by_cases hc : c = k + 2
      · subst hc
        rw [up2_b (by omega)]
        unfold shK
        rw [up2_b (show ¬ k + 2 = k + 1 by omega)]
      · rw [shK_b hc]
        by_cases h2 : c = k + 1 ∧ j = i + 1
        · obtain ⟨rfl, rfl⟩ := h2
          rw [up2_eq, up2_eq]
        · rw [up2_ne h2, up2_ne h2, shK_b hc]
    rw [s1, shK_s (by omega)]
    exact ih i F I (by omega) (by omega) (by omega)
/-- the class is told a key -/
theorem K74 (hN : 2000 ≤ N) {k : Nat} {t : Int32} (hK : okK q K) (hq : q < 20) (h0 : I k 0 = K 10 0) (h2 : ∀ j, j < q → I (k + 1) j = K 11 j ∧ I (k + 2) j = K 12 j) : Ok (f74 kad N Z k v t I) (fun _ J => (J k 0 = Int32.ofNat (q + 1) ∧ ∀ j, j < q + 1 → J (k + 1) j = insK K q (sCome K t 21 0) t v 11 j ∧ J (k + 2) j = insK K q (sCome K t 21 0) t v 12 j) ∧ (∀ b, ¬ b = k → ¬ b = k + 1 → ¬ b = k + 2 → J b = I b) ∧ (∀ j, ¬ j = 0 → J k j = I k j)) := by
  have hs := sCome_spec (t := t) hK 21 0 rfl (by omega) (fun j hj => absurd hj (by omega))
  have hp := hs.2.1
  unfold f74
  rw [h0, hK.1, if_pos (show Int32.ofNat q < (20 : Int32) from (of_lt (n := 20) (by omega) (by decide)).mpr hq)]
  unfold f75
  have h75 := K75_l (kad := kad) (N := N) (Z := Z) (t := t) hK h0 (fun j hj => (h2 j hj).2) 21 0 N rfl (by omega)
  rw [show (0 : Int32) = Int32.ofNat 0 from rfl] at *
  rw [h75, Option.bind_some]
  dsimp only
  rw [h0, hK.1]
  generalize sCome K t 21 0 = p at hp ⊢
  have hl := K74_l (kad := kad) (N := N) (Z := Z) (v := v) (k := k) (t := t) hq hp (q - p) q N I (by omega) (by omega) (by omega)
  rw [shK_0, shK_0] at hl
  rw [hl]
  have r1 : ∀ j, j < q + 1 → ¬ j = p → shK (shK I (k + 1) p q) (k + 2) p q (k + 1) j = insK K q p t v 11 j := fun j hj hjp => by
    rw [shK_b (by omega)]
    unfold shK insK
    rw [if_neg (show ¬ (11 : Nat) = 10 by decide), if_pos (show (11 : Nat) = 11 from rfl)]
    by_cases h : j < p
    · rw [if_neg (by omega), if_pos h]; exact (h2 j (by omega)).1
    · rw [if_pos (by omega), if_neg h, if_neg hjp]; exact (h2 (j - 1) (by omega)).1
  have r2 : ∀ j, j < q + 1 → ¬ j = p → shK (shK I (k + 1) p q) (k + 2) p q (k + 2) j = insK K q p t v 12 j := fun j hj hjp => by
    unfold insK
    rw [if_neg (show ¬ (12 : Nat) = 10 by decide), if_neg (show ¬ (12 : Nat) = 11 by decide)]
    have e : ∀ x, shK I (k + 1) p q (k + 2) x = I (k + 2) x := fun x => congrFun (shK_b (by omega)) x
    unfold shK at e ⊢
    by_cases h : j < p
    · rw [if_neg (by omega), if_pos h, e]; exact (h2 j (by omega)).2
    · rw [if_pos (by omega), if_neg h, if_neg hjp, e]; exact (h2 (j - 1) (by omega)).2
  have rb : ∀ b, ¬ b = k + 1 → ¬ b = k + 2 → shK (shK I (k + 1) p q) (k + 2) p q b = I b := fun b b1 b2 => by rw [shK_b b2, shK_b b1]
  generalize shK (shK I (k + 1) p q) (k + 2) p q = Y at r1 r2 rb
  unfold f74_b73 f74_b97
  rw [if_neg (of_nn (by omega)), if_neg (show ¬ (20 : Int32) ≤ Int32.ofNat p from fun h => absurd ((of_le (m := 20) (by decide) (by omega)).mp h) (by omega)), ixA_of (by omega), Option.bind_some]
  refine Ok.w ?_
  rw [Option.bind_some]
  refine Ok.w ?_
  refine Ok.w (Ok.ret ⟨⟨?_, fun j hj => ⟨?_, ?_⟩⟩, fun b b1 b2 b3 => ?_, fun j hj => ?_⟩)
  · rw [up2_eq, up2_b (by omega), up2_b (by omega), rb k (by omega) (by omega), h0, hK.1, of_s]
  · rw [up2_b (by omega), up2_b (by omega)]
    by_cases e : j = p
    · rw [e, up2_eq]
      unfold insK
      rw [if_neg (by decide), if_pos rfl, if_neg (by omega), if_pos rfl]
    · rw [up2_ne (fun hh => e hh.2)]
      exact r1 j hj e
  · rw [up2_b (by omega)]
    by_cases e : j = p
    · rw [e, up2_eq]
      unfold insK
      rw [if_neg (by decide), if_neg (by decide), if_neg (by omega), if_pos rfl]
    · rw [up2_ne (fun hh => e hh.2), up2_b (by omega)]
      exact r2 j hj e
  · rw [up2_b b1, up2_b b3, up2_b b2]
    exact rb b b2 b3
  · rw [up2_ne (fun hh => hj hh.2), up2_b (by omega), up2_b (by omega), rb k (by omega) (by omega)]
end PR2
