/-! one test, from its keys to its judging, in both -/
def Kt (T : AI) (t p : Nat) : AI := fun c k => if c = 10 then Int32.ofNat p else if c = 11 then T (10 + t) k else 0
section TO
variable {kad : Nat → Nat} {N : Nat} {Z : AZ} {a b m n t τ κ p : Nat} {I J T X : AI} {v w : Int32} {M : Nat → Int32}
theorem Kt_10 {k : Nat} : Kt T t p 10 k = Int32.ofNat p := by unfold Kt; rw [if_pos rfl]
theorem Kt_11 {k : Nat} : Kt T t p 11 k = T (10 + t) k := by unfold Kt; rw [if_neg (by decide), if_pos rfl]
theorem Kt_12 {k : Nat} : Kt T t p 12 k = 0 := by unfold Kt; rw [if_neg (by decide), if_neg (by decide)]
theorem Kt_ok (hp : p ≤ 20) : okK p (Kt T t p) := ⟨Kt_10, hp, fun i j _ _ => by rw [Kt_12, Kt_12]; exact Int32.le_refl _⟩
theorem Kt_come (hp : p ≤ 20) : sCome (Kt T t p) 0 21 0 = p := sCome_of (Kt_ok hp) (Nat.le_refl _) (fun i _ => by rw [Kt_12]; exact Int32.le_refl _) (fun h => absurd h (by omega)) 21 0 rfl (by omega)
theorem K120_k (hN : 2000 ≤ N) (hp : p ≤ 6) (h1 : T 1 t = Int32.ofNat p) (hτ : τ + 3 ≤ a ∨ a + 17 ≤ τ) : ∀ (r i F : Nat) (I : AI), i + r = p → r < F → CTt τ t T I → CK i a (Kt T t i) I → ∃ J, f120_b17 kad N Z F τ a κ b (Int32.ofNat i) I = f120_b54 kad N Z τ a κ b J ∧ CK p a (Kt T t p) J ∧ ∀ b, ¬ b = a + 10 → ¬ b = a + 11 → ¬ b = a + 12 → J b = I b := by
  intro r
  induction r with
  | zero =>
    intro i F I hi hF hT hC
    obtain ⟨F, rfl⟩ : ∃ G, F = G + 1 := ⟨F - 1, by omega⟩
    have e : i = p := by omega
    subst e
    refine ⟨I, ?_, hC, fun _ _ _ _ => rfl⟩
    unfold f120_b17
    rw [hT.1.1, h1, if_pos (Int32.le_refl _)]
  | succ r ih =>
    intro i F I hi hF hT hC
    obtain ⟨F, rfl⟩ : ∃ G, F = G + 1 := ⟨F - 1, by omega⟩
    obtain ⟨x, I1, e1, ⟨h10, hr⟩, f1, -⟩ := K74 (kad := kad) (Z := Z) (k := a + 10) (t := 0) (v := T (10 + t) i) hN (Kt_ok (T := T) (t := t) (p := i) (by omega)) (by omega) hC.1 (fun j hj => hC.2 j hj)
    have hC1 : CK (i + 1) a (Kt T t (i + 1)) I1 := by
      refine ⟨by rw [h10, Kt_10], fun k hk => ?_⟩
      obtain ⟨r1, r2⟩ := hr k hk
      rw [Kt_come (by omega)] at r1 r2
      refine ⟨r1.trans ?_, r2.trans ?_⟩
      · rw [Kt_11]
        unfold insK
        rw [if_neg (by decide), if_pos rfl]
        by_cases h : k < i
        · rw [if_pos h, Kt_11]
        · rw [if_neg h, if_pos (by omega), show k = i by omega]
      · rw [Kt_12]
        unfold insK
        rw [if_neg (by decide), if_neg (by decide)]
        by_cases h : k < i
        · rw [if_pos h, Kt_12]
        · rw [if_neg h, if_pos (by omega)]
    obtain ⟨J, j1, j2, j3⟩ := ih (i + 1) F I1 (by omega) (by omega) (hT.cong (fun b b1 b2 => f1 b (by omega) (by omega) (by omega))) hC1
    refine ⟨J, ?_, j2, fun b b1 b2 b3 => by rw [j3 b b1 b2 b3, f1 b b1 b2 b3]⟩
    unfold f120_b17
    rw [hT.1.1, h1, if_neg (fun h => absurd ((of_le (by omega) (by omega)).mp h) (by omega)), if_neg (show ¬ (6 : Int32) ≤ Int32.ofNat i from fun h => absurd ((of_le (m := 6) (by decide) (by omega)).mp h) (by omega)), ixA_of (by omega), Option.bind_some, (hT.2.2 i (by omega)).1, e1, Option.bind_some]
    dsimp only
    rw [of_s]
    exact j1
end TO
