/-! the model makes an instruction -/
theorem nn_nat {x : Int32} (h : ¬ x < 0) : x.toBitVec.toNat = nT x := by
  have h1 := bv_i x
  have h2 := nT_eq h
  have h3 := x.toBitVec.isLt
  split at h1 <;> omega
theorem and_m {x mm : Int32} (h : ¬ x < 0) {k : Nat} (hk : k < 31) (hm : mm.toBitVec.toNat = 2 ^ k - 1) : x &&& mm = Int32.ofNat (nT x % 2 ^ k) := by
  have e : (x &&& mm).toBitVec.toNat = nT x % 2 ^ k := by
    rw [Int32.toBitVec_and, BitVec.toNat_and, hm, nn_nat h]
    exact Nat.and_two_pow_sub_one_eq_mod _ k
  have hp : 2 ^ k ≤ 2 ^ 30 := Nat.pow_le_pow_right (by decide) (by omega)
  have hq : nT x % 2 ^ k < 2 ^ k := Nat.mod_lt _ (Nat.pow_pos (by decide))
  apply Int32.toInt_inj.mp
  rw [Int32.toInt_ofNat_of_lt (by omega), bv_i, if_pos (by omega), e]
theorem andb {x y : Int32} {i : Nat} (hi : i < 32) (hy : ∀ k, k < 32 → dB y k = decide (k = i)) : x &&& y = 0 ↔ dB x i = false := by
  have z : ∀ k : Fin 32, dB 0 k.1 = false := by decide +kernel
  constructor
  · intro h
    have e := z ⟨i, hi⟩
    dsimp only at e
    rw [← h, dB_and, hy i hi, decide_eq_true rfl, Bool.and_true] at e
    exact e
  · intro h
    apply dB_ext
    intro k hk
    have e := z ⟨k, hk⟩
    dsimp only at e
    rw [dB_and, hy k hk, e]
    by_cases hki : k = i
    · rw [hki, h, Bool.false_and]
    · rw [decide_eq_false hki, Bool.and_false]
theorem b1_b : ∀ k : Fin 32, dB 1 k.1 = decide (k.1 = 0) := by decide +kernel
theorem b2_b : ∀ k : Fin 32, dB 2 k.1 = decide (k.1 = 1) := by decide +kernel
/-- the two flags that are pulled -/
theorem fl1 {x : Int32} (h : wd x) : x - x / (2 : Int32) * (2 : Int32) = 1 ↔ ¬ x &&& 1 = 0 := by
  rw [show x - x / (2 : Int32) * (2 : Int32) = Int32.ofNat (nT x % 2) from mod_n (wd_nn h) (n := 2) (by decide) (by decide), andb (i := 0) (by decide) (fun k hk => b1_b ⟨k, hk⟩), dB_t h, Nat.testBit_eq_decide_div_mod_eq]
  rw [show (1 : Int32) = Int32.ofNat 1 from rfl, of_inj (by omega) (by decide)]
  simp only [decide_eq_false_iff_not, Nat.pow_zero, Nat.div_one]
  omega
theorem fl2 {x : Int32} (h : wd x) : x / (2 : Int32) - x / (2 : Int32) / (2 : Int32) * (2 : Int32) = 1 ↔ ¬ x &&& 2 = 0 := by
  have e1 := of_nT (wd_nn h)
  have h5 := (wd_n h).2.1
  have e2 : x / (2 : Int32) = Int32.ofNat (nT x / 2) := by
    have := eD (c := nT x) (n := 2) (by omega) (by decide) (by decide)
    rw [e1] at this
    exact this
  rw [e2, show Int32.ofNat (nT x / 2) - Int32.ofNat (nT x / 2) / (2 : Int32) * (2 : Int32) = Int32.ofNat (nT x / 2 % 2) from eR (n := 2) (by omega) (by decide) (by decide), andb (i := 1) (by decide) (fun k hk => b2_b ⟨k, hk⟩), dB_t h, Nat.testBit_eq_decide_div_mod_eq]
  rw [show (1 : Int32) = Int32.ofNat 1 from rfl, of_inj (by omega) (by decide)]
  simp only [decide_eq_false_iff_not]
  omega
section MI
variable {kad : Nat → Nat} {N : Nat} {Z : AZ} {m s : Nat} {I0 I X : AI}
/-- what an instruction may take as given -/
def okI (q p t r s : Nat) (X : AI) : Prop := (okK q X ∧ bl X ∧ wdk X ∧ WF (X 9)) ∧ (∀ k, k < 256 → wd (X 6 k)) ∧ (wd (X 1 3) ∧ (X 1 4 = Int32.ofNat p ∧ p ≤ 256) ∧ (X 1 12 = Int32.ofNat t ∧ t ≤ 60) ∧ (X 1 13 = Int32.ofNat r ∧ r ≤ 20) ∧ (X 1 2 = Int32.ofNat s ∧ s < 2000)) ∧ nw 0 X ∧ (X 3 0 = 0 ∧ X 3 1 = 0)
end MI
