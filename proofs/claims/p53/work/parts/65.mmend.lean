/-! the model mends a disk -/
def wpN (D : Nat → Int32) (bs : Nat → Nat) (f : Nat → Int32) : Nat → (Nat → Int32)
  | 0 => D
  | k + 1 => wP (wpN D bs f k) (8 * bs (k / 8) + k % 8) (f k)
theorem wpN_lo {D : Nat → Int32} {bs : Nat → Nat} {f : Nat → Int32} {n k : Nat} (hb : ∀ k, k < n → 4 ≤ bs k ∧ bs k < 32) (hk : k < 32) : ∀ i, i ≤ 8 * n → wpN D bs f i k = D k := by
  intro i
  induction i with
  | zero => intro _; rfl
  | succ i ih =>
    intro hi
    unfold wpN
    have := (hb (i / 8) (by omega)).1
    rw [wP_ne (by omega)]
    exact ih (by omega)
theorem wpN_in {D : Nat → Int32} {bs : Nat → Nat} {f : Nat → Int32} {i : Nat} : ∀ r, r ≤ 8 → ∀ j, wpN D bs f (8 * i + r) j = if 8 * bs i ≤ j ∧ j < 8 * bs i + r then f (8 * i + (j - 8 * bs i)) else wpN D bs f (8 * i) j := by
  intro r
  induction r with
  | zero =>
    intro _ j
    rw [if_neg (by omega)]
    rfl
  | succ r ih =>
    intro hr j
    show wP (wpN D bs f (8 * i + r)) (8 * bs ((8 * i + r) / 8) + (8 * i + r) % 8) (f (8 * i + r)) j = _
    rw [show (8 * i + r) / 8 = i from by omega, show (8 * i + r) % 8 = r from by omega]
    by_cases hj : j = 8 * bs i + r
    · rw [hj, wP_eq, if_pos (by omega)]
      congr 1
      omega
    · rw [wP_ne hj, ih (by omega)]
      by_cases h2 : 8 * bs i ≤ j ∧ j < 8 * bs i + r
      · rw [if_pos h2, if_pos (by omega)]
      · rw [if_neg h2, if_neg (by omega)]
theorem wpN_eq {D : Nat → Int32} {bs : Nat → Nat} {f : Nat → Int32} : ∀ i, wpN D bs f (8 * i) = apD D bs f i := by
  intro i
  induction i with
  | zero => rfl
  | succ i ih =>
    funext j
    rw [show 8 * (i + 1) = 8 * i + 8 from by omega, wpN_in 8 (by omega) j, ih]
    rfl
theorem hd_memf {b : Nat} {m : Nat → Int32} {J : AI} : hd (memf J b m) b 8 (fun _ => 0) = memf J b (kB m 0 (fun _ => 0)) := by
  funext c k
  unfold hd
  by_cases hc : c = b
  · subst hc
    rw [memf_at, memf_at]
    unfold kB
    by_cases hk : k < 8
    · rw [if_pos ⟨rfl, hk⟩, if_pos (by omega)]
    · rw [if_neg (fun hh => hk hh.2), if_neg (by omega)]
  · rw [if_neg (fun hh => hc hh.1), memf_b hc, memf_b hc]
section MM
variable {kad : Nat → Nat} {N : Nat} {Z : AZ} {m : Nat} {I : AI}
end MM
