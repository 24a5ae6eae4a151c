/-! a test is added, in the model -/
/-- two rows filled alike -/
def st2 (I : AI) (b e d n : Nat) (f h : Nat → Int32) : AI := fun q k => if q = b ∧ d ≤ k ∧ k < d + n then f (k - d) else if q = e ∧ d ≤ k ∧ k < d + n then h (k - d) else I q k
section TM
variable {kad : Nat → Nat} {N : Nat} {Z : AZ} {g m n : Nat} {I J T : AI} {v a b c d : Int32} {f h : Nat → Int32}
theorem st2_0 {b e d : Nat} : st2 I b e d 0 f h = I := by
  funext q k
  unfold st2
  rw [if_neg (by omega), if_neg (by omega)]
theorem st2_o' {b e d n q k : Nat} (h1 : ¬ q = b) (h2 : ¬ q = e) : st2 I b e d n f h q k = I q k := by
  unfold st2
  rw [if_neg (fun hh => h1 hh.1), if_neg (fun hh => h2 hh.1)]
theorem st2_s {b e d n : Nat} (hbe : ¬ b = e) : up2 (up2 (st2 I b e d n f h) b (d + n) (f n)) e (d + n) (h n) = st2 I b e d (n + 1) f h := by
  funext q k
  by_cases he : q = e
  · have hb : ¬ q = b := fun hh => hbe (hh.symm.trans he)
    by_cases hk : k = d + n
    · rw [he, hk, up2_eq]
      unfold st2
      rw [if_neg (show ¬ (e = b ∧ d ≤ d + n ∧ d + n < d + (n + 1)) from fun hh => hbe hh.1.symm), if_pos (show e = e ∧ d ≤ d + n ∧ d + n < d + (n + 1) by omega)]
      congr 1; omega
    · rw [up2_ne (fun hh => hk hh.2), up2_b hb]
      unfold st2
      rw [if_neg (show ¬ (q = b ∧ d ≤ k ∧ k < d + n) from fun hh => hb hh.1), if_neg (show ¬ (q = b ∧ d ≤ k ∧ k < d + (n + 1)) from fun hh => hb hh.1)]
      by_cases h2 : d ≤ k ∧ k < d + n
      · rw [if_pos (show q = e ∧ d ≤ k ∧ k < d + n from ⟨he, h2⟩), if_pos (show q = e ∧ d ≤ k ∧ k < d + (n + 1) by omega)]
      · rw [if_neg (show ¬ (q = e ∧ d ≤ k ∧ k < d + n) from fun hh => h2 hh.2), if_neg (show ¬ (q = e ∧ d ≤ k ∧ k < d + (n + 1)) by omega)]
  · rw [up2_b he]
    by_cases hq : q = b
    · by_cases hk : k = d + n
      · rw [hq, hk, up2_eq]
        unfold st2
        rw [if_pos (show b = b ∧ d ≤ d + n ∧ d + n < d + (n + 1) by omega)]
        congr 1; omega
      · rw [up2_ne (fun hh => hk hh.2)]
        unfold st2
        by_cases h2 : d ≤ k ∧ k < d + n
        · rw [if_pos (show q = b ∧ d ≤ k ∧ k < d + n from ⟨hq, h2⟩), if_pos (show q = b ∧ d ≤ k ∧ k < d + (n + 1) by omega)]
        · rw [if_neg (show ¬ (q = b ∧ d ≤ k ∧ k < d + n) from fun hh => h2 hh.2), if_neg (show ¬ (q = b ∧ d ≤ k ∧ k < d + (n + 1)) by omega), if_neg (show ¬ (q = e ∧ d ≤ k ∧ k < d + n) from fun hh => he hh.1), if_neg (show ¬ (q = e ∧ d ≤ k ∧ k < d + (n + 1)) from fun hh => he hh.1)]
    · rw [up2_b hq, st2_o' hq he, st2_o' hq he]
theorem st2_o {b e d n q : Nat} (h1 : ¬ q = b) (h2 : ¬ q = e) : st2 I b e d n f h q = I q := by
  funext k
  unfold st2
  rw [if_neg (fun hh => h1 hh.1), if_neg (fun hh => h2 hh.1)]
theorem st2_b {b e d n k : Nat} (hk : d ≤ k ∧ k < d + n) : st2 I b e d n f h b k = f (k - d) := by
  unfold st2
  rw [if_pos ⟨rfl, hk⟩]
theorem st2_e {b e d n k : Nat} (hbe : ¬ b = e) (hk : d ≤ k ∧ k < d + n) : st2 I b e d n f h e k = h (k - d) := by
  unfold st2
  rw [if_neg (fun hh => hbe hh.1.symm), if_pos ⟨rfl, hk⟩]
theorem st2_out {b e d n q k : Nat} (hk : ¬ (d ≤ k ∧ k < d + n)) : st2 I b e d n f h q k = I q k := by
  unfold st2
  rw [if_neg (fun hh => hk hh.2), if_neg (fun hh => hk hh.2)]
end TM
