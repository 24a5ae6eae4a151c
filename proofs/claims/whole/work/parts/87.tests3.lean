/-! a test is added, in the model -/
/-- two rows filled alike -/
def st2 (I : AI) (b e d n : Nat) (f h : Nat → Int32) : AI := fun q k => if q = b ∧ d ≤ k ∧ k < d + n then f (k - d) else if q = e ∧ d ≤ k ∧ k < d + n then h (k - d) else I q k
section TM
variable {kad : Nat → Nat} {N : Nat} {Z : AZ} {g m n : Nat} {I J T : AI} {v a b c d : Int32} {f h : Nat → Int32}
theorem st2_0 {b e d : Nat} : st2 I b e d 0 f h = I := by
  funext q k
  unfold st2
  rw [if_neg (by omega), if_neg (by omega)]
theorem st2_o' {b e d n q k : Nat} (h1 : ¬ q = b) (h2 : ¬ q = e) : st2 I b e d n f h q k = I q k := by
  unfold st2
  rw [if_neg (fun hh => h1 hh.1), if_neg (fun hh => h2 hh.1)]
theorem st2_s {b e d n : Nat} (hbe : ¬ b = e) : up2 (up2 (st2 I b e d n f h) b (d + n) (f n)) e (d + n) (h n) = st2 I b e d (n + 1) f h := by
  funext q k
  by_cases he : q = e
  · have hb : ¬ q = b := fun hh => hbe (hh.symm.trans he)
    by_cases hk : k = d + n
    · rw [he, hk, up2_eq]
      unfold st2
      rw [if_neg (show ¬ (e = b ∧ d ≤ d + n ∧ d + n < d + (n + 1)) from fun hh => hbe hh.1.symm), if_pos (show e = e ∧ d ≤ d + n ∧ d + n < d + (n + 1) by omega)]
      congr 1; omega
    · rw [up2_ne (fun hh => hk hh.2), up2_b hb]
      unfold st2
      rw [if_neg (show ¬ (q = b ∧ d ≤ k ∧ k < d + n) from fun hh => hb hh.1), if_neg (show ¬ (q = b ∧ d ≤ k ∧ k < d + (n + 1)) from fun hh => hb hh.1)]
      by_cases h2 : d ≤ k ∧ k < d + n
      · rw [if_pos (show q = e ∧ d ≤ k ∧ k < d + n from ⟨he, h2⟩), if_pos (show q = e ∧ d ≤ k ∧ k < d + (n + 1) by omega)]
      · rw [if_neg (show ¬ (q = e ∧ d ≤ k ∧ k < d + n) from fun hh => h2 hh.2), if_neg (show ¬ (q = e ∧ d ≤ k ∧ k < d + (n + 1)) by omega)]
  · rw [up2_b he]
    by_cases hq : q = b
    · by_cases hk : k = d + n
      · rw [hq, hk, up2_eq]
        unfold st2
        rw [if_pos (show b = b ∧ d ≤ d + n ∧ d + n < d + (n + 1) by omega)]
        congr 1; omega
      · rw [up2_ne (fun hh => hk hh.2)]
        unfold st2
        by_cases h2 : d ≤ k ∧ k < d + n
        · rw [if_pos (show q = b ∧ d ≤ k ∧ k < d + n from ⟨hq, h2⟩), if_pos (show q = b ∧ d ≤ k ∧ k < d + (n + 1) by omega)]
        · rw [if_neg (show ¬ (q = b ∧ d ≤ k ∧ k < d + n) from fun hh => h2 hh.2), if_neg (show ¬ (q = b ∧ d ≤ k ∧ k < d + (n + 1)) by omega), if_neg (show ¬ (q = e ∧ d ≤ k ∧ k < d + n) from fun hh => he hh.1), if_neg (show ¬ (q = e ∧ d ≤ k ∧ k < d + (n + 1)) from fun hh => he hh.1)]
    · rw [up2_b hq, st2_o' hq he, st2_o' hq he]
theorem st2_o {b e d n q : Nat} (h1 : ¬ q = b) (h2 : ¬ q = e) : st2 I b e d n f h q = I q := by
  funext k
  unfold st2
  rw [if_neg (fun hh => h1 hh.1), if_neg (fun hh => h2 hh.1)]
theorem st2_b {b e d n k : Nat} (hk : d ≤ k ∧ k < d + n) : st2 I b e d n f h b k = f (k - d) := by
  unfold st2
  rw [if_pos ⟨rfl, hk⟩]
theorem st2_e {b e d n k : Nat} (hbe : ¬ b = e) (hk : d ≤ k ∧ k < d + n) : st2 I b e d n f h e k = h (k - d) := by
  unfold st2
  rw [if_neg (fun hh => hbe hh.1.symm), if_pos ⟨rfl, hk⟩]
theorem st2_out {b e d n q k : Nat} (hk : ¬ (d ≤ k ∧ k < d + n)) : st2 I b e d n f h q k = I q k := by
  unfold st2
  rw [if_neg (fun hh => hk hh.2), if_neg (fun hh => hk hh.2)]
theorem M298_l (hn : n < 5) (h60 : I m 60 = Int32.ofNat n) : ∀ (r i F : Nat), i + r = 6 → r < F → f298_b161 kad N Z F m (Int32.ofNat i) (st2 I (m + 30) (m + 32) (6 * n) i (I (m + 28)) (I (m + 29))) = some (Int32.ofNat n, up2 (up2 (up2 (st2 I (m + 30) (m + 32) (6 * n) 6 (I (m + 28)) (I (m + 29))) m 58 0) m 59 0) m 60 (Int32.ofNat (n + 1))) := by
  intro r
  induction r with
  | zero =>
    intro i F hi hF
    obtain ⟨F, rfl⟩ : ∃ G, F = G + 1 := ⟨F - 1, by omega⟩
    have e : i = 6 := by omega
    subst e
    unfold f298_b161
    rw [if_pos (show (6 : Int32) ≤ Int32.ofNat 6 by decide)]
    simp only [wI_ok, Option.bind_some]
    have e60 : up2 (up2 (st2 I (m + 30) (m + 32) (6 * n) 6 (I (m + 28)) (I (m + 29))) m 58 0) m 59 0 m 60 = Int32.ofNat n := by
      rw [up2_ne (show ¬ (m = m ∧ (60 : Nat) = 59) by omega), up2_ne (show ¬ (m = m ∧ (60 : Nat) = 58) by omega), st2_o (by omega) (by omega), h60]
    rw [e60, of_s, up2_eq, pr_of]
  | succ r ih =>
    intro i F hi hF
    obtain ⟨F, rfl⟩ : ∃ G, F = G + 1 := ⟨F - 1, by omega⟩
    unfold f298_b161
    have e6 : (6 : Int32) * Int32.ofNat n + Int32.ofNat i = Int32.ofNat (6 * n + i) := by rw [← eA, ← eM]; rfl
    rw [if_neg (show ¬ (6 : Int32) ≤ Int32.ofNat i from fun h => absurd ((of_le (m := 6) (by decide) (by omega)).mp h) (by omega))]
    rw [show st2 I (m + 30) (m + 32) (6 * n) i (I (m + 28)) (I (m + 29)) m 60 = Int32.ofNat n from by rw [st2_o (by omega) (by omega), h60], e6, ixA_of (by omega), Option.bind_some, ixA_of (by omega), Option.bind_some, wI_ok, Option.bind_some, Option.bind_some]
    rw [show up2 (st2 I (m + 30) (m + 32) (6 * n) i (I (m + 28)) (I (m + 29))) (m + 30) (6 * n + i) (st2 I (m + 30) (m + 32) (6 * n) i (I (m + 28)) (I (m + 29)) (m + 28) i) m 60 = Int32.ofNat n from by rw [up2_b (by omega), st2_o (by omega) (by omega), h60], e6, ixA_of (by omega), Option.bind_some, wI_ok, Option.bind_some]
    have s28 : st2 I (m + 30) (m + 32) (6 * n) i (I (m + 28)) (I (m + 29)) (m + 28) i = I (m + 28) i := st2_o' (by omega) (by omega)
    have s29 : up2 (st2 I (m + 30) (m + 32) (6 * n) i (I (m + 28)) (I (m + 29))) (m + 30) (6 * n + i) (I (m + 28) i) (m + 29) i = I (m + 29) i := by rw [up2_b (by omega)]; exact st2_o' (by omega) (by omega)
    rw [s28, s29, st2_s (by omega), of_s]
    exact ih (i + 1) F (by omega) (by omega)
theorem M298 (hN : 2000 ≤ N) (hT : TI n T) (H : MT m T I) (a b c d : Int32) : Ok (f298 kad N Z m a b c d I) (fun r J => (bad4 a b c d → J = up2 I m 0 1) ∧ (¬ bad4 a b c d → (n = 5 → J = up2 I m 0 2) ∧ (n < 5 → r = Int32.ofNat n ∧ MT m (tAdd T n a b c d) J ∧ frMT m (up2 I m 0 0) J))) := by
  obtain ⟨⟨hn, hn5⟩, -, -, hd7⟩ := hT
  have fail1 : f298_b48 kad N Z m a b c d 0 I = some (0, up2 I m 0 1) := by
    unfold f298_b48 f298_b73
    rw [if_neg z00, M185_1, Option.bind_some, if_neg z00]
  unfold f298 f298_b47
  rw [M186, Option.bind_some]
  by_cases ha : bad a 1 500
  · rw [if_pos (show a < 1 ∨ 500 < a from ha), if_pos rfl, fail1]
    exact Ok.ret ⟨fun _ => rfl, fun h => absurd (Or.inl ha) h⟩
  rw [if_neg (show ¬ (a < 1 ∨ 500 < a) from ha), if_neg z10]
  dsimp only
  rw [M186, Option.bind_some]
  by_cases hb : bad b 0 100
  · rw [if_pos (show b < 0 ∨ 100 < b from hb), if_pos rfl, fail1]
    exact Ok.ret ⟨fun _ => rfl, fun h => absurd (Or.inr (Or.inl hb)) h⟩
  rw [if_neg (show ¬ (b < 0 ∨ 100 < b) from hb), if_neg z10]
  dsimp only
  rw [M186, Option.bind_some]
  by_cases hc : bad c 1 20
  · rw [if_pos (show c < 1 ∨ 20 < c from hc), if_pos rfl, fail1]
    exact Ok.ret ⟨fun _ => rfl, fun h => absurd (Or.inr (Or.inr (Or.inl hc))) h⟩
  rw [if_neg (show ¬ (c < 1 ∨ 20 < c) from hc), if_neg z10]
  dsimp only
  rw [M186, Option.bind_some]
  by_cases hd : bad d 0 500
  · rw [if_pos (show d < 0 ∨ 500 < d from hd), if_pos rfl, fail1]
    exact Ok.ret ⟨fun _ => rfl, fun h => absurd (Or.inr (Or.inr (Or.inr hd))) h⟩
  rw [if_neg (show ¬ (d < 0 ∨ 500 < d) from hd), if_neg z10]
  dsimp only
  have nb : ¬ bad4 a b c d := fun h => h.elim ha (fun h => h.elim hb (fun h => h.elim hc hd))
  have e0 : I m 60 = Int32.ofNat n := H.1.1.trans hn
  obtain ⟨s1, s2⟩ := five_lt hn5
  unfold f298_b48
  rw [if_pos z10]
  by_cases h5 : n < 5
  · rw [if_pos (show ¬ I m 60 = 5 from fun h => s2.mp (e0.symm.trans h) h5)]
    unfold f298_b73
    rw [M185_0, Option.bind_some, if_pos z10]
    dsimp only
    have H0 := H.th (v := 0)
    have f0 : frMT m (up2 I m 0 0) (up2 I m 0 0) := fun _ _ _ _ => rfl
    generalize hY : up2 I m 0 0 = Y at H0 f0
    have y60 : Y m 60 = Int32.ofNat n := H0.1.1.trans hn
    have st : ∀ (Q : AI) (b : Nat) (v : Int32) (k : Int32 → AI → Option (Int32 × AI)), ¬ b = m → Q m 60 = Int32.ofNat n → ((ixA 5 (Q m 60)).bind fun j => (wI Q b j v).bind fun Q2 => k 0 Q2) = k 0 (up2 Q b n v) := fun Q b v k hb hq => by rw [hq, ixA_of h5, Option.bind_some, wI_ok, Option.bind_some]
    rw [show Y m 60 = Int32.ofNat n from y60, ixA_of h5, Option.bind_some, wI_ok, Option.bind_some]
    rw [show up2 Y (m + 34) n a m 60 = Int32.ofNat n from by rw [up2_b (by omega), y60], ixA_of h5, Option.bind_some, wI_ok, Option.bind_some]
    rw [show up2 (up2 Y (m + 34) n a) (m + 35) n b m 60 = Int32.ofNat n from by rw [up2_b (by omega), up2_b (by omega), y60], ixA_of h5, Option.bind_some, wI_ok, Option.bind_some]
    rw [show up2 (up2 (up2 Y (m + 34) n a) (m + 35) n b) (m + 36) n c m 60 = Int32.ofNat n from by rw [up2_b (by omega), up2_b (by omega), up2_b (by omega), y60], ixA_of h5, Option.bind_some, wI_ok, Option.bind_some]
    rw [show up2 (up2 (up2 (up2 Y (m + 34) n a) (m + 35) n b) (m + 36) n c) (m + 37) n d m 60 = Int32.ofNat n from by rw [up2_b (by omega), up2_b (by omega), up2_b (by omega), up2_b (by omega), y60], ixA_of h5, Option.bind_some, wI_ok, Option.bind_some]
    rw [show up2 (up2 (up2 (up2 (up2 Y (m + 34) n a) (m + 35) n b) (m + 36) n c) (m + 37) n d) (m + 38) n (Int32.ofInt (-1)) m 60 = Int32.ofNat n from by rw [up2_b (by omega), up2_b (by omega), up2_b (by omega), up2_b (by omega), up2_b (by omega), y60], ixA_of h5, Option.bind_some, wI_ok, Option.bind_some]
    rw [show up2 (up2 (up2 (up2 (up2 Y (m + 34) n a) (m + 35) n b) (m + 36) n c) (m + 37) n d) (m + 38) n (Int32.ofInt (-1)) m 58 = T 9 1 from by rw [up2_b (by omega), up2_b (by omega), up2_b (by omega), up2_b (by omega), up2_b (by omega), H0.1.2.1]]
    rw [show up2 (up2 (up2 (up2 (up2 (up2 Y (m + 34) n a) (m + 35) n b) (m + 36) n c) (m + 37) n d) (m + 38) n (Int32.ofInt (-1))) (m + 31) n (T 9 1) m 60 = Int32.ofNat n from by rw [up2_b (by omega), up2_b (by omega), up2_b (by omega), up2_b (by omega), up2_b (by omega), up2_b (by omega), y60], ixA_of h5, Option.bind_some, wI_ok, Option.bind_some]
    rw [show up2 (up2 (up2 (up2 (up2 (up2 Y (m + 34) n a) (m + 35) n b) (m + 36) n c) (m + 37) n d) (m + 38) n (Int32.ofInt (-1))) (m + 31) n (T 9 1) m 59 = T 9 2 from by rw [up2_b (by omega), up2_b (by omega), up2_b (by omega), up2_b (by omega), up2_b (by omega), up2_b (by omega), H0.1.2.2]]
    have oo : ∀ q, ¬ q = m + 31 → ¬ q = m + 33 → ¬ q = m + 34 → ¬ q = m + 35 → ¬ q = m + 36 → ¬ q = m + 37 → ¬ q = m + 38 → up2 (up2 (up2 (up2 (up2 (up2 (up2 Y (m + 34) n a) (m + 35) n b) (m + 36) n c) (m + 37) n d) (m + 38) n (Int32.ofInt (-1))) (m + 31) n (T 9 1)) (m + 33) n (T 9 2) q = Y q := fun q h1 h2 h3 h4 h5 h6 h7 => by rw [up2_b h2, up2_b h1, up2_b h7, up2_b h6, up2_b h5, up2_b h4, up2_b h3]
    have ok : ∀ q k, ¬ k = n → up2 (up2 (up2 (up2 (up2 (up2 (up2 Y (m + 34) n a) (m + 35) n b) (m + 36) n c) (m + 37) n d) (m + 38) n (Int32.ofInt (-1))) (m + 31) n (T 9 1)) (m + 33) n (T 9 2) q k = Y q k := fun q k hk => by rw [up2_ne (fun hh => hk hh.2), up2_ne (fun hh => hk hh.2), up2_ne (fun hh => hk hh.2), up2_ne (fun hh => hk hh.2), up2_ne (fun hh => hk hh.2), up2_ne (fun hh => hk hh.2), up2_ne (fun hh => hk hh.2)]
    have o33 : up2 (up2 (up2 (up2 (up2 (up2 (up2 Y (m + 34) n a) (m + 35) n b) (m + 36) n c) (m + 37) n d) (m + 38) n (Int32.ofInt (-1))) (m + 31) n (T 9 1)) (m + 33) n (T 9 2) (m + 33) n = T 9 2 := up2_eq
    have o31 : up2 (up2 (up2 (up2 (up2 (up2 (up2 Y (m + 34) n a) (m + 35) n b) (m + 36) n c) (m + 37) n d) (m + 38) n (Int32.ofInt (-1))) (m + 31) n (T 9 1)) (m + 33) n (T 9 2) (m + 31) n = T 9 1 := by rw [up2_b (by omega), up2_eq]
    have o38 : up2 (up2 (up2 (up2 (up2 (up2 (up2 Y (m + 34) n a) (m + 35) n b) (m + 36) n c) (m + 37) n d) (m + 38) n (Int32.ofInt (-1))) (m + 31) n (T 9 1)) (m + 33) n (T 9 2) (m + 38) n = Int32.ofInt (-1) := by rw [up2_b (by omega), up2_b (by omega), up2_eq]
    have o37 : up2 (up2 (up2 (up2 (up2 (up2 (up2 Y (m + 34) n a) (m + 35) n b) (m + 36) n c) (m + 37) n d) (m + 38) n (Int32.ofInt (-1))) (m + 31) n (T 9 1)) (m + 33) n (T 9 2) (m + 37) n = d := by rw [up2_b (by omega), up2_b (by omega), up2_b (by omega), up2_eq]
    have o36 : up2 (up2 (up2 (up2 (up2 (up2 (up2 Y (m + 34) n a) (m + 35) n b) (m + 36) n c) (m + 37) n d) (m + 38) n (Int32.ofInt (-1))) (m + 31) n (T 9 1)) (m + 33) n (T 9 2) (m + 36) n = c := by rw [up2_b (by omega), up2_b (by omega), up2_b (by omega), up2_b (by omega), up2_eq]
    have o35 : up2 (up2 (up2 (up2 (up2 (up2 (up2 Y (m + 34) n a) (m + 35) n b) (m + 36) n c) (m + 37) n d) (m + 38) n (Int32.ofInt (-1))) (m + 31) n (T 9 1)) (m + 33) n (T 9 2) (m + 35) n = b := by rw [up2_b (by omega), up2_b (by omega), up2_b (by omega), up2_b (by omega), up2_b (by omega), up2_eq]
    have o34 : up2 (up2 (up2 (up2 (up2 (up2 (up2 Y (m + 34) n a) (m + 35) n b) (m + 36) n c) (m + 37) n d) (m + 38) n (Int32.ofInt (-1))) (m + 31) n (T 9 1)) (m + 33) n (T 9 2) (m + 34) n = a := by rw [up2_b (by omega), up2_b (by omega), up2_b (by omega), up2_b (by omega), up2_b (by omega), up2_b (by omega), up2_eq]
    generalize up2 (up2 (up2 (up2 (up2 (up2 (up2 Y (m + 34) n a) (m + 35) n b) (m + 36) n c) (m + 37) n d) (m + 38) n (Int32.ofInt (-1))) (m + 31) n (T 9 1)) (m + 33) n (T 9 2) = Q at oo ok o33 o31 o38 o37 o36 o35 o34
    have hl := M298_l (kad := kad) (N := N) (Z := Z) (I := Q) (m := m) h5 (by rw [oo m (by omega) (by omega) (by omega) (by omega) (by omega) (by omega) (by omega), y60]) 6 0 N (by omega) (by omega)
    rw [st2_0, show Int32.ofNat 0 = 0 from rfl] at hl
    rw [hl]
    have r28 : ∀ k, k < 6 → Q (m + 28) k = T 30 k := fun k hk => by rw [oo _ (by omega) (by omega) (by omega) (by omega) (by omega) (by omega) (by omega)]; exact (H0.2.1 k hk).1
    have r29 : ∀ k, k < 6 → Q (m + 29) k = T 31 k := fun k hk => by rw [oo _ (by omega) (by omega) (by omega) (by omega) (by omega) (by omega) (by omega)]; exact (H0.2.1 k hk).2
    have pb : ∀ q, ¬ q = m → ¬ q = m + 30 → ¬ q = m + 32 → up2 (up2 (up2 (st2 Q (m + 30) (m + 32) (6 * n) 6 (Q (m + 28)) (Q (m + 29))) m 58 0) m 59 0) m 60 (Int32.ofNat (n + 1)) q = Q q := fun q h0 h1 h2 => by rw [up2_b h0, up2_b h0, up2_b h0, st2_o h1 h2]
    have pm : ∀ j, ¬ j = 58 → ¬ j = 59 → ¬ j = 60 → up2 (up2 (up2 (st2 Q (m + 30) (m + 32) (6 * n) 6 (Q (m + 28)) (Q (m + 29))) m 58 0) m 59 0) m 60 (Int32.ofNat (n + 1)) m j = Y m j := fun j h0 h1 h2 => by rw [up2_ne (fun hh => h2 hh.2), up2_ne (fun hh => h1 hh.2), up2_ne (fun hh => h0 hh.2), st2_o (by omega) (by omega), oo m (by omega) (by omega) (by omega) (by omega) (by omega) (by omega) (by omega)]
    have pr : ∀ k, k < 30 → up2 (up2 (up2 (st2 Q (m + 30) (m + 32) (6 * n) 6 (Q (m + 28)) (Q (m + 29))) m 58 0) m 59 0) m 60 (Int32.ofNat (n + 1)) (m + 30) k = (if 6 * n ≤ k ∧ k < 6 * n + 6 then T 30 (k - 6 * n) else Y (m + 30) k) ∧ up2 (up2 (up2 (st2 Q (m + 30) (m + 32) (6 * n) 6 (Q (m + 28)) (Q (m + 29))) m 58 0) m 59 0) m 60 (Int32.ofNat (n + 1)) (m + 32) k = (if 6 * n ≤ k ∧ k < 6 * n + 6 then T 31 (k - 6 * n) else Y (m + 32) k) := fun k hk => by
      rw [up2_b (by omega), up2_b (by omega), up2_b (by omega), up2_b (by omega), up2_b (by omega), up2_b (by omega)]
      by_cases hh : 6 * n ≤ k ∧ k < 6 * n + 6
      · rw [if_pos hh, if_pos hh, st2_b hh, st2_e (by omega) hh, r28 _ (by omega), r29 _ (by omega)]
        exact ⟨rfl, rfl⟩
      · rw [if_neg hh, if_neg hh, st2_out hh, st2_out hh, oo _ (by omega) (by omega) (by omega) (by omega) (by omega) (by omega) (by omega), oo _ (by omega) (by omega) (by omega) (by omega) (by omega) (by omega) (by omega)]
        exact ⟨rfl, rfl⟩
    have p58 : up2 (up2 (up2 (st2 Q (m + 30) (m + 32) (6 * n) 6 (Q (m + 28)) (Q (m + 29))) m 58 0) m 59 0) m 60 (Int32.ofNat (n + 1)) m 58 = 0 := by rw [up2_ne (by omega), up2_ne (by omega), up2_eq]
    have p59 : up2 (up2 (up2 (st2 Q (m + 30) (m + 32) (6 * n) 6 (Q (m + 28)) (Q (m + 29))) m 58 0) m 59 0) m 60 (Int32.ofNat (n + 1)) m 59 = 0 := by rw [up2_ne (by omega), up2_eq]
    have p60 : up2 (up2 (up2 (st2 Q (m + 30) (m + 32) (6 * n) 6 (Q (m + 28)) (Q (m + 29))) m 58 0) m 59 0) m 60 (Int32.ofNat (n + 1)) m 60 = Int32.ofNat (n + 1) := up2_eq
    generalize up2 (up2 (up2 (st2 Q (m + 30) (m + 32) (6 * n) 6 (Q (m + 28)) (Q (m + 29))) m 58 0) m 59 0) m 60 (Int32.ofNat (n + 1)) = P at pb pm pr p58 p59 p60
    refine Ok.ret ⟨fun hh => absurd hh nb, fun _ => ⟨fun hh => by omega, fun _ => ⟨rfl, ⟨⟨?_, ?_, ?_⟩, fun k hk => ⟨?_, ?_⟩, fun t ht => ?_⟩, fun q j h1 h2 => ?_⟩⟩⟩
    · rw [p60, add_9, if_pos rfl]
    · rw [p58, add_9, if_neg (by decide)]
    · rw [p59, add_9, if_neg (by decide)]
    · rw [pb _ (by omega) (by omega) (by omega), add_o (by omega)]; exact r28 k hk
    · rw [pb _ (by omega) (by omega) (by omega), add_o (by omega)]; exact r29 k hk
    · obtain ⟨⟨a1, a2, a3, a4⟩, ⟨b1, b2, b3, b4⟩, c1⟩ := H0.2.2 t ht
      unfold MTt
      rw [add_1, add_2, add_3, add_4, add_5, add_6, add_o (q := 7) (by omega), add_o (q := 8) (by omega), add_10 (by omega) (by omega), add_20 (by omega) (by omega)]
      rw [pb (m + 31) (by omega) (by omega) (by omega), pb (m + 33) (by omega) (by omega) (by omega), pb (m + 34) (by omega) (by omega) (by omega), pb (m + 35) (by omega) (by omega) (by omega), pb (m + 36) (by omega) (by omega) (by omega), pb (m + 37) (by omega) (by omega) (by omega), pb (m + 38) (by omega) (by omega) (by omega), pb (m + 39) (by omega) (by omega) (by omega), oo (m + 39) (by omega) (by omega) (by omega) (by omega) (by omega) (by omega) (by omega)]
      have e9 : nT (tAdd T n a b c d 9 0) = n + 1 := by rw [add_9, if_pos rfl]; exact nT_of (by omega)
      by_cases h : t = n
      · rw [if_pos h, if_pos h, if_pos h, if_pos h, if_pos h, if_pos h, if_pos h, if_pos h]
        subst h
        refine ⟨⟨o31, o33, fun _ => ?_, a4⟩, ⟨o34, o35, o36, o37⟩, fun k hk => ⟨?_, ?_⟩⟩
        · rw [o38, (hd7 t ht).2.2.1.2.2.2 (Nat.le_refl _)]
        · rw [(pr _ (by omega)).1, if_pos (by omega), show 6 * t + k - 6 * t = k by omega]
        · rw [(pr _ (by omega)).2, if_pos (by omega), show 6 * t + k - 6 * t = k by omega]
      · rw [if_neg h, if_neg h, if_neg h, if_neg h, if_neg h, if_neg h, if_neg h, if_neg h]
        rw [ok _ _ h, ok _ _ h, ok _ _ h, ok _ _ h, ok _ _ h, ok _ _ h, ok _ _ h]
        refine ⟨⟨a1, a2, fun hh => ?_, a4⟩, ⟨b1, b2, b3, b4⟩, fun k hk => ⟨?_, ?_⟩⟩
        · rw [e9] at hh
          exact a3 (by rw [hn, nT_of (by omega)]; omega)
        · rw [(pr _ (by omega)).1, if_neg (by omega)]; exact (c1 k hk).1
        · rw [(pr _ (by omega)).2, if_neg (by omega)]; exact (c1 k hk).2
    · show P q j = Y q j
      by_cases hq : q = m
      · subst hq
        exact pm j (fun hh => h1 ⟨rfl, Or.inl hh⟩) (fun hh => h1 ⟨rfl, Or.inr (Or.inl hh)⟩) (fun hh => h1 ⟨rfl, Or.inr (Or.inr hh)⟩)
      · rw [pb q hq (by omega) (by omega), oo q (by omega) (by omega) (by omega) (by omega) (by omega) (by omega) (by omega)]
  · rw [if_neg (show ¬ ¬ I m 60 = 5 from fun h => h (e0.trans (s2.mpr h5)))]
    unfold f298_b73
    rw [M185_2, Option.bind_some, if_neg z00]
    exact Ok.ret ⟨fun h => absurd h nb, fun _ => ⟨fun _ => rfl, fun h => absurd h h5⟩⟩
end TM
