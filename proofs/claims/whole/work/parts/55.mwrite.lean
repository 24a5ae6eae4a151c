/-! the model makes the next write of a call; it makes a step -/
theorem sSum_n {f : Nat → Int32} {B : Nat} (h : ∀ k, k < B → wd (f k)) : ∀ (m i a : Nat), i + m ≤ B → ∃ a', sSum f m i (Int32.ofNat a) = Int32.ofNat a' ∧ a' ≤ a + 65535 * m := by
  intro m
  induction m with
  | zero => intro i a _; exact ⟨a, rfl, by omega⟩
  | succ m ih =>
    intro i a hi
    have hf := h i (by omega)
    have l := (wd_n hf).2.1
    unfold sSum
    rw [← of_nT (wd_nn hf), eA]
    obtain ⟨a', e1, e2⟩ := ih (i + 1) (a + nT (f i)) (by omega)
    exact ⟨a', e1, by omega⟩
theorem sSum_cong {f g : Nat → Int32} {B : Nat} (h : ∀ k, k < B → f k = g k) : ∀ (m i : Nat) (acc : Int32), i + m ≤ B → sSum f m i acc = sSum g m i acc := by
  intro m
  induction m with
  | zero => intro i acc _; rfl
  | succ m ih =>
    intro i acc hi
    unfold sSum
    rw [h i (by omega)]
    exact ih (i + 1) _ (by omega)
/-- what stands behind a write -/
theorem MR.wb {m s : Nat} {I0 I X J Y : AI} (H : MR 0 m s I0 I X) (h9 : ∀ k, k < 256 → J (m + 24) k = Y 9 k) (h8 : J m 52 = Y 8 1) (h46 : J m 46 = sLeft Y) (h47 : ¬ Y 3 0 = 0 → J m 47 = Y 3 0) (h2 : ∀ k, k < 4 → J (m + 16) k = Y 2 k) (h27 : J m 27 = Y 1 3) (hJ : ∀ b, ¬ b = m → ¬ b = m + 16 → ¬ b = m + 24 → J b = I b) (hm : ∀ j, ¬ j = 27 → ¬ j = 46 → ¬ j = 52 → J m j = I m j) (hY : ∀ c, ¬ c = 1 → ¬ c = 2 → ¬ c = 3 → ¬ c = 8 → ¬ c = 9 → ¬ c = 20 → ¬ c = 28 → Y c = X c) (hY1 : ∀ k, ¬ k = 3 → Y 1 k = X 1 k) (hY20 : Y 20 1 = X 20 1) (h30 : Y 3 0 = X 3 0 ∨ Y 3 0 = 0) : MR 0 m s I0 J Y := by
  obtain ⟨b1, ⟨b2, b3⟩, b4, b5⟩ := H
  refine ⟨fun d j hd hj => ?_, ⟨h46, h47⟩, fun hs => ?_, fun b j hb => ?_⟩
  · have z : nT (Y 3 0) ≤ nT (X 3 0) := by
      rcases h30 with h | h
      · rw [h]; exact Nat.le_refl _
      · rw [h, show nT (0 : Int32) = 0 from by decide]
        exact Nat.zero_le _
    have hd2 := hd
    unfold mC at hd2
    have e10 : Y 10 = X 10 := hY 10 (by decide) (by decide) (by decide) (by decide) (by decide) (by decide) (by decide)
    have e112 : Y 1 12 = X 1 12 := hY1 12 (by decide)
    rcases hd2 with rfl | rfl | rfl | rfl | rfl | rfl | rfl | rfl | rfl | rfl | rfl | rfl
    · have hj : j < 14 := hj
      show J m (mF j) = Y 1 j
      by_cases e : j = 3
      · subst e; exact h27
      · rw [hY1 j e]
        have t := mF_rng ⟨j, hj⟩
        have t2 : ¬ mF j = 27 := fun hh => e (mF_inj ⟨j, hj⟩ ⟨3, by decide⟩ (show mF j = mF 3 from hh))
        rw [hm _ t2 t.1 t.2.2.1]
        exact b1 1 j hd hj
    · exact h2 j hj
    · have hj : j < nT (Y 3 0) ∧ j < 3 := hj
      show J (m + 22) j = Y 4 j
      rw [hJ _ (by omega) (by omega) (by omega), hY 4 (by decide) (by decide) (by decide) (by decide) (by decide) (by decide) (by decide)]
      exact b1 4 j hd (show j < nT (X 3 0) ∧ j < 3 by omega)
    · have hj : j < 8 * nT (Y 3 0) ∧ j < 24 := hj
      show J (m + 23) j = Y 5 j
      rw [hJ _ (by omega) (by omega) (by omega), hY 5 (by decide) (by decide) (by decide) (by decide) (by decide) (by decide) (by decide)]
      exact b1 5 j hd (show j < 8 * nT (X 3 0) ∧ j < 24 by omega)
    · show J (m + 15) j = Y 6 j
      rw [hJ _ (by omega) (by omega) (by omega), hY 6 (by decide) (by decide) (by decide) (by decide) (by decide) (by decide) (by decide)]
      have hj : j < 256 := hj
      exact b1 6 j hd hj
    · have hj : j < nT (Y 1 12) ∧ j < 60 := hj
      rw [e112] at hj
      show J (m + 17) j = Y 7 j
      rw [hJ _ (by omega) (by omega) (by omega), hY 7 (by decide) (by decide) (by decide) (by decide) (by decide) (by decide) (by decide)]
      exact b1 7 j hd hj
    · obtain rfl : j = 1 := hj
      exact h8
    · exact h9 j hj
    · have hj : j = 0 := hj
      show J m 43 = Y 10 j
      rw [hm 43 (by decide) (by decide) (by decide), e10]
      exact b1 10 j hd hj
    · have hj : j < nT (Y 10 0) ∧ j < 20 := hj
      rw [e10] at hj
      show J (m + 19) j = Y 11 j
      rw [hJ _ (by omega) (by omega) (by omega), hY 11 (by decide) (by decide) (by decide) (by decide) (by decide) (by decide) (by decide)]
      exact b1 11 j hd hj
    · have hj : j < nT (Y 10 0) ∧ j < 20 := hj
      rw [e10] at hj
      show J (m + 18) j = Y 12 j
      rw [hJ _ (by omega) (by omega) (by omega), hY 12 (by decide) (by decide) (by decide) (by decide) (by decide) (by decide) (by decide)]
      exact b1 12 j hd hj
    · exact absurd hj.1 (by decide)
  · unfold n1 n2
    rw [hY20, hY 26 (by decide) (by decide) (by decide) (by decide) (by decide) (by decide) (by decide), hJ _ (by omega) (by omega) (by omega), hJ _ (by omega) (by omega) (by omega)]
    exact b4 hs
  · have h16 : ¬ (b = m + 16 ∨ b = m + 24) := fun h => hb (Or.inr (Or.inl (by omega)))
    by_cases e : b = m
    · subst e
      rw [hm j (fun h => hb (Or.inl ⟨rfl, by omega⟩)) (fun h => hb (Or.inl ⟨rfl, by omega⟩)) (fun h => hb (Or.inl ⟨rfl, by omega⟩))]
      exact b5 b j hb
    · rw [hJ b e (fun h => h16 (Or.inl h)) (fun h => h16 (Or.inr h))]
      exact b5 b j hb
section MWB
variable {kad : Nat → Nat} {N : Nat} {Z : AZ} {m s : Nat} {I0 I X : AI}
theorem M251_w {n : Nat} {I : AI} (hn : n ≤ 3) (hc : I m 47 = Int32.ofNat n) (g : Nat → Int32) : ∀ (q i F : Nat) (acc : Int32), i + q = 8 * n → q < F → f251_b82 kad N Z F m acc (Int32.ofNat i) (hd I (m + 24) 8 g) = some ((), hd I (m + 24) 8 (fun k => if k = 4 then sSum (I (m + 23)) q i acc - sSum (I (m + 23)) q i acc / (65536 : Int32) * (65536 : Int32) else g k)) := by
  intro q
  induction q with
  | zero =>
    intro i F acc hi hF
    obtain ⟨F, rfl⟩ : ∃ G, F = G + 1 := ⟨F - 1, by omega⟩
    unfold f251_b82 sSum
    rw [hd_b (by omega), hc, show (8 : Int32) * Int32.ofNat n = Int32.ofNat (8 * n) from eM 8 n, if_pos ((of_le (by omega) (by omega)).mpr (by omega)), show (4 : Int32) = Int32.ofNat 4 from rfl, ixA_of (by decide), Option.bind_some]
    unfold wI
    rw [Option.bind_some, hd_up (by decide)]
  | succ q ih =>
    intro i F acc hi hF
    obtain ⟨F, rfl⟩ : ∃ G, F = G + 1 := ⟨F - 1, by omega⟩
    unfold f251_b82
    rw [show sSum (I (m + 23)) (q + 1) i acc = sSum (I (m + 23)) q (i + 1) (acc + I (m + 23) i) from rfl, hd_b (by omega), hc, show (8 : Int32) * Int32.ofNat n = Int32.ofNat (8 * n) from eM 8 n, if_neg (fun h => absurd ((of_le (by omega) (by omega)).mp h) (by omega)), ixA_of (by omega), Option.bind_some, of_s, hd_b (show ¬ m + 23 = m + 24 by omega)]
    exact ih (i + 1) F _ (by omega) (by omega)
theorem M251_n (hN : 2000 ≤ N) {n : Nat} {I : AI} (hn : n ≤ 3) (hc : I m 47 = Int32.ofNat n) : ∀ (q i F : Nat) (acc : Int32) (g : Nat → Int32), i + q = n → q < F → f251_b43 kad N Z F m acc (Int32.ofNat i) (hd I (m + 24) 8 g) = some ((), hd I (m + 24) 8 (fun k => if k = 4 then sSum (I (m + 23)) (8 * n) 0 (sSum (I (m + 22)) q i acc) - sSum (I (m + 23)) (8 * n) 0 (sSum (I (m + 22)) q i acc) / (65536 : Int32) * (65536 : Int32) else if i < k ∧ k ≤ n then I (m + 22) (k - 1) else g k)) := by
  intro q
  induction q with
  | zero =>
    intro i F acc g hi hF
    obtain ⟨F, rfl⟩ : ∃ G, F = G + 1 := ⟨F - 1, by omega⟩
    unfold f251_b43
    rw [show sSum (I (m + 22)) 0 i acc = acc from rfl, hd_b (by omega), hc, if_pos ((of_le (by omega) (by omega)).mpr (by omega)), show (0 : Int32) = Int32.ofNat 0 from rfl, M251_w hn hc g (8 * n) 0 N acc (by omega) (by omega)]
    congr 2
    funext c k
    unfold hd
    split
    · dsimp only
      split
      · rfl
      · rw [if_neg (by omega)]
    · rfl
  | succ q ih =>
    intro i F acc g hi hF
    obtain ⟨F, rfl⟩ : ∃ G, F = G + 1 := ⟨F - 1, by omega⟩
    unfold f251_b43
    rw [show sSum (I (m + 22)) (q + 1) i acc = sSum (I (m + 22)) q (i + 1) (acc + I (m + 22) i) from rfl, hd_b (by omega), hc, if_neg (fun h => absurd ((of_le (by omega) (by omega)).mp h) (by omega)), ixA_of (by omega), Option.bind_some, show (1 : Int32) + Int32.ofNat i = Int32.ofNat (1 + i) from eA 1 i, ixA_of (by omega), Option.bind_some, hd_b (show ¬ m + 22 = m + 24 by omega)]
    unfold wI
    rw [Option.bind_some, Option.bind_some, hd_up (by omega), hd_b (show ¬ m + 22 = m + 24 by omega), of_s]
    have h := ih (i + 1) F (acc + I (m + 22) i) (fun k => if k = 1 + i then I (m + 22) i else g k) (by omega) (by omega)
    show f251_b43 kad N Z F m (acc + I (m + 22) i) _ _ = _
    rw [h]
    congr 2
    funext c k
    unfold hd
    split
    · dsimp only
      split
      · rfl
      · by_cases h1 : i + 1 < k ∧ k ≤ n
        · rw [if_pos h1, if_pos (by omega)]
        · rw [if_neg h1]
          by_cases h2 : k = 1 + i
          · rw [if_pos h2, if_pos (by omega), h2]
            congr 1
            omega
          · rw [if_neg h2, if_neg (by omega)]
    · rfl
theorem M251_z {I : AI} (isF : Int32) : ∀ (q i F : Nat), i + q = 8 → q < F → f251_b2 kad N Z F m isF (Int32.ofNat i) (hd I (m + 24) i (fun _ => 0)) = f251_b2 kad N Z 1 m isF (8 : Int32) (hd I (m + 24) 8 (fun _ => 0)) := by
  intro q
  induction q with
  | zero =>
    intro i F hi hF
    obtain ⟨F, rfl⟩ : ∃ G, F = G + 1 := ⟨F - 1, by omega⟩
    obtain rfl : i = 8 := by omega
    unfold f251_b2
    rw [if_pos (show (8 : Int32) ≤ Int32.ofNat 8 from by decide), if_pos (show (8 : Int32) ≤ 8 from by decide)]
  | succ q ih =>
    intro i F hi hF
    obtain ⟨F, rfl⟩ : ∃ G, F = G + 1 := ⟨F - 1, by omega⟩
    rw [f251_b2, if_neg (show ¬ (8 : Int32) ≤ Int32.ofNat i from fun h => absurd ((of_le (m := 8) (by decide) (by omega)).mp h) (by omega)), ixA_of (by omega), Option.bind_some, of_s]
    have e := hd_s (I := I) (b := m + 24) (n := i) (f := fun _ => 0)
    unfold wI
    rw [Option.bind_some, e]
    exact ih (i + 1) F (by omega) (by omega)
theorem M251_0 (hN : 2000 ≤ N) {I : AI} : f251 kad N Z m 0 I = some ((), hd I (m + 24) 8 (fun _ => 0)) := by
  unfold f251
  have e := M251_z (kad := kad) (N := N) (Z := Z) (m := m) (I := I) 0 8 0 N rfl (by omega)
  rw [hd_0] at e
  rw [show (0 : Int32) = Int32.ofNat 0 from rfl] at e ⊢
  rw [e, f251_b2, if_pos (show (8 : Int32) ≤ 8 from by decide), if_neg (show ¬ ¬ Int32.ofNat 0 = 0 from fun h => h rfl)]
theorem M251_1 (hN : 2000 ≤ N) {n : Nat} {I : AI} (hn : n ≤ 3) (hc : I m 47 = Int32.ofNat n) (hp : ∀ k, k < n → wd (I (m + 22) k)) (hq : ∀ k, k < 8 * n → wd (I (m + 23) k)) : f251 kad N Z m 1 I = some ((), hd I (m + 24) 8 (sHd n (I (m + 22)) (I (m + 23)))) := by
  unfold f251
  have e := M251_z (kad := kad) (N := N) (Z := Z) (m := m) (I := I) 1 8 0 N rfl (by omega)
  rw [hd_0] at e
  rw [show (0 : Int32) = Int32.ofNat 0 from rfl, e, f251_b2, if_pos (show (8 : Int32) ≤ 8 from by decide), if_pos z10, show ixA 256 (0 : Int32) = some 0 from by decide, Option.bind_some]
  unfold wI
  rw [Option.bind_some, hd_b (show ¬ m = m + 24 by omega), hc, hd_up (by decide), show (0 : Int32) = Int32.ofNat 0 from rfl, M251_n hN hn hc n 0 N _ _ (by omega) (by omega)]
  congr 2
  funext c k
  unfold hd sHd
  split
  · dsimp only
    by_cases h4 : k = 4
    · rw [if_pos h4, if_pos h4]
      obtain ⟨a1, e1, l1⟩ := sSum_n hp n 0 n (by omega)
      rw [e1]
      obtain ⟨a2, e2, l2⟩ := sSum_n hq (8 * n) 0 a1 (by omega)
      rw [e2, show Int32.ofNat a2 - Int32.ofNat a2 / (65536 : Int32) * (65536 : Int32) = Int32.ofNat (a2 % 65536) from eR (n := 65536) (by omega) (by decide) (by decide)]
      have := and_m (x := Int32.ofNat a2) (mm := 65535) (k := 16) (of_nn (by omega)) (by decide) (by decide)
      rw [nT_of (by omega)] at this
      exact this.symm
    · rw [if_neg h4, if_neg h4]
      by_cases h0 : k = 0
      · rw [if_neg (by omega), if_pos h0, if_pos h0]
      · simp only [if_neg h0]
        by_cases hk : k ≤ n
        · rw [if_pos (show 0 < k ∧ k ≤ n by omega), if_pos hk]
        · rw [if_neg (show ¬ (0 < k ∧ k ≤ n) by omega), if_neg hk]
          rfl
  · rfl
theorem M250_c {a b : Nat} (ha : a + 8 ≤ 24) (hb : b + 8 ≤ 256) {w o : Int32} (hw : w * 1 = w) (hi : ∀ p, p < 8 → (8 : Int32) * w + Int32.ofNat p = Int32.ofNat (a + p)) (ho : ∀ p, p < 8 → (8 : Int32) * o + Int32.ofNat p = Int32.ofNat (b + p)) {I : AI} : ∀ (q p F : Nat), p + q = 8 → q < F → f250_b119 kad N Z F m w o (Int32.ofNat p) (cpI I (m + 23) (m + 24) a b p) = f250_b156 kad N Z m (cpI I (m + 23) (m + 24) a b 8) := by
  intro q
  induction q with
  | zero =>
    intro p F hp hF
    obtain ⟨F, rfl⟩ : ∃ G, F = G + 1 := ⟨F - 1, by omega⟩
    obtain rfl : p = 8 := by omega
    unfold f250_b119
    rw [if_pos (show (8 : Int32) ≤ Int32.ofNat 8 from by decide)]
  | succ q ih =>
    intro p F hp hF
    obtain ⟨F, rfl⟩ : ∃ G, F = G + 1 := ⟨F - 1, by omega⟩
    rw [f250_b119, if_neg (show ¬ (8 : Int32) ≤ Int32.ofNat p from fun h => absurd ((of_le (m := 8) (by decide) (by omega)).mp h) (by omega)), hi p (by omega), ho p (by omega), ixA_of (by omega), Option.bind_some, ixA_of (by omega), Option.bind_some, of_s]
    unfold wI
    rw [Option.bind_some, show cpI I (m + 23) (m + 24) a b p (m + 23) (a + p) = I (m + 23) (a + p) from by rw [cpI_b (by omega)], cp_s]
    exact ih (p + 1) F (by omega) (by omega)
/-- the write's end -/
theorem M250_e {n d b : Nat} {f : Nat → Int32} {J : AI} (H : MR 0 m s I0 I X) (hn1 : 1 ≤ n) (hn3 : n ≤ 3) (h30 : X 3 0 = Int32.ofNat n) (h31 : X 3 1 = Int32.ofNat d) (hd : d ≤ 2 * n + 1) (h9 : ∀ k, k < 256 → J (m + 24) k = sWBl b f X 9 k) (hJ : ∀ c, ¬ c = m → ¬ c = m + 24 → J c = I c) (hm : ∀ j, ¬ j = 46 → ¬ j = 52 → J m j = I m j) (h46 : J m 46 = Int32.ofNat (2 * n + 1 - d)) (h52 : J m 52 = I m 52 + 1) : Ok (f250_b156 kad N Z m J) (fun _ J => MR 0 m s I0 J (sDone (sWBl b f X))) := by
  have ix3 : ixA 4 (3 : Int32) = some 3 := by decide
  have e81 : I m 52 = X 8 1 := H.1 8 1 (by unfold mC; omega) rfl
  have y3 : sWBl b f X 3 = X 3 := sWBl_o (by decide)
  have y8 : sWBl b f X 8 1 = X 8 1 + 1 := by
    unfold sWBl
    rw [if_neg (by decide), if_neg (by decide), if_neg (by omega), if_pos ⟨rfl, rfl⟩]
  have y20 : sWBl b f X 20 1 = X 20 1 := by
    unfold sWBl
    rw [if_neg (by decide), if_neg (by decide), if_neg (by omega), if_neg (by decide)]
  have yo : ∀ c, ¬ c = 8 → ¬ c = 9 → ¬ c = 20 → ¬ c = 28 → sWBl b f X c = X c := fun c c1 c2 c3 c4 => sWBl_o ⟨c3, c4, c2, c1⟩
  have en : nT (X 3 0) = n := by rw [h30]; exact nT_of (by omega)
  generalize hYY : sWBl b f X = Y at h9 y3 y8 y20 yo
  have y31 : Y 3 1 + 1 = Int32.ofNat (d + 1) := by rw [y3, h31, of_s]
  have eL : sLeft (up2 Y 3 1 (Y 3 1 + 1)) = Int32.ofNat (2 * n + 1 - d) := by
    unfold sLeft
    rw [up2_ne (by decide), up2_eq, y31, y3, h30, if_neg (of_nz (by omega) (by omega)), show (2 : Int32) * Int32.ofNat n = Int32.ofNat (2 * n) from eM 2 n, show Int32.ofNat (2 * n) + (2 : Int32) = Int32.ofNat (2 * n + 2) from eA _ 2]
    have : Int32.ofNat (2 * n + 2) = Int32.ofNat (2 * n + 1 - d) + Int32.ofNat (d + 1) := by
      rw [eA]; congr 1; omega
    rw [this]
    grind
  unfold f250_b156 f250_b180 sDone
  dsimp only
  rw [eL]
  by_cases hl : d = 2 * n + 1
  · have ez : Int32.ofNat (2 * n + 1 - d) = 0 := by rw [show 2 * n + 1 - d = 0 by omega]; rfl
    rw [if_neg (show ¬ ¬ J m 46 = 0 from fun h => h (h46.trans ez)), if_pos ez, ix3, Option.bind_some]
    refine Ok.w (Ok.w (Ok.ret ?_))
    have e27 : up2 J (m + 16) 3 0 m 27 = X 1 3 := by
      rw [up2_b (by omega), hm 27 (by decide) (by decide)]
      exact H.r1 (k := 3) (by decide)
    rw [e27]
    have g : ∀ c k, ¬ c = 1 → sGo (up2 (up2 (up2 (up2 Y 3 1 (Y 3 1 + 1)) 3 0 0) 3 1 0) 2 3 0) c k = up2 (up2 (up2 (up2 Y 3 1 (Y 3 1 + 1)) 3 0 0) 3 1 0) 2 3 0 c k := fun c k hc => by
      unfold sGo
      rw [up2_b hc]
    have g2 : ∀ c, ¬ c = 2 → ¬ c = 3 → up2 (up2 (up2 (up2 Y 3 1 (Y 3 1 + 1)) 3 0 0) 3 1 0) 2 3 0 c = Y c := fun c c2 c3 => by rw [up2_b c2, up2_b c3, up2_b c3, up2_b c3]
    have g13 : sGo (up2 (up2 (up2 (up2 Y 3 1 (Y 3 1 + 1)) 3 0 0) 3 1 0) 2 3 0) 1 = up2 Y 1 3 (X 1 3 + 2) 1 := by
      unfold sGo
      rw [g2 1 (by decide) (by decide), yo 1 (by decide) (by decide) (by decide) (by decide)]
      funext k
      by_cases e : k = 3
      · subst e; rw [up2_eq, up2_eq]
      · rw [up2_ne (fun h => e h.2), g2 1 (by decide) (by decide), up2_ne (fun h => e h.2)]
    have g30 : sGo (up2 (up2 (up2 (up2 Y 3 1 (Y 3 1 + 1)) 3 0 0) 3 1 0) 2 3 0) 3 0 = 0 := by rw [g 3 0 (by decide), up2_b (by decide), up2_ne (by decide), up2_eq]
    refine H.wb (fun k hk => ?_) ?_ ?_ (fun h => absurd g30 h) (fun k hk => ?_) ?_ (fun c c1 c2 c3 => ?_) (fun j j1 j2 j3 => ?_) (fun c c1 c2 c3 c8 c9 c20 c28 => ?_) (fun k hk => ?_) ?_ (Or.inr g30)
    · rw [up2_b (by omega), up2_b (by omega), g 9 k (by decide), g2 9 (by decide) (by decide)]
      exact h9 k hk
    · rw [up2_ne (by omega), up2_b (by omega), h52, g 8 1 (by decide), g2 8 (by decide) (by decide), y8, e81]
    · rw [up2_ne (by omega), up2_b (by omega), h46, ez]
      unfold sLeft
      rw [g30, if_pos rfl]
    · rw [up2_b (by omega), g 2 k (by decide)]
      by_cases e : k = 3
      · subst e; rw [up2_eq, up2_eq]
      · rw [up2_ne (fun h => e h.2), up2_ne (fun h => e h.2), up2_b (by decide), up2_b (by decide), up2_b (by decide), hJ _ (by omega) (by omega), yo 2 (by decide) (by decide) (by decide) (by decide)]
        exact H.r2 hk
    · rw [up2_eq, g13, up2_eq]
    · rw [up2_b c1, up2_b c2]
      exact hJ c c1 c3
    · rw [up2_ne (fun h => j1 h.2), up2_b (by omega)]
      exact hm j j2 j3
    · funext k
      rw [g c k c1, g2 c c2 c3, yo c c8 c9 c20 c28]
    · rw [g13, up2_ne (fun h => hk h.2), yo 1 (by decide) (by decide) (by decide) (by decide)]
    · rw [g 20 1 (by decide), g2 20 (by decide) (by decide)]
      exact y20
  · have ez : ¬ Int32.ofNat (2 * n + 1 - d) = 0 := of_nz (by omega) (by omega)
    rw [if_pos (show ¬ J m 46 = 0 from fun h => ez (h46.symm.trans h)), if_neg ez]
    refine Ok.ret ?_
    have g2 : ∀ c, ¬ c = 3 → up2 Y 3 1 (Y 3 1 + 1) c = Y c := fun c c3 => up2_b c3
    have g30 : up2 Y 3 1 (Y 3 1 + 1) 3 0 = X 3 0 := by rw [up2_ne (by decide), y3]
    refine H.wb (fun k hk => ?_) ?_ ?_ (fun _ => ?_) (fun k hk => ?_) ?_ (fun c c1 c2 c3 => hJ c c1 c3) (fun j j1 j2 j3 => hm j j2 j3) (fun c c1 c2 c3 c8 c9 c20 c28 => ?_) (fun k hk => ?_) ?_ (Or.inl g30)
    · rw [g2 9 (by decide)]
      exact h9 k hk
    · rw [h52, g2 8 (by decide), y8, e81]
    · rw [h46, eL]
    · rw [g30, hm 47 (by decide) (by decide)]
      exact H.2.1.2 (by rw [h30]; exact of_nz (by omega) (by omega))
    · rw [g2 2 (by decide), hJ _ (by omega) (by omega), yo 2 (by decide) (by decide) (by decide) (by decide)]
      exact H.r2 hk
    · rw [g2 1 (by decide), yo 1 (by decide) (by decide) (by decide) (by decide), hm 27 (by decide) (by decide)]
      exact H.r1 (k := 3) (by decide)
    · rw [g2 c c3, yo c c8 c9 c20 c28]
    · rw [g2 1 (by decide), yo 1 (by decide) (by decide) (by decide) (by decide)]
    · rw [g2 20 (by decide)]
      exact y20
end MWB
