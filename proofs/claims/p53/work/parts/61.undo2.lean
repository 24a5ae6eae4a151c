/-! what a step notes takes it back -/
def UD (u : Nat) (X B : AI) : Prop := ((B 21 = X 1 ∧ B 22 = X 2 ∧ B 23 = X 3) ∧ (B 24 = X 4 ∧ B 25 = X 5) ∧ (B 10 = X 10 ∧ B 11 = X 11 ∧ B 12 = X 12)) ∧ (∃ w, w ≤ u ∧ nw w B ∧ sUM w (B 26) (B 27) (B 6) = X 6) ∧ ((B 20 4 = Int32.ofInt (-1) ∧ B 9 = X 9 ∧ B 8 1 = X 8 1) ∨ ∃ b, b < 32 ∧ B 20 4 = Int32.ofNat b ∧ B 8 1 = X 8 1 + 1 ∧ (∀ k, ¬ (8 * b ≤ k ∧ k < 8 * b + 8) → B 9 k = X 9 k) ∧ (∀ k, k < 8 → B 28 k = X 9 (8 * b + k))) ∧ ((∀ k, k < nT (X 1 12) → B 7 k = X 7 k) ∧ nT (X 1 12) ≤ nT (B 1 12))
section UN
variable {X B Y : AI} {u : Nat}
theorem UD.mono (h : UD u X B) : UD (u + 1) X B := by
  obtain ⟨a, ⟨w, w1, w2⟩, b⟩ := h
  exact ⟨a, ⟨w, by omega, w2⟩, b⟩
theorem UD.low (h : UD u X B) (hY : ∀ c, 6 ≤ c → ¬ c = 14 → ¬ c = 15 → Y c = B c) (ht : nT (B 1 12) ≤ nT (Y 1 12)) : UD u X Y := by
  obtain ⟨a, b, c, d1, d2⟩ := h
  have e : ∀ c, (6 ≤ c ∧ c ≤ 13) ∨ (16 ≤ c ∧ c ≤ 28) → Y c = B c := fun c hc => hY c (by omega) (by omega) (by omega)
  unfold UD nw at *
  rw [e 21 (by omega), e 22 (by omega), e 23 (by omega), e 24 (by omega), e 25 (by omega), e 10 (by omega), e 11 (by omega), e 12 (by omega), e 20 (by omega), e 26 (by omega), e 27 (by omega), e 6 (by omega), e 9 (by omega), e 8 (by omega), e 28 (by omega), e 7 (by omega)]
  exact ⟨a, b, c, d1, Nat.le_trans d2 ht⟩
theorem UD.lo (h : UD u X B) (hY : ∀ c, 6 ≤ c → ¬ c = 14 → ¬ c = 15 → Y c = B c) (ht : Y 1 12 = B 1 12) : UD u X Y := h.low hY (by rw [ht]; exact Nat.le_refl _)
theorem UD.begin : UD 0 X (sBegin X) := by
  refine ⟨⟨⟨rfl, rfl, rfl⟩, ⟨rfl, rfl⟩, sBegin_lo (by decide), sBegin_lo (by decide), sBegin_lo (by decide)⟩, ⟨0, Nat.le_refl _, ⟨rfl, by decide, fun h => absurd h (by decide)⟩, ?_⟩, Or.inl ⟨rfl, sBegin_lo (by decide), ?_⟩, fun k _ => ?_, ?_⟩
  · unfold sUM
    rw [if_pos rfl]
    exact sBegin_lo (by decide)
  · rw [sBegin_lo (by decide)]
  · rw [sBegin_lo (by decide)]
  · rw [sBegin_lo (by decide)]
    exact Nat.le_refl _
theorem UD.wr {i v : Int32} (h : UD u X B) (hu : u < 2) : UD (u + 1) X (sWr i v B) := by
  unfold sWr
  split
  · exact h.mono
  split
  · exact h.mono
  rename_i h0 h1
  obtain ⟨a, ⟨w, w1, ⟨n1, n2, n3⟩, w2⟩, b, c⟩ := h
  have hi := nT_b (n := 256) h0 h1
  have ei := of_nT h0
  have en : sNote i (B 6 (nT i)) B = up2 (up2 (up2 B 26 w i) 27 w (B 6 (nT i))) 20 1 (Int32.ofNat (w + 1)) := by
    unfold sNote
    rw [n1, if_neg (of_nn (by omega)), if_neg (show ¬ (2 : Int32) ≤ Int32.ofNat w from fun hh => absurd ((of_le (m := 2) (by decide) (by omega)).mp hh) (by omega)), nT_of (by omega), of_s]
  rw [en]
  have eb : ∀ c, ¬ c = 6 → ¬ c = 20 → ¬ c = 26 → ¬ c = 27 → up2 (up2 (up2 (up2 B 26 w i) 27 w (B 6 (nT i))) 20 1 (Int32.ofNat (w + 1))) 6 (nT i) v c = B c := fun c c1 c2 c3 c4 => by
    rw [up2_b c1, up2_b c2, up2_b c4, up2_b c3]
  have e201 : up2 (up2 (up2 (up2 B 26 w i) 27 w (B 6 (nT i))) 20 1 (Int32.ofNat (w + 1))) 6 (nT i) v 20 1 = Int32.ofNat (w + 1) := by
    rw [up2_b (by decide), up2_eq]
  have e204 : up2 (up2 (up2 (up2 B 26 w i) 27 w (B 6 (nT i))) 20 1 (Int32.ofNat (w + 1))) 6 (nT i) v 20 4 = B 20 4 := by
    rw [up2_b (by decide), up2_ne (by decide), up2_b (by decide), up2_b (by decide)]
  have e26 : up2 (up2 (up2 (up2 B 26 w i) 27 w (B 6 (nT i))) 20 1 (Int32.ofNat (w + 1))) 6 (nT i) v 26 = up2 B 26 w i 26 := by
    rw [up2_b (by decide), up2_b (by decide), up2_b (by decide)]
  have e27 : up2 (up2 (up2 (up2 B 26 w i) 27 w (B 6 (nT i))) 20 1 (Int32.ofNat (w + 1))) 6 (nT i) v 27 = up2 B 27 w (B 6 (nT i)) 27 := by
    rw [up2_b (by decide), up2_b (by decide)]
    funext k
    unfold up2
    by_cases hk : k = w
    · rw [if_pos ⟨rfl, hk⟩, if_pos ⟨rfl, hk⟩]
    · rw [if_neg (fun hh => hk hh.2), if_neg (fun hh => hk hh.2), if_neg (fun hh => hk hh.2)]
  have e6 : ∀ k, up2 (up2 (up2 (up2 B 26 w i) 27 w (B 6 (nT i))) 20 1 (Int32.ofNat (w + 1))) 6 (nT i) v 6 k = if k = nT i then v else B 6 k := fun k => by
    by_cases hk : k = nT i
    · rw [if_pos hk, hk, up2_eq]
    · rw [if_neg hk, up2_ne (fun hh => hk hh.2), up2_b (by decide), up2_b (by decide), up2_b (by decide)]
  generalize up2 (up2 (up2 (up2 B 26 w i) 27 w (B 6 (nT i))) 20 1 (Int32.ofNat (w + 1))) 6 (nT i) v = Y at eb e201 e204 e26 e27 e6 ⊢
  have o : ∀ c, c < 29 → ¬ c = 6 → ¬ c = 20 → ¬ c = 26 → ¬ c = 27 → Y c = B c := fun c _ c1 c2 c3 c4 => eb c c1 c2 c3 c4
  refine ⟨?_, ⟨w + 1, by omega, ⟨e201, by omega, fun _ => ?_⟩, ?_⟩, ?_, ?_⟩
  · rw [o 21 (by decide) (by decide) (by decide) (by decide) (by decide), o 22 (by decide) (by decide) (by decide) (by decide) (by decide), o 23 (by decide) (by decide) (by decide) (by decide) (by decide), o 24 (by decide) (by decide) (by decide) (by decide) (by decide), o 25 (by decide) (by decide) (by decide) (by decide) (by decide), o 10 (by decide) (by decide) (by decide) (by decide) (by decide), o 11 (by decide) (by decide) (by decide) (by decide) (by decide), o 12 (by decide) (by decide) (by decide) (by decide) (by decide)]
    exact a
  · rw [e26]
    by_cases hw : w = 0
    · rw [hw, up2_eq]
      intro hh
      apply h0
      rw [hh]
      decide
    · rw [up2_ne (fun hh => hw hh.2.symm)]
      exact n3 (by omega)
  · have back : sUndoW i (B 6 (nT i)) (Y 6) = B 6 := by
      funext k
      unfold sUndoW
      rw [e6]
      by_cases hk : k = nT i
      · rw [if_pos ⟨Int32.not_lt.mp h0, Int32.not_le.mp h1, hk⟩, hk]
      · rw [if_neg (fun hh => hk hh.2.2), if_neg hk]
    rw [e26, e27]
    unfold sUM at w2 ⊢
    rw [if_neg (by omega)]
    by_cases hw : w = 0
    · rw [if_pos hw] at w2
      rw [if_pos (by omega), hw, up2_eq, up2_eq, back]
      exact w2
    · have hw1 : w = 1 := by omega
      rw [if_neg hw, if_pos hw1] at w2
      rw [if_neg (by omega), hw1, up2_eq, up2_eq, back, up2_ne (by omega), up2_ne (by omega)]
      exact w2
  · rw [e204, o 9 (by decide) (by decide) (by decide) (by decide) (by decide), o 8 (by decide) (by decide) (by decide) (by decide) (by decide), o 28 (by decide) (by decide) (by decide) (by decide) (by decide)]
    exact b
  · rw [o 7 (by decide) (by decide) (by decide) (by decide) (by decide), o 1 (by decide) (by decide) (by decide) (by decide) (by decide)]
    exact c
/-- a change of the core's words, the registers, or the clerk's rows -/
theorem UD.go (h : UD u X B) : UD u X (sGo B) := h.lo (fun c c1 _ _ => sGo_o (by omega)) (sGo_k (Or.inr rfl))
theorem UD.fail {x : Int32} (h : UD u X B) : UD u X (sFail x B) := h.lo (fun c c1 _ _ => sFail_o (by omega)) (sFail_k (Or.inr rfl))
theorem UD.u1 {k : Nat} {v : Int32} (h : UD u X B) (hk : ¬ k = 12) : UD u X (up2 B 1 k v) := h.lo (fun c c1 _ _ => up2_b (by omega)) (up2_ne (fun hh => hk hh.2.symm))
theorem UD.sset {i v : Int32} (h : UD u X B) : UD u X (sSet i v B) := h.lo (fun c c1 _ _ => sSet_o (by omega)) (by rw [sSet_o (by decide)])
theorem UD.push {v : Int32} (h : UD u X B) (hu : u < 2) : UD (u + 1) X (sPush v B) := (h.u1 (by decide)).wr hu
theorem UD.pull (h : UD u X B) : UD u X (sPullX B) := h.u1 (by decide)
theorem UD.move {op d y : Int32} (h : UD 0 X B) : UD 1 X (sMove op d y B) := by
  unfold sMove
  split
  · exact (h.u1 (by decide)).mono
  split
  · exact h.sset.go.mono
  split
  · split
    · exact h.sset.go.mono
    · exact (h.wr (by decide)).go
  · exact h.fail.mono
theorem UD.calc {op d y : Int32} (h : UD u X B) : UD u X (sCalc op d y B) := by
  unfold sCalc
  try dsimp only
  split
  · exact ((h.u1 (by decide)).u1 (by decide)).go
  · exact ((h.u1 (by decide)).u1 (by decide)).sset.go
theorem UD.jump {op y : Int32} (h : UD u X B) : UD u X (sJump op y B) := by
  unfold sJump
  split
  · exact h.go
  · exact h.u1 (by decide)
theorem UD.stack {op d y : Int32} (h : UD 0 X B) : UD 1 X (sStack op d y B) := by
  unfold sStack
  split
  · split
    · exact (h.push (by decide)).u1 (by decide)
    · exact h.fail.mono
  split
  · split
    · exact (h.push (by decide)).go
    · exact h.fail.mono
  split
  · split
    · exact (h.pull.u1 (by decide)).mono
    · exact h.pull.sset.go.mono
  · exact h.fail.mono
theorem UD.rti (h : UD u X B) : UD u X (sRti B) := by
  unfold sRti
  try dsimp only
  split
  · exact (((h.pull.u1 (by decide)).u1 (by decide)).pull.u1 (by decide)).u1 (by decide)
  · exact h.fail
theorem UD.int (h : UD 0 X B) : UD 2 X (sInt B) := by
  unfold sInt
  try dsimp only
  split
  · have h1 : UD 0 X (if B 1 8 = 0 then up2 B 1 9 0 else up2 B 1 8 0) := by
      split
      · exact h.u1 (by decide)
      · exact h.u1 (by decide)
    exact (((h1.push (by decide)).push (by decide)).u1 (by decide)).u1 (by decide)
  · exact h.fail.mono.mono
theorem UD.key {d : Int32} (h : UD u X B) : UD u X (sKey d B) := by
  unfold sKey
  split
  · exact (h.u1 (by decide)).sset.go
  · exact h.sset.go
theorem UD.tape {w : Int32} (h : UD u X B) : UD u X (sTape w B) := by
  unfold sTape
  split
  · exact h.fail
  split
  · rename_i h0 h1
    have hb := nT_b (n := 60) h0 (Int32.not_le.mpr h1)
    have e : B 1 12 + 1 = Int32.ofNat (nT (B 1 12) + 1) := by
      have := of_s (nT (B 1 12))
      rwa [of_nT h0] at this
    obtain ⟨a, b, c, d1, d2⟩ := h
    have hY : UD u X (up2 (up2 B 7 (nT (B 1 12)) w) 1 12 (B 1 12 + 1)) := by
      have o : ∀ c, ¬ c = 7 → ¬ c = 1 → up2 (up2 B 7 (nT (B 1 12)) w) 1 12 (B 1 12 + 1) c = B c := fun c c1 c2 => by rw [up2_b c2, up2_b c1]
      have e7 : ∀ k, ¬ k = nT (B 1 12) → up2 (up2 B 7 (nT (B 1 12)) w) 1 12 (B 1 12 + 1) 7 k = B 7 k := fun k hk => by rw [up2_b (by decide), up2_ne (fun hh => hk hh.2)]
      have e1 : up2 (up2 B 7 (nT (B 1 12)) w) 1 12 (B 1 12 + 1) 1 12 = B 1 12 + 1 := up2_eq
      generalize up2 (up2 B 7 (nT (B 1 12)) w) 1 12 (B 1 12 + 1) = Y at o e7 e1 ⊢
      unfold UD nw at *
      rw [o 21 (by decide) (by decide), o 22 (by decide) (by decide), o 23 (by decide) (by decide), o 24 (by decide) (by decide), o 25 (by decide) (by decide), o 10 (by decide) (by decide), o 11 (by decide) (by decide), o 12 (by decide) (by decide), o 20 (by decide) (by decide), o 26 (by decide) (by decide), o 27 (by decide) (by decide), o 6 (by decide) (by decide), o 9 (by decide) (by decide), o 8 (by decide) (by decide), o 28 (by decide) (by decide)]
      refine ⟨a, b, c, fun k hk => ?_, ?_⟩
      · rw [e7 k (by omega)]
        exact d1 k hk
      · rw [e1, e, nT_of (by omega)]
        omega
    exact hY.go
  · exact h.fail
theorem UD.ctl {op d y : Int32} (h : UD u X B) : UD u X (sCtl op d y B) := by
  unfold sCtl
  split
  · exact (h.u1 (by decide)).go
  split
  · exact (h.u1 (by decide)).go
  split
  · exact h.rti
  split
  · split
    · exact h
    · exact h.go
  split
  · exact ((h.u1 (by decide)).u1 (by decide)).go
  split
  · exact h.key
  split
  · exact h.tape
  · exact h.lo (fun c c1 c2 c3 => sCallF_o (by omega) (by omega) (by omega) ⟨c2, c3⟩) (sCallF_k (Or.inr rfl))
theorem UD.ins (h : UD 0 X B) : UD 1 X (sIns B) := by
  unfold sIns sDo
  try dsimp only
  split
  · split
    · split
      · split
        · split
          · split
            · exact h.move
            · exact h.calc.mono
          · exact h.jump.mono
        · exact h.stack
      · exact h.ctl.mono
    · exact h.fail.mono
  · exact h.fail.mono
theorem UD.wbl {b : Nat} {f : Nat → Int32} (h : UD 0 X B) (hb : b < 32) (h4 : B 20 4 = Int32.ofInt (-1)) : UD 0 X (sWBl b f B) := by
  obtain ⟨a, ⟨w, w1, ⟨n1, n2, n3⟩, w2⟩, c, d⟩ := h
  have hc : B 9 = X 9 ∧ B 8 1 = X 8 1 := by
    rcases c with ⟨-, c⟩ | ⟨b', hb', c, -⟩
    · exact c
    · rw [h4] at c
      exact absurd (show Int32.ofNat b' < 0 by rw [← c]; decide) (of_nn (by omega))
  have o : ∀ c, c < 29 → ¬ c = 20 ∧ ¬ c = 28 ∧ ¬ c = 9 ∧ ¬ c = 8 → sWBl b f B c = B c := fun c _ hc => sWBl_o hc
  have e9 : ∀ k, sWBl b f B 9 k = if 8 * b ≤ k ∧ k < 8 * b + 8 then f (k - 8 * b) else B 9 k := fun k => sWBl_9
  have e201 : sWBl b f B 20 1 = B 20 1 := by
    unfold sWBl
    rw [if_neg (by decide), if_neg (fun hh => absurd hh.1 (by decide)), if_neg (fun hh => absurd hh.1 (by decide)), if_neg (by decide)]
  have e204 : sWBl b f B 20 4 = Int32.ofNat b := by
    unfold sWBl
    rw [if_pos ⟨rfl, rfl⟩]
  have e28 : ∀ k, k < 8 → sWBl b f B 28 k = B 9 (8 * b + k) := fun k hk => by
    unfold sWBl
    rw [if_neg (fun hh => absurd hh.1 (by decide)), if_pos ⟨rfl, hk⟩]
  have e8 : sWBl b f B 8 1 = B 8 1 + 1 := by
    unfold sWBl
    rw [if_neg (fun hh => absurd hh.1 (by decide)), if_neg (fun hh => absurd hh.1 (by decide)), if_neg (fun hh => absurd hh.1 (by decide)), if_pos ⟨rfl, rfl⟩]
  refine ⟨?_, ⟨w, w1, ⟨by rw [e201]; exact n1, n2, ?_⟩, ?_⟩, Or.inr ⟨b, hb, e204, by rw [e8, hc.2], fun k hk => ?_, fun k hk => ?_⟩, ?_⟩
  · rw [o 21 (by decide) (by decide), o 22 (by decide) (by decide), o 23 (by decide) (by decide), o 24 (by decide) (by decide), o 25 (by decide) (by decide), o 10 (by decide) (by decide), o 11 (by decide) (by decide), o 12 (by decide) (by decide)]
    exact a
  · rw [o 26 (by decide) (by decide)]; exact n3
  · rw [o 26 (by decide) (by decide), o 27 (by decide) (by decide), o 6 (by decide) (by decide)]; exact w2
  · rw [e9, if_neg hk, hc.1]
  · rw [e28 k hk, hc.1]
  · rw [o 7 (by decide) (by decide), o 1 (by decide) (by decide)]; exact d
theorem UD.done (h : UD u X B) : UD u X (sDone B) := by
  unfold sDone
  try dsimp only
  have g : ∀ {Z : AI} {v : Int32} {c k : Nat}, UD u X Z → (c = 2 ∨ c = 3) → UD u X (up2 Z c k v) := fun hz hc => hz.lo (fun c' c1 _ _ => up2_b (by omega)) (by rw [up2_b (by omega)])
  split
  · exact (g (g (g (g h (Or.inr rfl)) (Or.inr rfl)) (Or.inr rfl)) (Or.inl rfl)).go
  · exact g h (Or.inr rfl)
theorem UD.wnb (h : UD 0 X B) (h4 : B 20 4 = Int32.ofInt (-1)) {n d : Nat} (hF : isW n d B) : UD 0 X (sWNB B) := by
  obtain ⟨⟨w1, w2, w3⟩, ⟨w4, w5⟩, w6, w7⟩ := hF
  have en : nT (B 3 0) = n := by rw [w4]; exact nT_of (by omega)
  have ed : nT (B 3 1) = d := by rw [w5]; exact nT_of (by omega)
  unfold sWNB
  try dsimp only
  rw [en, ed]
  refine UD.done ?_
  split
  · exact h.wbl (by omega) h4
  split
  · exact h.wbl (by decide) h4
  split
  · exact h.wbl (w6 _ (by omega)).2 h4
  · exact h.wbl (by decide) h4
theorem Inv.ud {q s : Nat} (h : Inv q s X) : UD 2 X (sStep X) := by
  have hB : Inv q s (sBegin X) := h.lo (fun c hc => sBegin_lo hc)
  have h0 : UD 0 X (sBegin X) := UD.begin
  have h4 : sBegin X 20 4 = Int32.ofInt (-1) := rfl
  have hC : UD 2 X (sCore (sBegin X)) := by
    have hm := hB.okm
    unfold sCore
    by_cases hl : 0 < sLeft (sBegin X)
    · rw [if_pos hl]
      rcases hB.1.2 with hF | ⟨n, d, hF⟩
      · have hz : sLeft (sBegin X) = 0 := by unfold sLeft; rw [if_pos hF.1.1]
        rw [hz] at hl
        exact absurd hl (by decide)
      · exact (h0.wnb h4 hF.1.1).mono.mono
    · rw [if_neg hl]
      split
      · exact h0.int
      · exact h0.ins.mono
  unfold sStep
  try dsimp only
  have h1 := hC.u1 (k := 2) (v := sCore (sBegin X) 1 2 + 1) (by decide)
  have h2 : UD 2 X (sTime (up2 (sCore (sBegin X)) 1 2 (sCore (sBegin X) 1 2 + 1))) := by
    refine h1.lo (fun c c1 _ _ => sTime_o (by omega)) ?_
    unfold sTime
    try dsimp only
    split
    · rfl
    split
    · rw [up2_ne (by decide), up2_ne (by decide), up2_ne (by decide)]
    · exact up2_ne (by decide)
  refine h2.lo (fun c c1 _ _ => sKeys_o (by omega)) ?_
  unfold sKeys
  split
  · exact up2_ne (by decide)
  · rfl
/-- taken back, it is what it was -/
theorem UD.fin (h : UD 2 X B) (hb : bl X) : okN B ∧ (∀ J a, RM a J (sUndo B B) → RM a J X) ∧ nT (B 21 12) ≤ nT (B 1 12) := by
  obtain ⟨⟨⟨a1, a2, a3⟩, ⟨a4, a5⟩, a6, a7, a8⟩, ⟨w, w1, ⟨n1, n2, n3⟩, w2⟩, cc, d1, d2⟩ := h
  have ew : nT (B 20 1) = w := by rw [n1]; exact nT_of (by omega)
  refine ⟨⟨⟨by rw [ew]; exact n1, by rw [ew]; exact n2⟩, ?_, ?_⟩, fun J a H => ?_, ?_⟩
  · rcases cc with ⟨x1, -⟩ | ⟨b, hb', x1, -⟩
    · exact Or.inl x1
    · refine Or.inr ?_
      rw [x1, nT_of (by omega)]
      exact ⟨rfl, hb'⟩
  · rw [a1]; exact hb
  · have e : ∀ c, (1 ≤ c ∧ c ≤ 5) → sUndo B B c = X c := fun c hc => by
      funext k
      unfold sUndo
      rcases (show c = 1 ∨ c = 2 ∨ c = 3 ∨ c = 4 ∨ c = 5 by omega) with rfl | rfl | rfl | rfl | rfl
      · rw [if_pos rfl, a1]
      · rw [if_neg (by decide), if_pos rfl, a2]
      · rw [if_neg (by decide), if_neg (by decide), if_pos rfl, a3]
      · rw [if_neg (by decide), if_neg (by decide), if_neg (by decide), if_pos rfl, a4]
      · rw [if_neg (by decide), if_neg (by decide), if_neg (by decide), if_neg (by decide), if_pos rfl, a5]
    have e6 : ∀ c, 6 ≤ c → ∀ k, sUndo B B c k = if c = 6 then sUndoM B (B 6) k else if c = 8 ∧ k = 1 then (if B 20 4 = Int32.ofInt (-1) then B 8 1 else B 8 1 - 1) else if c = 9 then (if ¬ B 20 4 = Int32.ofInt (-1) ∧ 8 * nT (B 20 4) ≤ k ∧ k < 8 * nT (B 20 4) + 8 then B 28 (k - 8 * nT (B 20 4)) else B 9 k) else B c k := fun c hc k => by
      unfold sUndo
      rw [if_neg (by omega), if_neg (by omega), if_neg (by omega), if_neg (by omega), if_neg (by omega)]
    have eo : ∀ c, 7 ≤ c → ¬ c = 8 → ¬ c = 9 → sUndo B B c = B c := fun c c1 c2 c3 => by
      funext k
      rw [e6 c (by omega), if_neg (by omega), if_neg (by omega), if_neg c3]
    intro c k hc hr
    have hc0 := rel_vc hr
    have hr' : rel 0 (sUndo B B) c k := by
      have r3 := e 3 (by decide)
      have r1 := e 1 (by decide)
      have r10 : sUndo B B 10 = X 10 := (eo 10 (by decide) (by decide) (by decide)).trans a6
      unfold rel at hr ⊢
      split at hr
      all_goals first
        | exact hr
        | (rw [r3]; exact hr)
        | (rw [r1]; exact hr)
        | (rw [r10]; exact hr)
        | omega
    rw [H c k hc hr']
    by_cases c5 : c ≤ 5
    · rw [e c (by omega)]
    by_cases c6 : c = 6
    · subst c6
      rw [e6 6 (by decide), if_pos rfl]
      unfold sUndoM
      rw [ew, w2]
    by_cases c7 : c = 7
    · subst c7
      rw [eo 7 (by decide) (by decide) (by decide)]
      exact d1 k hr.1
    by_cases c8 : c = 8
    · subst c8
      have hk : k = 1 := hr
      subst hk
      rw [e6 8 (by decide), if_neg (by decide), if_pos ⟨rfl, rfl⟩]
      rcases cc with ⟨x1, -, x9⟩ | ⟨b, hb', x1, x9, -⟩
      · rw [if_pos x1]; exact x9
      · rw [if_neg (fun hh => absurd (show Int32.ofNat b < 0 by rw [← x1, hh]; decide) (of_nn (by omega))), x9]
        grind
    by_cases c9 : c = 9
    · subst c9
      rw [e6 9 (by decide), if_neg (by decide), if_neg (by omega), if_pos rfl]
      rcases cc with ⟨x1, x9, -⟩ | ⟨b, hb', x1, -, x9, x10⟩
      · rw [if_neg (fun hh => hh.1 x1), x9]
      · rw [x1, nT_of (by omega)]
        by_cases hk : 8 * b ≤ k ∧ k < 8 * b + 8
        · rw [if_pos ⟨fun hh => absurd (show Int32.ofNat b < 0 by rw [hh]; decide) (of_nn (by omega)), hk⟩, x10 _ (by omega)]
          congr 1
          omega
        · rw [if_neg (fun hh => hk hh.2), x9 k hk]
    rw [eo c (by omega) c8 c9]
    unfold rel at hr
    rcases (show c = 10 ∨ c = 11 ∨ c = 12 ∨ c = 13 ∨ c = 14 ∨ c = 15 ∨ c = 16 ∨ c = 17 ∨ c = 18 ∨ c = 19 by omega) with rfl | rfl | rfl | rfl | rfl | rfl | rfl | rfl | rfl | rfl
    · rw [a6]
    · rw [a7]
    · rw [a8]
    · exact absurd hr (by simp)
    · exact absurd hr.1 (by decide)
    · exact absurd hr.1 (by decide)
    · exact absurd hr.1 (by decide)
    · exact absurd hr (by simp)
    · exact absurd hr (by simp)
    · exact absurd hr (by simp)
  · rw [a1]; exact d2
end UN
