/-! what holds of a machine between its steps -/
theorem wd_m (x : Int32) : wd (x &&& 65535) := by
  apply wd_bits
  intro j h1 h2
  rw [dB_and]
  have e : ∀ k : Fin 32, 16 ≤ k.1 → dB 65535 k.1 = false := by decide +kernel
  rw [e ⟨j, h2⟩ h1, Bool.and_false]
theorem VV.two {X Y : AI} (h : VV X) (h1 : Y 1 = X 1) (h2 : ∀ k, k < 4 → wd (Y 2 k)) (h6 : Y 6 = X 6) (h7 : Y 7 = X 7) : VV Y := by
  obtain ⟨a, b, ⟨-, c⟩, d⟩ := h
  unfold VV bl at *
  rw [h1, h6, h7]
  exact ⟨a, b, ⟨h2, c⟩, d⟩
theorem sA_n {S : Nat → Bool} {b c : Nat} (h : ¬ sA S b c = true) : ¬ S c = true ∧ ¬ c = b := by
  rw [sA_t] at h
  exact ⟨fun hh => h (Or.inl hh), fun hh => h (Or.inr hh)⟩
theorem WF.cong256 {D E : Nat → Int32} (h : WF D) (he : ∀ k, k < 256 → E k = D k) : WF E := h.log (fun k _ hk => he k hk) (fun k hk => by rw [he k (by omega)]; exact h.1.1 k (by omega))
section IV
variable {X : AI}
theorem pOff_o {x : Int32} {W : Nat → Int32} {k : Nat} (hx : nT x < 32) (h : ¬ x = 0 → ¬ k / 8 = 4) : pOff x W k = W k := by
  unfold pOff
  split
  · rfl
  · rename_i h0
    have := h h0
    exact wP_ne (by omega)
theorem pRm_S {t : Nat} {D : Nat → Int32} (hl : LWe D t) (ht : t < 6) {k : Nat} (h : ¬ pRmS t D (k / 8) = true) : pRm t D k = D k := by
  unfold pRmS at h
  obtain ⟨h1, h2⟩ := sA_n h
  unfold pRm
  rw [wP_ne (by omega), wP_ne (by omega), wP_ne (by omega), wP_ne (by omega)]
  have b2 := hl.b32 (Or.inl rfl)
  have b3 := hl.b32 (Or.inr rfl)
  rw [pOff_o b3 (fun h3 => ?_), pOff_o b2 (fun h2' => ?_)]
  · by_cases h3 : D (40 + 4 * t + 3) = 0
    · rw [if_pos h3, if_neg h2'] at h1
      exact (sA_n h1).2
    · rw [if_neg h3] at h1
      exact (sA_n h1).2
  · rw [if_neg h3] at h1
    exact (sA_n h1).2
/-- a call changes nothing behind the blocks of its set -/
theorem pW_o {call : Int32} (h : isC call X) (hw : wdk X) (hD : WF (X 9)) {k : Nat} (hS : ¬ pS call X (k / 8) = true) : pW call X k = X 9 k := by
  obtain ⟨f0, fE, f1, f2, f6⟩ := h.facts hw
  unfold pS at hS
  unfold pW
  by_cases c0 : call = 0
  · rw [if_pos c0] at hS ⊢
    have := (sA_n hS).2
    have ht := (f0 c0).1
    exact wP_ne (by omega)
  have ht := fE c0
  rw [if_neg c0] at hS ⊢
  by_cases c1 : call = 1
  · rw [if_pos c1] at hS ⊢
    obtain ⟨h16, hf⟩ := f1 c1
    unfold pApS at hS
    unfold pApW
    by_cases h8 : nT (X 9 (40 + 4 * sE X + 1)) % 8 = 0
    · rw [if_pos h8] at hS ⊢
      have hf8 := hf h8
      obtain ⟨hS, s1⟩ := sA_n hS
      obtain ⟨hS, s2⟩ := sA_n hS
      obtain ⟨hS, s3⟩ := sA_n hS
      obtain ⟨hS, s4⟩ := sA_n hS
      obtain ⟨hS, s5⟩ := sA_n hS
      unfold pApp1
      rw [wP_ne (by omega), wP_ne (by omega)]
      unfold wZ
      rw [if_neg (by omega), wP_ne (by omega)]
      unfold wOn
      exact wP_ne (by omega)
    · rw [if_neg h8] at hS ⊢
      obtain ⟨hS, s1⟩ := sA_n hS
      obtain ⟨hS, s2⟩ := sA_n hS
      unfold pApp2
      rw [wP_ne (by omega), wP_ne (by omega)]
  rw [if_neg c1] at hS ⊢
  by_cases c2 : call = 2
  · rw [if_pos c2] at hS ⊢
    have := (sA_n hS).2
    exact wP_ne (by omega)
  rw [if_neg c2] at hS ⊢
  by_cases c5 : call = 5
  · rw [if_pos c5] at hS ⊢
    exact pRm_S (hD.1.2 _ ht) ht hS
  rw [if_neg c5] at hS ⊢
  obtain ⟨hS, s1⟩ := sA_n hS
  rw [wP_ne (by omega)]
  by_cases ho : sFind (X 9) (X 2 1) 7 0 < 6
  · rw [if_pos ho] at hS ⊢
    exact pRm_S (hD.1.2 _ ho) ho hS
  · rw [if_neg ho]
theorem sBlk_wd {D : Nat → Int32} (h : ∀ k, k < 256 → wd (D k)) {b : Int32} {p : Nat} (hp : p < 8) : wd (sBlk D b p) := by
  unfold sBlk
  by_cases h0 : b < 0
  · rw [if_pos h0]; exact wd_0
  · rw [if_neg h0]
    by_cases h1 : (32 : Int32) ≤ b
    · rw [if_pos h1]; exact wd_0
    · rw [if_neg h1]
      have := nT_b (n := 32) h0 h1
      exact h _ (by omega)
theorem sFileW_wd {D : Nat → Int32} (h : ∀ k, k < 256 → wd (D k)) {t : Nat} {p : Int32} : wd (sFileW D t p) := sBlk_wd h (by omega)
theorem sFileR_wd {call : Int32} : wd (sFileR call X) := by
  have w2 : wd 2 := wd_nat (n := 2) (by decide)
  have w3 : wd 3 := wd_nat (n := 3) (by decide)
  have w9 : wd 9 := wd_nat (n := 9) (by decide)
  have w0 := wd_0
  have w1 := wd_1
  unfold sFileR sRefuse
  repeat' split
  all_goals assumption
/-- a file call is done at once, or goes on -/
theorem sCallF_cases (hw : wdk X) (hD : WF (X 9)) (h0 : X 3 0 = 0) (h1 : X 3 1 = 0) {call : Int32} (hc : ¬ call < 0) : (∃ Y r, sCallF call X = sGo (up2 Y 2 3 r) ∧ wd r ∧ (∀ c, ¬ c = 2 → ¬ c = 14 → ¬ c = 15 → Y c = X c) ∧ (∀ k, k < 4 → wd (Y 2 k))) ∨ (isC call X ∧ sCallF call X = sAdds 32 0 (sCarry call (sOpen X))) := by
  have sL0 : sLeft X = 0 := by unfold sLeft; rw [if_pos h0]
  by_cases hr : sFileR call X = 0
  · have hcc : call ≤ 6 ∧ sRefuse call X = 0 := by
      unfold sFileR at hr
      rw [if_neg hc] at hr
      by_cases h6 : call ≤ 6
      · rw [if_pos h6] at hr
        exact ⟨h6, hr⟩
      · rw [if_neg h6] at hr
        exact absurd hr (by decide)
    have hz := sRefuse0 hcc.2
    have ex : sFileX call X = sAdds 32 0 (sCarry call (sOpen X)) := by
      unfold sFileX
      rw [if_pos hr]
    have ho15 : ∀ c, c < 32 → sOpen X 15 c = 0 := fun c hc' => by unfold sOpen; rw [fl_at hc']
    have o3 : sOpen X 3 = X 3 := sOpen_o (by decide)
    have oo : ∀ c, ¬ c = 14 → ¬ c = 15 → sOpen X c = X c := fun c c1 c2 => sOpen_o ⟨c1, c2⟩
    have o9 : sOpen X 9 = X 9 := sOpen_o (by decide)
    have o2 : sOpen X 2 = X 2 := sOpen_o (by decide)
    have oE : sE (sOpen X) = sE X := sE_cong o2 o9
    have cls : ∀ (Y : AI), sCarry call (sOpen X) = Y → (∀ c, c < 32 → Y 15 c = 0) → Y 3 = X 3 → (∀ c, ¬ c = 2 → ¬ c = 14 → ¬ c = 15 → Y c = X c) → (∀ k, k < 4 → wd (Y 2 k)) → (∃ Y r, sCallF call X = sGo (up2 Y 2 3 r) ∧ wd r ∧ (∀ c, ¬ c = 2 → ¬ c = 14 → ¬ c = 15 → Y c = X c) ∧ (∀ k, k < 4 → wd (Y 2 k))) := fun Y hY h15 hy3 h4 h5 => by
      refine ⟨Y, 0, ?_, wd_0, h4, h5⟩
      unfold sCallF
      rw [ex, hY, sAdds_none 32 0 Y rfl h15, hr, if_pos (by unfold sLeft; rw [hy3, if_pos h0])]
    by_cases c3 : call = 3
    · left
      refine cls _ (show sCarry call (sOpen X) = up2 (sOpen X) 2 2 (sFileW (X 9) (sE X) (X 2 1)) from ?_) (fun c hc' => by rw [up2_b (by decide)]; exact ho15 c hc') (by rw [up2_b (by decide)]; exact o3) (fun c a1 a2 a3 => by rw [up2_b a1]; exact oo c a2 a3) (fun k hk => ?_)
      · unfold sCarry
        rw [oE, o9, o2, if_neg (by rw [c3]; decide), if_neg (by rw [c3]; decide), if_neg (by rw [c3]; decide), if_pos c3]
      · by_cases e : k = 2
        · subst e
          rw [up2_eq]
          exact sFileW_wd hw.1
        · rw [up2_ne (fun h => e h.2), o2]
          exact hw.2 k hk
    by_cases c4 : call = 4
    · left
      have ht := hz.2 (by rw [c4]; decide)
      refine cls _ (show sCarry call (sOpen X) = up2 (sOpen X) 2 1 (X 9 (40 + 4 * sE X + 1)) from ?_) (fun c hc' => by rw [up2_b (by decide)]; exact ho15 c hc') (by rw [up2_b (by decide)]; exact o3) (fun c a1 a2 a3 => by rw [up2_b a1]; exact oo c a2 a3) (fun k hk => ?_)
      · unfold sCarry
        rw [oE, o9, if_neg (by rw [c4]; decide), if_neg (by rw [c4]; decide), if_neg (by rw [c4]; decide), if_neg c3, if_pos c4]
      · by_cases e : k = 1
        · subst e
          rw [up2_eq]
          exact hw.1 _ (by omega)
        · rw [up2_ne (fun h => e h.2), o2]
          exact hw.2 k hk
    have c56 : call = 0 ∨ call = 1 ∨ call = 2 ∨ call = 5 ∨ call = 6 := by
      have hle := hcc.1
      have e1 := of_nT hc
      rw [← e1] at hle c3 c4 ⊢
      have h9 := nT_le (i := 6) (x := call) (by decide) hcc.1
      generalize nT call = k at hle c3 c4 h9 ⊢
      rcases (show k = 0 ∨ k = 1 ∨ k = 2 ∨ k = 3 ∨ k = 4 ∨ k = 5 ∨ k = 6 by omega) with rfl | rfl | rfl | rfl | rfl | rfl | rfl
      · exact Or.inl rfl
      · exact Or.inr (Or.inl rfl)
      · exact Or.inr (Or.inr (Or.inl rfl))
      · exact absurd rfl c3
      · exact absurd rfl c4
      · exact Or.inr (Or.inr (Or.inr (Or.inl rfl)))
      · exact Or.inr (Or.inr (Or.inr (Or.inr rfl)))
    have chg : isC call X → (isC call X ∧ sCallF call X = sAdds 32 0 (sCarry call (sOpen X))) := fun hC => by
      refine ⟨hC, ?_⟩
      obtain ⟨n, n1, n3, -, e3, -, e4, -⟩ := hC.spec hw hD h0
      unfold sCallF
      rw [ex, if_neg]
      intro hh
      unfold sLeft at hh
      rw [e3, if_neg (of_nz (by omega) (by omega)), e4 1 (by decide)] at hh
      rw [h1, show (2 : Int32) * Int32.ofNat n = Int32.ofNat (2 * n) from eM 2 n, show Int32.ofNat (2 * n) + (2 : Int32) = Int32.ofNat (2 * n + 2) from eA _ 2] at hh
      have h2 : Int32.ofNat (2 * n + 2) = 0 := by grind
      exact of_nz (by omega) (by omega) h2
    by_cases c6 : call = 6
    · have ht := hz.2 (by rw [c6]; decide)
      by_cases he : X 2 0 = X 2 1
      · left
        have hx : sCarry call (sOpen X) = sOpen X := by
          unfold sCarry sRen
          rw [oE, o9, o2, if_neg (by rw [c6]; decide), if_neg (by rw [c6]; decide), if_neg (by rw [c6]; decide), if_neg c3, if_neg c4, if_neg (by rw [c6]; decide)]
          have : sFind (X 9) (X 2 1) 7 0 = sE X := by
            have hn := (sE_at ht).2
            unfold sE
            rw [if_neg hn, he]
          rw [this]
          dsimp only
          rw [if_pos rfl]
        exact cls _ hx ho15 o3 (fun c _ a2 a3 => oo c a2 a3) (by rw [o2]; exact hw.2)
      · exact Or.inr (chg ⟨Or.inr (Or.inr (Or.inr (Or.inr ⟨c6, he⟩))), hcc.2⟩)
    · right
      refine chg ⟨?_, hcc.2⟩
      rcases c56 with h | h | h | h | h
      · exact Or.inl h
      · exact Or.inr (Or.inl h)
      · exact Or.inr (Or.inr (Or.inl h))
      · exact Or.inr (Or.inr (Or.inr (Or.inl h)))
      · exact absurd h c6
  · left
    refine ⟨X, sFileR call X, ?_, ?_, fun _ _ _ _ => rfl, hw.2⟩
    · unfold sCallF
      have : sFileX call X = X := by unfold sFileX; rw [if_neg hr]
      rw [this, if_pos sL0]
    · exact sFileR_wd
theorem VV.callf (h : VV X) (hc : nT (X 1 3) ≤ 254) (hF : FI X) {call : Int32} (hcl : ¬ call < 0) : VV (sCallF call X) ∧ (FI (sCallF call X) ∨ ∃ n, FW n 0 (sCallF call X)) := by
  obtain ⟨⟨h0, h1⟩, z0, hD⟩ := hF
  have hw : wdk X := ⟨hD.1.1, h.2.2.1.1⟩
  rcases sCallF_cases hw hD h0 h1 hcl with ⟨Y, r, e, r1, y1, y2⟩ | ⟨hC, e⟩
  · rw [e]
    have hY : VV (up2 Y 2 3 r) := (h.two (y1 1 (by decide) (by decide) (by decide)) y2 (y1 6 (by decide) (by decide) (by decide)) (y1 7 (by decide) (by decide) (by decide))).r2 r1
    have e1 : up2 Y 2 3 r 1 = X 1 := by rw [up2_b (by decide)]; exact y1 1 (by decide) (by decide) (by decide)
    have e3 : sGo (up2 Y 2 3 r) 3 = X 3 := by rw [sGo_o (by decide), up2_b (by decide)]; exact y1 3 (by decide) (by decide) (by decide)
    have e9 : sGo (up2 Y 2 3 r) 9 = X 9 := by rw [sGo_o (by decide), up2_b (by decide)]; exact y1 9 (by decide) (by decide) (by decide)
    refine ⟨hY.go (by rw [e1]; omega), Or.inl ?_⟩
    unfold FI
    rw [e3, e9]
    exact ⟨⟨h0, h1⟩, z0, hD⟩
  · obtain ⟨n, n1, n3, -, e3, eo, e4, N1, N2, N3, N4⟩ := hC.spec hw hD h0
    obtain ⟨-, -, p4⟩ := pS_3 hC hw hD
    have hWF := pW_WF hC hw hD
    have ob : ∀ c, ¬ c = 3 → ¬ c = 4 → ¬ c = 5 → ¬ c = 14 → ¬ c = 15 → sCallF call X c = X c := fun c c3 c4 c5 c14 c15 => by
      rw [e, eo c c3 c4 c5]
      exact hC.keep ⟨c14, c15⟩
    have e9 : sCallF call X 9 = X 9 := ob 9 (by decide) (by decide) (by decide) (by decide) (by decide)
    refine ⟨h.cong (ob 1 (by decide) (by decide) (by decide) (by decide) (by decide)) (ob 2 (by decide) (by decide) (by decide) (by decide) (by decide)) (ob 6 (by decide) (by decide) (by decide) (by decide) (by decide)) (ob 7 (by decide) (by decide) (by decide) (by decide) (by decide)), Or.inr ⟨n, ⟨⟨⟨n1, n3, by omega⟩, ⟨?_, ?_⟩, ?_, ?_⟩, ?_⟩, ⟨?_, ?_⟩, ?_, ?_, ?_, ?_⟩⟩
    · rw [e]; exact e3
    · rw [e, e4 1 (by decide)]; exact h1
    · rw [e]
      intro k hk
      exact ⟨(N1 k hk).1, (N1 k hk).2.1⟩
    · rw [e]
      intro k hk
      have := N3 (k / 8) (k % 8) (by omega) (by omega)
      rw [show 8 * (k / 8) + k % 8 = k from by omega] at this
      rw [this]
      have := (N1 (k / 8) (by omega)).2.1
      exact hWF.1.1 _ (by omega)
    · rw [ob 1 (by decide) (by decide) (by decide) (by decide) (by decide)]; exact hc
    · intro j k hj hk
      unfold bsX
      rw [e]
      exact N2 j k hj hk
    · intro k hk
      unfold bsX
      rw [e]
      exact (p4 _ (N1 k hk).2.2).1
    · -- the disk as it will be
      have hr : ∀ j k, j < k → k < n → bsX (sCallF call X) j < bsX (sCallF call X) k := fun j k hj hk => by
        unfold bsX
        rw [e]
        exact N2 j k hj hk
      have ek : ∀ k, k < 256 → apD (sCallF call X 9) (bsX (sCallF call X)) (sCallF call X 5) n k = pW call X k := fun k hk => by
        rcases blk_or (bsX (sCallF call X)) k n with ⟨i, hi, b1, b2⟩ | b1
        · have ei : k = 8 * bsX (sCallF call X) i + (k - 8 * bsX (sCallF call X) i) := by omega
          rw [ei, apD_at (by omega) n i hr hi]
          unfold bsX at b1 b2 ⊢
          rw [e] at b1 b2 ⊢
          exact N3 i _ hi (by omega)
        · rw [apD_o n b1, e9]
          refine (pW_o hC hw hD (fun hS => ?_)).symm
          obtain ⟨i, hi, ei⟩ := N4 (k / 8) (by omega) hS
          have := b1 i hi
          unfold bsX at this
          rw [e, ei] at this
          omega
      exact hWF.cong256 ek
    · intro i p _ hi
      omega
    · intro _
      rw [e9]
      exact ⟨z0, hD⟩
    · intro hh
      omega
end IV
