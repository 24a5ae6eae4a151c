/-! a step keeps what holds of a machine -/
theorem up2_2 {X : AI} {c k : Nat} {v w : Int32} : up2 (up2 X c k v) c k w = up2 X c k w := by
  funext b j
  unfold up2
  by_cases h : b = c ∧ j = k
  · rw [if_pos h, if_pos h]
  · rw [if_neg h, if_neg h, if_neg h]
section SV
variable {X : AI}
theorem FI.cong {Y : AI} (h : FI X) (h3 : Y 3 = X 3) (h9 : Y 9 = X 9) : FI Y := by
  unfold FI at h ⊢
  rw [h3, h9]
  exact h
theorem FW.cong {Y : AI} {n d : Nat} (h : FW n d X) (h3 : Y 3 = X 3) (h4 : Y 4 = X 4) (h5 : Y 5 = X 5) (h9 : Y 9 = X 9) (h1 : Y 1 3 = X 1 3) : FW n d Y := by
  unfold FW isW bsX at h ⊢
  rw [h3, h4, h5, h9, h1]
  exact h
def FF (X : AI) : Prop := FI X ∨ ∃ n d, FW n d X
theorem FF.cong {Y : AI} (h : FF X) (h3 : Y 3 = X 3) (h4 : Y 4 = X 4) (h5 : Y 5 = X 5) (h9 : Y 9 = X 9) (h1 : Y 1 3 = X 1 3) : FF Y :=
  h.elim (fun h => Or.inl (h.cong h3 h9)) (fun ⟨n, d, h⟩ => Or.inr ⟨n, d, h.cong h3 h4 h5 h9 h1⟩)
variable {k : Nat}
/-- the steps are left alone, and mostly the words of the tape -/
theorem sGo_k (hk : k = 2 ∨ k = 12) : sGo X 1 k = X 1 k := up2_ne (by omega)
theorem sFail_k {x : Int32} (hk : k = 2 ∨ k = 12) : sFail x X 1 k = X 1 k := by
  unfold sFail
  rw [up2_ne (by omega), up2_ne (by omega)]
theorem sPush_k {w : Int32} (hk : k = 2 ∨ k = 12) : sPush w X 1 k = X 1 k := sPush_lo (by decide) (by decide) (by omega)
theorem sMove_k {op d y : Int32} (hk : k = 2 ∨ k = 12) : sMove op d y X 1 k = X 1 k := by
  unfold sMove
  split
  · exact up2_ne (by omega)
  split
  · rw [(sGo_k hk), sSet_o (by decide)]
  split
  · split
    · rw [(sGo_k hk), sSet_o (by decide)]
    · rw [(sGo_k hk), sWr_o (by decide)]
  · exact (sFail_k hk)
theorem sCalc_k {op d y : Int32} (hk : k = 2 ∨ k = 12) : sCalc op d y X 1 k = X 1 k := by
  unfold sCalc
  try dsimp only
  split
  · rw [(sGo_k hk), up2_ne (by omega), up2_ne (by omega)]
  · rw [(sGo_k hk), sSet_o (by decide), up2_ne (by omega), up2_ne (by omega)]
theorem sJump_k {op y : Int32} (hk : k = 2 ∨ k = 12) : sJump op y X 1 k = X 1 k := by
  unfold sJump
  split
  · exact (sGo_k hk)
  · exact up2_ne (by omega)
theorem sPullX_k (hk : k = 2 ∨ k = 12) : sPullX X 1 k = X 1 k := up2_ne (by omega)
theorem sStack_k {op d y : Int32} (hk : k = 2 ∨ k = 12) : sStack op d y X 1 k = X 1 k := by
  unfold sStack
  split
  · split
    · rw [up2_ne (by omega), (sPush_k hk)]
    · exact (sFail_k hk)
  split
  · split
    · rw [(sGo_k hk), (sPush_k hk)]
    · exact (sFail_k hk)
  split
  · split
    · rw [up2_ne (by omega), (sPullX_k hk)]
    · rw [(sGo_k hk), sSet_o (by decide), (sPullX_k hk)]
  · exact (sFail_k hk)
theorem sRti_k (hk : k = 2 ∨ k = 12) : sRti X 1 k = X 1 k := by
  unfold sRti
  try dsimp only
  split
  · rw [up2_ne (by omega), up2_ne (by omega), (sPullX_k hk), up2_ne (by omega), up2_ne (by omega), (sPullX_k hk)]
  · exact (sFail_k hk)
theorem sInt_k (hk : k = 2 ∨ k = 12) : sInt X 1 k = X 1 k := by
  unfold sInt
  try dsimp only
  split
  · rw [up2_ne (by omega), up2_ne (by omega), (sPush_k hk), (sPush_k hk)]
    split
    · exact up2_ne (by omega)
    · exact up2_ne (by omega)
  · exact (sFail_k hk)
theorem sKey_k {d : Int32} (hk : k = 2 ∨ k = 12) : sKey d X 1 k = X 1 k := by
  unfold sKey
  split
  · rw [(sGo_k hk), sSet_o (by decide), up2_ne (by omega)]
  · rw [(sGo_k hk), sSet_o (by decide)]
theorem sTape_k {w : Int32} (hk : k = 2) : sTape w X 1 k = X 1 k := by
  unfold sTape
  split
  · exact (sFail_k (Or.inl hk))
  · split
    · rw [(sGo_k (Or.inl hk)), up2_ne (by omega), up2_b (by decide)]
    · exact (sFail_k (Or.inl hk))
theorem sCallF_k {call : Int32} (hk : k = 2 ∨ k = 12) : sCallF call X 1 k = X 1 k := by
  unfold sCallF
  split
  · rw [(sGo_k hk), up2_b (by decide), sFileX_o (by decide) (by decide) (by decide)]
  · rw [sFileX_o (by decide) (by decide) (by decide)]
theorem sCtl_k {op d y : Int32} (hk : k = 2 ∨ k = 12) (h25 : k = 12 → ¬ op = 25) : sCtl op d y X 1 k = X 1 k := by
  unfold sCtl
  split
  · rw [(sGo_k hk), up2_ne (by omega)]
  split
  · rw [(sGo_k hk), up2_ne (by omega)]
  split
  · exact (sRti_k hk)
  split
  · split
    · rfl
    · exact (sGo_k hk)
  split
  · rw [(sGo_k hk), up2_ne (by omega), up2_ne (by omega)]
  split
  · exact (sKey_k hk)
  split
  · rename_i h
    exact sTape_k (hk.resolve_right (fun hh => h25 hh h))
  · exact (sCallF_k hk)
theorem sIns_2 : sIns X 1 2 = X 1 2 := by
  have hk : 2 = 2 ∨ 2 = 12 := Or.inl rfl
  unfold sIns sDo
  try dsimp only
  split
  · split
    · split
      · split
        · split
          · split
            · exact sMove_k hk
            · exact sCalc_k hk
          · exact sJump_k hk
        · exact sStack_k hk
      · exact sCtl_k hk (fun h => absurd h (by decide))
    · exact sFail_k hk
  · exact sFail_k hk
theorem sDone_k (hk : k = 2 ∨ k = 12) : sDone X 1 k = X 1 k := by
  unfold sDone
  try dsimp only
  split
  · rw [(sGo_k hk), up2_b (by decide), up2_b (by decide), up2_b (by decide), up2_b (by decide)]
  · exact congrFun (up2_b (by decide)) k
theorem sWNB_k (hk : k = 2 ∨ k = 12) : sWNB X 1 k = X 1 k := by
  unfold sWNB
  try dsimp only
  rw [(sDone_k hk)]
  split
  · rw [sWBl_o (by decide)]
  split
  · rw [sWBl_o (by decide)]
  split
  · rw [sWBl_o (by decide)]
  · rw [sWBl_o (by decide)]
theorem sCore_2 : sCore X 1 2 = X 1 2 := by
  have hk : 2 = 2 ∨ 2 = 12 := Or.inl rfl
  unfold sCore
  split
  · exact sWNB_k hk
  split
  · exact sInt_k hk
  · exact sIns_2
/-- an instruction -/
theorem VV.ctl {op d y : Int32} {q : Nat} (h : VV X) (hc : nT (X 1 3) ≤ 254) (hy : wd y) (hF : FI X) (hK : okK q X) (hk : ∀ k, k < q → wd (X 11 k)) : VV (sCtl op d y X) ∧ (FI (sCtl op d y X) ∨ ∃ n, FW n 0 (sCtl op d y X)) := by
  have f : ∀ Y : AI, Y 3 = X 3 → Y 9 = X 9 → (FI Y ∨ ∃ n, FW n 0 Y) := fun Y h3 h9 => Or.inl (hF.cong h3 h9)
  unfold sCtl
  split
  · exact ⟨(h.b (k := 7) (by omega) (Or.inr rfl)).go (by rw [up2_ne (by decide)]; omega), f _ (by rw [sGo_o (by decide), up2_b (by decide)]) (by rw [sGo_o (by decide), up2_b (by decide)])⟩
  split
  · exact ⟨(h.b (k := 7) (by omega) (Or.inl rfl)).go (by rw [up2_ne (by decide)]; omega), f _ (by rw [sGo_o (by decide), up2_b (by decide)]) (by rw [sGo_o (by decide), up2_b (by decide)])⟩
  split
  · exact ⟨h.rti, f _ (sRti_o (by decide)) (sRti_o (by decide))⟩
  split
  · split
    · exact ⟨h, Or.inl hF⟩
    · exact ⟨h.go (by omega), f _ (sGo_o (by decide)) (sGo_o (by decide))⟩
  split
  · have hz : nT y = 0 ∨ nT 0 < nT y := by
      have : nT 0 = 0 := by decide
      omega
    exact ⟨(h.ti hy wd_0 hz).go (by rw [up2_ne (by decide), up2_ne (by decide)]; omega), f _ (by rw [sGo_o (by decide), up2_b (by decide), up2_b (by decide)]) (by rw [sGo_o (by decide), up2_b (by decide), up2_b (by decide)])⟩
  split
  · exact ⟨h.key hc hK hk, f _ (sKey_o (by decide) (by decide)) (sKey_o (by decide) (by decide))⟩
  split
  · exact ⟨h.tape hc hy, f _ (sTape_o (by decide) (by decide)) (sTape_o (by decide) (by decide))⟩
  · exact h.callf hc hF (wd_nn hy)
theorem VV.ins {q : Nat} (h : VV X) (hF : FI X) (hK : okK q X) (hk : ∀ k, k < q → wd (X 11 k)) : VV (sIns X) ∧ (FI (sIns X) ∨ ∃ n, FW n 0 (sIns X)) := by
  have f : ∀ Y : AI, Y 3 = X 3 → Y 9 = X 9 → (FI Y ∨ ∃ n, FW n 0 Y) := fun Y h3 h9 => Or.inl (hF.cong h3 h9)
  have ff : ∀ x, wd x → VV (sFail x X) ∧ (FI (sFail x X) ∨ ∃ n, FW n 0 (sFail x X)) := fun x hx => ⟨h.fail hx, f _ (sFail_o (by decide)) (sFail_o (by decide))⟩
  unfold sIns sDo
  try dsimp only
  split
  · rename_i hc
    have e := of_nT (wd_nn (h.1.2 3 (by omega)))
    have hc : nT (X 1 3) ≤ 254 := by
      have hn := (wd_n (h.1.2 3 (by omega))).2.1
      rw [← e, show Int32.ofNat (nT (X 1 3)) + (2 : Int32) = Int32.ofNat (nT (X 1 3) + 2) from eA _ 2] at hc
      have := (of_le (n := 256) (by omega) (by decide)).mp hc
      omega
    have hy : wd (if (sRd X (X 1 3) / 4) &&& 3 = sRd X (X 1 3) &&& 3 then sRd X (X 1 3 + 1) else (X 2 (nT (sRd X (X 1 3) &&& 3)) + sRd X (X 1 3 + 1)) &&& 65535) := by
      split
      · exact h.srd
      · exact wd_m _
    generalize (if (sRd X (X 1 3) / 4) &&& 3 = sRd X (X 1 3) &&& 3 then sRd X (X 1 3 + 1) else (X 2 (nT (sRd X (X 1 3) &&& 3)) + sRd X (X 1 3 + 1)) &&& 65535) = y at hy ⊢
    split
    · split
      · split
        · split
          · split
            · exact ⟨h.move hc hy, f _ (sMove_o (by decide) (by decide) (by decide)) (sMove_o (by decide) (by decide) (by decide))⟩
            · exact ⟨h.calc hc, f _ (sCalc_o (by decide) (by decide)) (sCalc_o (by decide) (by decide))⟩
          · exact ⟨h.jump hc hy, f _ (sJump_o (by decide)) (sJump_o (by decide))⟩
        · exact ⟨h.stack hc hy, f _ (sStack_o (by decide) (by decide) (by decide)) (sStack_o (by decide) (by decide) (by decide))⟩
      · exact h.ctl hc hy hF hK hk
    · exact ff 2 (wd_nat (n := 2) (by decide))
  · exact ff 1 wd_1
/-- a write of a block -/
theorem VV.wnb {n d : Nat} (h : VV X) (hF : FW n d X) : VV (sWNB X) ∧ FF (sWNB X) := by
  have hF' := hF
  obtain ⟨⟨⟨⟨w1, w2, w3⟩, ⟨w4, w5⟩, w6, w7⟩, w8⟩, -⟩ := hF'
  have en : nT (X 3 0) = n := by rw [w4]; exact nT_of (by omega)
  have ed : nT (X 3 1) = d := by rw [w5]; exact nT_of (by omega)
  have key : ∀ Z : AI, (∀ c, c < 8 → Z c = X c) → Z 9 = (if d < n then kB (X 9) (1 + d) (fun k => X 5 (8 * d + k)) else if d = n then kB (X 9) 0 (sHd n (X 4) (X 5)) else if d ≤ 2 * n then kB (X 9) (bsX X (d - n - 1)) (fun k => X 5 (8 * (d - n - 1) + k)) else kB (X 9) 0 (fun _ => 0)) → VV (sDone Z) ∧ FF (sDone Z) := fun Z hZ h9 => by
    have e1 : Z 3 1 + 1 = Int32.ofNat (d + 1) := by rw [hZ 3 (by decide), w5, of_s]
    unfold sDone
    try dsimp only
    rw [e1]
    have hV : VV (up2 Z 3 1 (Int32.ofNat (d + 1))) := (h.cong (hZ 1 (by decide)) (hZ 2 (by decide)) (hZ 6 (by decide)) (hZ 7 (by decide))).o (by decide)
    have h30 : up2 Z 3 1 (Int32.ofNat (d + 1)) 3 0 = Int32.ofNat n := by rw [up2_ne (by decide), hZ 3 (by decide)]; exact w4
    have h31 : up2 Z 3 1 (Int32.ofNat (d + 1)) 3 1 = Int32.ofNat (d + 1) := up2_eq
    have hb : ∀ c, ¬ c = 3 → up2 Z 3 1 (Int32.ofNat (d + 1)) c = Z c := fun c hc => up2_b hc
    generalize up2 Z 3 1 (Int32.ofNat (d + 1)) = Y at hV h30 h31 hb ⊢
    have hl : sLeft Y = Int32.ofNat (2 * n + 1 - d) := by
      unfold sLeft
      rw [h30, h31, if_neg (of_nz (by omega) (by omega)), show (2 : Int32) * Int32.ofNat n = Int32.ofNat (2 * n) from eM 2 n, show Int32.ofNat (2 * n) + (2 : Int32) = Int32.ofNat (2 * n + 2) from eA _ 2]
      have : Int32.ofNat (2 * n + 2) = Int32.ofNat (2 * n + 1 - d) + Int32.ofNat (d + 1) := by
        rw [eA]; congr 1; omega
      rw [this]
      grind
    by_cases hd : d = 2 * n + 1
    · rw [if_pos (by rw [hl, hd]; exact congrArg Int32.ofNat (Nat.sub_self _))]
      rw [if_neg (by omega), if_neg (by omega), if_neg (by omega)] at h9
      have hV2 : VV (up2 (up2 (up2 Y 3 0 0) 3 1 0) 2 3 0) := ((hV.o (by decide)).o (by decide)).r2 wd_0
      have e13 : up2 (up2 (up2 Y 3 0 0) 3 1 0) 2 3 0 1 = X 1 := by rw [up2_b (by decide), up2_b (by decide), up2_b (by decide), hb 1 (by decide)]; exact hZ 1 (by decide)
      refine ⟨hV2.go (by rw [e13]; omega), Or.inl ?_⟩
      subst hd
      refine hF.last ⟨?_, ?_⟩ ?_
      · rw [sGo_o (by decide), up2_b (by decide), up2_ne (by decide), up2_eq]
      · rw [sGo_o (by decide), up2_b (by decide), up2_eq]
      · rw [sGo_o (by decide), up2_b (by decide), up2_b (by decide), up2_b (by decide), hb 9 (by decide)]; exact h9
    · rw [if_neg (by rw [hl]; exact of_nz (by omega) (by omega))]
      refine ⟨hV, Or.inr ⟨n, d + 1, hF.next hd ⟨h30, h31⟩ ?_ ?_ ?_ ?_⟩⟩
      · rw [hb 4 (by decide)]; exact hZ 4 (by decide)
      · rw [hb 5 (by decide)]; exact hZ 5 (by decide)
      · rw [hb 1 (by decide), hZ 1 (by decide)]
      · rw [hb 9 (by decide), h9]
        by_cases c1 : d < n
        · rw [if_pos c1, if_pos c1]
        · rw [if_neg c1, if_neg c1]
          by_cases c2 : d = n
          · rw [if_pos c2, if_pos c2]
          · rw [if_neg c2, if_neg c2, if_pos (by omega)]
  unfold sWNB
  try dsimp only
  rw [en, ed]
  have o : ∀ b f c, c < 8 → sWBl b f X c = X c := fun b f c hc => sWBl_o (by omega)
  refine key _ (fun c hc => ?_) ?_
  · split
    · exact o _ _ c hc
    split
    · exact o _ _ c hc
    split
    · exact o _ _ c hc
    · exact o _ _ c hc
  · by_cases c1 : d < n
    · rw [if_pos c1, if_pos c1]; exact sWBl_w
    rw [if_neg c1, if_neg c1]
    by_cases c2 : d = n
    · rw [if_pos c2, if_pos c2]; exact sWBl_w
    rw [if_neg c2, if_neg c2]
    by_cases c3 : d ≤ 2 * n
    · rw [if_pos c3, if_pos c3]; exact sWBl_w
    · rw [if_neg c3, if_neg c3]; exact sWBl_w
/-- what holds of a machine between its steps: so many keys, so many steps -/
def Inv (q s : Nat) (X : AI) : Prop := (VV X ∧ FF X) ∧ (okK q X ∧ ∀ k, k < q → wd (X 11 k)) ∧ X 1 2 = Int32.ofNat s
theorem Inv.lo {q s : Nat} (h : Inv q s X) {Y : AI} (hY : ∀ c, c < 20 → Y c = X c) : Inv q s Y := by
  obtain ⟨⟨a, b⟩, ⟨c, d⟩, e⟩ := h
  refine ⟨⟨a.cong (hY 1 (by decide)) (hY 2 (by decide)) (hY 6 (by decide)) (hY 7 (by decide)), b.cong (hY 3 (by decide)) (hY 4 (by decide)) (hY 5 (by decide)) (hY 9 (by decide)) (by rw [hY 1 (by decide)])⟩, ⟨?_, ?_⟩, ?_⟩
  · unfold okK at c ⊢
    rw [hY 10 (by decide), hY 12 (by decide)]
    exact c
  · rw [hY 11 (by decide)]
    exact d
  · rw [hY 1 (by decide)]
    exact e
theorem Inv.core {q s : Nat} (h : Inv q s X) : VV (sCore X) ∧ FF (sCore X) := by
  obtain ⟨⟨a, b⟩, ⟨c, d⟩, e⟩ := h
  unfold sCore
  rcases b with hF | ⟨n, dd, hF⟩
  · have hz : sLeft X = 0 := by unfold sLeft; rw [if_pos hF.1.1]
    rw [if_neg (by rw [hz]; decide)]
    split
    · exact ⟨a.int, Or.inl (hF.cong (sInt_o (by decide) (by decide)) (sInt_o (by decide) (by decide)))⟩
    · obtain ⟨u, v⟩ := a.ins hF c d
      exact ⟨u, v.elim Or.inl (fun ⟨n, hn⟩ => Or.inr ⟨n, 0, hn⟩)⟩
  · obtain ⟨⟨⟨⟨w1, w2, w3⟩, ⟨w4, w5⟩, -⟩, -⟩, -⟩ := id hF
    have hl : sLeft X = Int32.ofNat (2 * n + 2 - dd) := by
      unfold sLeft
      rw [w4, w5, if_neg (of_nz (by omega) (by omega)), show (2 : Int32) * Int32.ofNat n = Int32.ofNat (2 * n) from eM 2 n, show Int32.ofNat (2 * n) + (2 : Int32) = Int32.ofNat (2 * n + 2) from eA _ 2]
      have : Int32.ofNat (2 * n + 2) = Int32.ofNat (2 * n + 2 - dd) + Int32.ofNat dd := by
        rw [eA]; congr 1; omega
      rw [this]
      grind
    rw [if_pos (by rw [hl]; exact (of_lt (m := 0) (by decide) (by omega)).mpr (by omega))]
    exact a.wnb hF
theorem VV.time (h : VV X) : VV (sTime X) := by
  unfold sTime
  try dsimp only
  split
  · exact h
  · rename_i h0
    have w10 := h.1.2 10 (by omega)
    have w11 := h.1.2 11 (by omega)
    have e10 := of_nT (wd_nn w10)
    have e11 := of_nT (wd_nn w11)
    have n10 := (wd_n w10).2.1
    have hp : ¬ nT (X 1 10) = 0 := fun hh => h0 (by rw [← e10, hh]; decide)
    have hlt : nT (X 1 11) < nT (X 1 10) := h.2.2.2.resolve_left hp
    have e : X 1 11 + 1 = Int32.ofNat (nT (X 1 11) + 1) := by
      rw [← e11, of_s, nT_of (by omega)]
    have u : up2 X 1 10 (X 1 10) = X := up2_self rfl
    have g : ∀ z, wd z → nT z < nT (X 1 10) → VV (up2 X 1 11 z) := fun z hz hlz => by
      have := h.ti w10 hz (Or.inr hlz)
      rw [u] at this
      exact this
    rw [up2_eq, up2_ne (by decide)]
    split
    · rw [up2_2]
      exact (g 0 wd_0 (by rw [show nT 0 = 0 from by decide]; omega)).b (by omega) (Or.inr rfl)
    · rename_i hne
      rw [e] at hne ⊢
      refine g _ (wd_nat (by omega)) ?_
      rw [nT_of (by omega)]
      rcases Nat.lt_or_ge (nT (X 1 11) + 1) (nT (X 1 10)) with hh | hh
      · exact hh
      · exact absurd (by rw [← e10]; congr 1; omega) hne
theorem sTime_13 : sTime X 1 3 = X 1 3 ∧ sTime X 1 2 = X 1 2 := by
  unfold sTime
  try dsimp only
  split
  · exact ⟨rfl, rfl⟩
  split
  · exact ⟨by rw [up2_ne (by decide), up2_ne (by decide), up2_ne (by decide)], by rw [up2_ne (by decide), up2_ne (by decide), up2_ne (by decide)]⟩
  · exact ⟨up2_ne (by decide), up2_ne (by decide)⟩
theorem sKeys_13 : sKeys X 1 3 = X 1 3 ∧ sKeys X 1 2 = X 1 2 := by
  unfold sKeys
  split
  · exact ⟨up2_ne (by decide), up2_ne (by decide)⟩
  · exact ⟨rfl, rfl⟩
theorem VV.st (h : VV X) {v : Int32} : VV (up2 X 1 2 v) := by
  obtain ⟨⟨a1, a2⟩, ⟨⟨p, p1, p2⟩, ⟨t, t1, t2, t3⟩, r, r1, r2⟩, a6, a7⟩ := h
  have e : ∀ j, ¬ j = 2 → up2 X 1 2 v 1 j = X 1 j := fun j hj => up2_ne (fun hh => hj hh.2)
  have o : ∀ c, ¬ c = 1 → up2 X 1 2 v c = X c := fun c hc => up2_b hc
  refine ⟨⟨fun j h5 h9 => ?_, fun j hj => ?_⟩, ⟨⟨p, ?_, p2⟩, ⟨t, ?_, t2, ?_⟩, r, ?_, r2⟩, ?_, ?_⟩
  · rw [e j (by omega)]; exact a1 j h5 h9
  · rw [e j (by omega)]; exact a2 j hj
  · rw [e 4 (by omega)]; exact p1
  · rw [e 12 (by omega)]; exact t1
  · rw [o 7 (by decide)]; exact t3
  · rw [e 13 (by omega)]; exact r1
  · rw [o 2 (by decide), o 6 (by decide)]; exact a6
  · rw [e 10 (by omega), e 11 (by omega)]; exact a7
theorem Inv.step {q s : Nat} (h : Inv q s X) : Inv q (s + 1) (sStep X) := by
  have hB : Inv q s (sBegin X) := h.lo (fun c hc => sBegin_lo hc)
  obtain ⟨a, b⟩ := hB.core
  obtain ⟨-, ⟨c, d⟩, e⟩ := hB
  unfold sStep
  try dsimp only
  rw [sCore_2, e]
  have es : Int32.ofNat s + 1 = Int32.ofNat (s + 1) := of_s s
  rw [es]
  have eK : sCore (sBegin X) 10 = sBegin X 10 ∧ sCore (sBegin X) 11 = sBegin X 11 ∧ sCore (sBegin X) 12 = sBegin X 12 := ⟨sCore_o (by decide), sCore_o (by decide), sCore_o (by decide)⟩
  generalize sCore (sBegin X) = C at a b eK ⊢
  have a1 : VV (up2 C 1 2 (Int32.ofNat (s + 1))) := a.st
  have bo : ∀ k, ¬ k = 1 → sKeys (sTime (up2 C 1 2 (Int32.ofNat (s + 1)))) k = C k := fun k hk => by
    rw [sKeys_o hk, sTime_o hk, up2_b hk]
  refine ⟨⟨?_, b.cong (bo 3 (by decide)) (bo 4 (by decide)) (bo 5 (by decide)) (bo 9 (by decide)) ?_⟩, ⟨?_, ?_⟩, ?_⟩
  · have a2 := a1.time
    unfold sKeys
    split
    · exact a2.b (by omega) (Or.inr rfl)
    · exact a2
  · rw [sKeys_13.1, sTime_13.1, up2_ne (by decide)]
  · unfold okK at c ⊢
    rw [bo 10 (by decide), bo 12 (by decide), eK.1, eK.2.2]
    exact c
  · rw [bo 11 (by decide), eK.2.1]
    exact d
  · rw [sKeys_13.2, sTime_13.2, up2_eq]
/-- what the class's step and the model's may take as given -/
theorem Inv.okm {q s : Nat} (h : Inv q s X) : okM X := by
  obtain ⟨⟨a, b⟩, -, -⟩ := h
  rcases b with hF | ⟨n, d, hF⟩
  · refine ⟨a.1.1, ⟨hF.2.2.1.1, a.2.2.1.1⟩, ?_, fun hh => ?_⟩
    · unfold cnt
      rw [hF.1.1]
      exact ⟨by decide, by decide⟩
    · have hz : sLeft X = 0 := by unfold sLeft; rw [if_pos hF.1.1]
      rw [hz] at hh
      exact absurd hh (by decide)
  · obtain ⟨⟨⟨⟨w1, w2, w3⟩, ⟨w4, w5⟩, w6, w7⟩, w8⟩, -, wa, -, b3, b4⟩ := hF
    have hD : ∀ k, k < 256 → wd (X 9 k) := by
      by_cases hd : d ≤ n
      · exact (b3 hd).2.1.1
      · exact (b4 (by omega)).1.1
    have en : nT (X 3 0) = n := by rw [w4]; exact nT_of (by omega)
    have ed : nT (X 3 1) = d := by rw [w5]; exact nT_of (by omega)
    refine ⟨a.1.1, ⟨hD, a.2.2.1.1⟩, ?_, fun _ => ⟨?_, ?_⟩⟩
    · unfold cnt
      rw [en]
      exact ⟨w4, w2⟩
    · unfold dn
      rw [ed, en]
      exact ⟨w5, w3⟩
    · unfold nb
      rw [en]
      exact w6
end SV
