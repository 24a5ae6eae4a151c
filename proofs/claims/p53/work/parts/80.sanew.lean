/-! the sum anew, in both -/
section SA
variable {kad : Nat → Nat} {N : Nat} {Z : AZ} {g m q s kc a κ : Nat} {I : AI} {K B X : AI} {M D : Nat → Int32} {W V : Int32}
theorem Inv.aw {t : Int32} (h : Inv q s X) : Inv q s (aw t X) := by
  obtain ⟨⟨a, b⟩, ⟨c, d⟩, e⟩ := h
  refine ⟨⟨a.cong aw_r1 aw_r2 aw_r6 aw_r7, b.cong aw_r3 aw_r4 aw_r5 aw_r9 (by rw [aw_r1])⟩, ⟨?_, ?_⟩, ?_⟩
  · unfold okK at c ⊢
    rw [aw_r10, aw_r12]
    exact c
  · rw [aw_r11]
    exact d
  · rw [aw_r1]
    exact e
theorem CG.cong {J : AI} (h : CG g K B s kc I) (hJ : ∀ b, b = g ∨ (g + 114 < b ∧ b < g + 131) ∨ (g + 182 ≤ b ∧ b < g + 1982) → J b = I b) : CG g K B s kc J := by
  refine ⟨h.1.cong (fun b b1 b2 => hJ b (by omega)), by rw [hJ g (Or.inl rfl)]; exact h.2.1, fun j j1 j2 => (h.2.2 j j1 j2).cong (fun b b1 b2 => hJ b (Or.inr (Or.inr ?_)))⟩
  have : j % 200 < 200 := Nat.mod_lt _ (by decide)
  omega
/-- a machine aside makes a step -/
theorem spare_step (hN : 2000 ≤ N) (ha : sh8 kad Z a) (hd : κ + 9 ≤ a ∨ a + 17 ≤ κ) (hk : Z.2.1 a 7 (Z.2.2 a 7 κ) = κ) (hX : okM X) (H : RM a I X) : Ok (f83 kad N Z a κ I) (fun _ J => RM a J (sStep X) ∧ ∀ b, ¬ (a ≤ b ∧ b < a + 17) → ¬ (κ ≤ b ∧ b < κ + 9) → J b = I b) := by
  refine (C83 hN ha hd hk hX H).mono fun v J HJ => ⟨HJ.rm, fun b h1 h2 => ?_⟩
  rw [HJ.2.2.1 b h1 h2, up2_b (by omega)]
theorem C164_l (hN : 2000 ≤ N) (hg : sh10 kad Z g) (zs : Z.2.1 (g + 143) 7 (Z.2.2 (g + 143) 7 (g + 169)) = g + 169) (hI : ∀ j, Inv q j (tr K B j)) (hB : B 1 2 = 0) {n : Nat} (hn : n ≤ 1000) (hr : ∀ j, j < n → tr K B j 1 0 = 1) : ∀ (r i F : Nat) (I : AI), i + r = n → r < F → RM (g + 143) I (tr K B i) → Ok (f164_b72 kad N Z F g (Int32.ofNat n) (Int32.ofNat i) I) (fun v J => v = .inl (Int32.ofNat (sumX (tr K B n))) ∧ ∀ b, ¬ (g + 143 ≤ b ∧ b < g + 178) → J b = I b) := by
  intro r
  induction r with
  | zero =>
    intro i F I hi hF H
    obtain ⟨F, rfl⟩ : ∃ G, F = G + 1 := ⟨F - 1, by omega⟩
    unfold f164_b72 f164_b104
    have e : i = n := by omega
    subst e
    rw [if_pos (Int32.le_refl _), K112 hN (sh10_s8 hg) H ((hI i).sw (by omega)), Option.bind_some]
    exact Ok.ret ⟨rfl, fun _ _ => rfl⟩
  | succ r ih =>
    intro i F I hi hF H
    obtain ⟨F, rfl⟩ : ∃ G, F = G + 1 := ⟨F - 1, by omega⟩
    unfold f164_b72
    rw [if_neg (fun h => absurd ((of_le (by omega) (by omega)).mp h) (by omega)), K82 H (tr_2 hB i) (by omega), if_pos ⟨hr i (by omega), by omega⟩, Option.bind_some]
    dsimp only
    rw [if_neg (show ¬ (1 : Int32) = 0 by decide)]
    refine (spare_step hN (sh10_s8 hg) (by omega) zs (hI i).okm H).bind fun v J ⟨a1, a2⟩ => ?_
    dsimp only
    rw [← tr_s] at a1
    rw [of_s]
    refine (ih (i + 1) F J (by omega) (by omega) a1).mono fun v J2 ⟨b1, b2⟩ => ⟨b1, fun b hb => ?_⟩
    rw [b2 b hb, a2 b (by omega) (by omega)]
theorem K73 {x y : Nat} (hK : okK q K) (h0 : I y 0 = K 10 0) (hk : ∀ k, k < q → I (y + 1) k = K 11 k ∧ I (y + 2) k = K 12 k) (hxy : x + 3 ≤ y ∨ y + 3 ≤ x) : Ok (f73 kad N Z x y I) (fun _ J => J x 0 = K 10 0 ∧ (∀ k, k < q → J (x + 1) k = K 11 k ∧ J (x + 2) k = K 12 k) ∧ ∀ b, ¬ b = x → ¬ b = x + 1 → ¬ b = x + 2 → J b = I b) := by
  have hq := hK.2.1
  unfold f73
  rw [h0]
  refine Ok.w ?_
  rw [show cA (up2 I x 0 (K 10 0)) (y + 1) 20 (0 : Int32) (x + 1) 20 (0 : Int32) (20 : Int32) = some (cpI (up2 I x 0 (K 10 0)) (y + 1) (x + 1) 0 0 20) from cA_ok (s := 0) (d := 0) (n := 20) (by decide) (by decide), Option.bind_some, show cA (cpI (up2 I x 0 (K 10 0)) (y + 1) (x + 1) 0 0 20) (y + 2) 20 (0 : Int32) (x + 2) 20 (0 : Int32) (20 : Int32) = some (cpI (cpI (up2 I x 0 (K 10 0)) (y + 1) (x + 1) 0 0 20) (y + 2) (x + 2) 0 0 20) from cA_ok (s := 0) (d := 0) (n := 20) (by decide) (by decide), Option.bind_some]
  refine Ok.ret ⟨?_, fun k hk2 => ⟨?_, ?_⟩, fun b b1 b2 b3 => ?_⟩
  · rw [cpI_b (by omega), cpI_b (by omega), up2_eq]
  · rw [cpI_b (by omega), cpI_at (by omega), up2_b (by omega), show 0 + (k - 0) = k from by omega]
    exact (hk k hk2).1
  · rw [cpI_at (by omega), cpI_b (by omega), up2_b (by omega), show 0 + (k - 0) = k from by omega]
    exact (hk k hk2).2
  · rw [cpI_b b3, cpI_b b2, up2_b b1]
theorem RM.ck2 (H : RM (g + 114) I (tr K B s)) (hK : okK q K) : CK q (g + 114) K I := by
  have hKX : okK q (tr K B s) := by
    unfold okK at hK ⊢
    rw [tr_key (by decide), tr_key (by decide)]
    exact hK
  exact (H.ck hKX).cong (tr_key (by decide)).symm (tr_key (by decide)).symm (tr_key (by decide)).symm
theorem C164_on (hN : 2000 ≤ N) (hg : sh10 kad Z g) (zs : Z.2.1 (g + 143) 7 (Z.2.2 (g + 143) 7 (g + 169)) = g + 169) (hG : Gd q K (wake M D W) s kc) (h0 : ¬ tr K (wake M D W) s 1 0 = 0) (hK : okK q K) (hD : D 0 = 0 ∧ WF D) (H : CG g K (wake M D W) s kc I) (hS : CS g M D I) (i : Int32) : Ok (f164 kad N Z g i I) (fun r J => (bad i 0 (Int32.ofNat s) → r = rx [1, 0] 2 0 ∧ J = I) ∧ (¬ bad i 0 (Int32.ofNat s) → r = rx [1, 0] 0 (Int32.ofNat (sumX (tr K (wake M D W) (nT i)))) ∧ CG g K (wake M D W) s kc J ∧ CS g M D J ∧ frX g I J)) := by
  have hs := hG.2.1.2.2
  have e2 : I (g + 115) 2 = Int32.ofNat s := (H.1.q1 (k := 2)).trans (tr_2 hG.1.2 s)
  unfold f164
  rw [K165 H.1, if_neg h0, Option.bind_some]
  unfold xB
  dsimp only
  rw [e2, K138, Option.bind_some]
  by_cases hb : bad i 0 (Int32.ofNat s)
  · rw [if_pos (show i < 0 ∨ Int32.ofNat s < i from hb)]
    exact Ok.ret ⟨fun _ => ⟨rfl, rfl⟩, fun h => absurd hb h⟩
  · rw [if_neg (show ¬ (i < 0 ∨ Int32.ofNat s < i) from hb)]
    obtain ⟨e, -, en⟩ := in_nat (a := 0) (b := s) hb (by decide) (by omega)
    dsimp only
    rw [show cA I (g + 142) 256 (0 : Int32) (g + 152) 256 (0 : Int32) (256 : Int32) = some (cpI I (g + 142) (g + 152) 0 0 256) from cA_ok (s := 0) (d := 0) (n := 256) (by decide) (by decide), Option.bind_some]
    have hck := H.1.ck2 hK
    refine (K73 (K := K) hK (by rw [cpI_b (by omega)]; exact hck.1) (fun k hk => by rw [cpI_b (by omega), cpI_b (by omega)]; exact hck.2 k hk) (by omega)).bind fun _ J ⟨j1, j2, j3⟩ => ?_
    dsimp only
    have j4 : ∀ b, ¬ b = g + 152 → ¬ b = g + 153 → ¬ b = g + 154 → ¬ b = g + 155 → J b = I b := fun b b1 b2 b3 b4 => by rw [j3 b b2 b3 b4, cpI_b b1]
    refine (C80 (M := M) (D := D) (r := 0) (D' := D) (W := J (g + 151) 1) hN (sh10_s8 hg) hK ⟨j1, j2⟩ (Or.inl ⟨hD.1, hD.2, rfl, rfl⟩) (fun k hk => ?_) rfl (sh10_a6 hg) (by omega) (fun k hk => ?_)).bind fun _ Q ⟨_, q2, q3⟩ => ?_
    · rw [show g + 143 + 9 = g + 152 from rfl, j3 _ (by omega) (by omega) (by omega), cpI_at (by omega), show 0 + (k - 0) = k from by omega]
      exact (hS k hk).2
    · rw [j4 _ (by omega) (by omega) (by omega) (by omega)]
      exact (hS k hk).1
    · dsimp only
      have htr : ∀ j, tr K (wake M D (J (g + 151) 1 + Int32.ofNat 0)) j = aw (J (g + 151) 1 + Int32.ofNat 0 - W) (tr K (wake M D W) j) := fun j => tr_aw j
      have hl := C164_l (q := q) hN hg zs (K := K) (B := wake M D (J (g + 151) 1 + Int32.ofNat 0)) (n := nT i) (fun j => by rw [htr]; exact (hG.1.1.trj j).aw) hG.1.2 (by omega) (fun j hj => by rw [htr, aw_r1]; exact hG.2.2 j (by omega)) (nT i) 0 N Q (by omega) (by omega) q2
      rw [← e] at hl
      refine hl.mono fun r J2 ⟨r1, r2⟩ => ⟨fun h => absurd h hb, fun _ => ?_⟩
      have fin : ∀ b, ¬ (g + 143 ≤ b ∧ b < g + 178) → J2 b = I b := fun b hb => by
        rw [r2 b hb, q3 b (by omega), j4 b (by omega) (by omega) (by omega) (by omega)]
      refine ⟨by rw [r1, htr, sumX_aw]; rfl, H.cong (fun b hb => fin b (by omega)), fun k hk => ?_, fun b b1 b2 b3 => fin b (by omega), fun j _ => by rw [fin g (by omega)]⟩
      rw [fin _ (by omega), fin _ (by omega)]
      exact hS k hk
theorem C164_off (H : RM (g + 114) I X) (h0 : X 1 0 = 0) (i : Int32) : f164 kad N Z g i I = some (rx [1, 0] 1 0, I) := by
  unfold f164
  rw [K165 H, if_pos h0, Option.bind_some]
  rfl
end SA
