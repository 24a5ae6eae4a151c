/-! the steps of a test, in both at once -/
def frU (m : Nat) (I J : AI) : Prop := ∀ b j, ¬ TW m b j → ¬ (b = m ∧ j = 43) → ¬ b = m + 18 → ¬ b = m + 19 → J b j = I b j
def frA (a κ τ : Nat) (I J : AI) : Prop := ∀ b, ¬ (a ≤ b ∧ b < a + 17) → ¬ (κ ≤ b ∧ b < κ + 9) → ¬ b = τ → J b = I b
def tDone (a κ τ t : Nat) (T I : AI) (v : Int32) (J : AI) : Prop := (J τ 2 = v ∧ J τ 9 = (if T 8 t = 0 then (if v = 0 then 1 else 0) else 1)) ∧ (∀ j, ¬ j = 2 → ¬ j = 9 → J τ j = I τ j) ∧ frA a κ τ I J
section TR
variable {kad : Nat → Nat} {N : Nat} {Z : AZ} {a b m n t τ κ bu : Nat} {I J T X : AI} {v w : Int32} {M : Nat → Int32}
theorem CTt.cong (h : CTt τ t T I) (hJ : ∀ b, τ ≤ b → b < τ + 3 → J b = I b) : CTt τ t T J := by
  unfold CTt at h ⊢
  rw [hJ τ (by omega) (by omega), hJ (τ + 1) (by omega) (by omega), hJ (τ + 2) (by omega) (by omega)]
  exact h
theorem MTt.cong (h : MTt m t T I) (hJ : ∀ b j, m + 28 ≤ b → b ≤ m + 39 → J b j = I b j) : MTt m t T J := by
  have e : ∀ b, m + 28 ≤ b → b ≤ m + 39 → J b = I b := fun b b1 b2 => funext fun j => hJ b j b1 b2
  unfold MTt at h ⊢
  rw [e (m + 31) (by omega) (by omega), e (m + 33) (by omega) (by omega), e (m + 38) (by omega) (by omega), e (m + 39) (by omega) (by omega), e (m + 34) (by omega) (by omega), e (m + 35) (by omega) (by omega), e (m + 36) (by omega) (by omega), e (m + 37) (by omega) (by omega), e (m + 30) (by omega) (by omega), e (m + 32) (by omega) (by omega)]
  exact h
theorem nTW28 {b j : Nat} (hb : m + 26 ≤ b ∨ b = m + 14) : ¬ TW m b j := fun h => by
  rcases h with h | h
  · have := h.1; omega
  · rcases h with h | h | h | h | h | h | h | h | h <;> omega
theorem frU.rfl' : frU m I I := fun _ _ _ _ _ _ => rfl
theorem frU.trans {Q : AI} (h : frU m I J) (h2 : frU m J Q) : frU m I Q := fun b j b1 b2 b3 b4 => (h2 b j b1 b2 b3 b4).trans (h b j b1 b2 b3 b4)
theorem frU.mt (h : frU m I J) (hT : MTt m t T I) : MTt m t T J := hT.cong (fun b j b1 b2 => h b j (nTW28 (Or.inl (by omega))) (by omega) (by omega) (by omega))
theorem frU.row (h : frU m I J) {k : Nat} : J (m + 14) k = I (m + 14) k := h _ _ (nTW28 (Or.inr rfl)) (by omega) (by omega) (by omega)
/-- the judge's word is written down -/
theorem K127 (hN : 2000 ≤ N) (H : RM a I X) (hT : CTt τ t T I) (h8 : T 8 t = 0 ∨ T 8 t = 1) (hz : Z.1 (τ + 2) = some (100, 6)) (h2 : upto 6 (T 2 t)) (hx : ∃ tp, X 1 12 = Int32.ofNat tp ∧ tp ≤ 60) (hw : X 9 0 = 0 → LW (X 9)) : ∃ v, jdg T t X v ∧ Ok (f120_b127 kad N Z τ a κ I) (fun _ J => tDone a κ τ t T I v J) := by
  obtain ⟨v, v1, v2⟩ := K121 (kad := kad) (Z := Z) hN H hT hz h2 hx hw
  refine ⟨v, v2, ?_⟩
  unfold f120_b127 f120_b151 f120_b156
  rw [v1, Option.bind_some]
  refine Ok.w ?_
  have e9 : up2 I τ 2 v τ 9 = T 8 t := by rw [up2_ne (by omega)]; exact hT.1.2.2.2
  have fin : ∀ u : Int32, (u = 0 ∨ u = 1) → u = (if T 8 t = 0 then (if v = 0 then 1 else 0) else 1) → Ok ((wB (up2 I τ 2 v) τ 9 u).bind fun I156_1 => some ((), I156_1)) (fun _ J => tDone a κ τ t T I v J) := fun u hu he => by
    unfold wB
    rw [if_pos hu, Option.bind_some]
    refine Ok.ret ⟨⟨?_, ?_⟩, fun j j2 j9 => ?_, fun b b1 b2 b3 => ?_⟩
    · rw [up2_ne (by omega), up2_eq]
    · rw [up2_eq, he]
    · rw [up2_ne (fun hh => j9 hh.2), up2_ne (fun hh => j2 hh.2)]
    · rw [up2_b b3, up2_b b3]
  by_cases h : T 8 t = 0
  · rw [if_neg (show ¬ ¬ up2 I τ 2 v τ 9 = 0 from fun hh => hh (e9.trans h))]
    by_cases hv : v = 0
    · rw [if_neg (show ¬ ¬ up2 I τ 2 v τ 2 = 0 from fun hh => hh (up2_eq.trans hv))]
      exact fin 1 (Or.inr rfl) (by rw [if_pos h, if_pos hv])
    · rw [if_pos (show ¬ up2 I τ 2 v τ 2 = 0 from fun hh => hv (up2_eq.symm.trans hh))]
      exact fin 0 (Or.inl rfl) (by rw [if_pos h, if_neg hv])
  · rw [if_pos (show ¬ up2 I τ 2 v τ 9 = 0 from fun hh => h (e9.symm.trans hh))]
    exact fin 1 (Or.inr rfl) (by rw [if_neg h])
theorem T_loop (hN : 2000 ≤ N) (ha : sh8 kad Z a) (hm : sh11 kad Z m) (hd : κ + 9 ≤ a ∨ a + 17 ≤ κ) (zk : Z.2.1 a 7 (Z.2.2 a 7 κ) = κ) (zb : Z.1 b = some (100, 256)) (hb : b < a ∨ a + 17 ≤ b) (hbκ : b < κ ∨ κ + 9 ≤ b) (hτ : τ + 3 ≤ a ∨ a + 17 ≤ τ) (hτκ : τ + 3 ≤ κ ∨ κ + 9 ≤ τ) (hz : Z.1 (τ + 2) = some (100, 6)) (ht : t < 5) (hM : ∀ k, k < 256 → wd (M k)) (h2 : upto 6 (T 2 t)) (h3 : T 3 t = Int32.ofNat bu) (hbu : bu ≤ 500) (h8 : T 8 t = 0 ∨ T 8 t = 1) :
    ∀ (r i q s F F' : Nat) (X I J : AI), i + r = bu → r < F → r < F' → Inv q s X → s ≤ i → RM a I X → ML m J X → CTt τ t T I → (∀ k, k < 256 → I b k = M k) → MTt m t T J → (∀ k, k < 256 → J (m + 14) k = M k) →
    ∃ v, upto 5 v ∧ Ok (f120_b63 kad N Z F τ a κ b (Int32.ofNat (i + 1)) I) (fun _ I' => tDone a κ τ t T I v I') ∧ Ok (f301_b68 kad N Z F' m (Int32.ofNat t) (Int32.ofNat i) J) (fun w J' => w = v ∧ frU m J J') := by
  intro r
  induction r with
  | zero =>
    intro i q s F F' X I J hi hF hF' hI hs H L hT hrow hS hrow'
    obtain ⟨F, rfl⟩ : ∃ G, F = G + 1 := ⟨F - 1, by omega⟩
    obtain ⟨F', rfl⟩ : ∃ G, F' = G + 1 := ⟨F' - 1, by omega⟩
    have hx : ∃ tp, X 1 12 = Int32.ofNat tp ∧ tp ≤ 60 := by
      obtain ⟨tp, a1, a2, -⟩ := hI.1.1.2.1.2.1
      exact ⟨tp, a1, a2⟩
    obtain ⟨v, v1, v2⟩ := K127 (kad := kad) (κ := κ) hN H hT h8 hz h2 hx hI.1.2.lw
    obtain ⟨u, u1, u2⟩ := M132 (kad := kad) hN ht hm L hS h2 hx hI.1.2.lw
    have huv := jdg_one u2 v1
    subst huv
    refine ⟨u, jdg_up u2, ?_, ?_⟩
    · unfold f120_b63
      rw [if_pos (show I τ 5 < Int32.ofNat (i + 1) from by rw [hT.2.1.1, h3]; exact (of_lt (by omega) (by omega)).mpr (by omega))]
      exact v2
    · unfold f301_b68
      by_cases h1 : J m 23 = 1
      · rw [if_neg (fun hh => hh h1), ixA_of ht, Option.bind_some, if_pos (show J (m + 34) t ≤ Int32.ofNat i from by rw [hS.2.1.1, h3]; exact (of_le (by omega) (by omega)).mpr (by omega)), u1]
        exact Ok.ret ⟨rfl, frU.rfl'⟩
      · rw [if_pos h1, u1]
        exact Ok.ret ⟨rfl, frU.rfl'⟩
  | succ r ih =>
    intro i q s F F' X I J hi hF hF' hI hs H L hT hrow hS hrow'
    obtain ⟨F, rfl⟩ : ∃ G, F = G + 1 := ⟨F - 1, by omega⟩
    obtain ⟨F', rfl⟩ : ∃ G, F' = G + 1 := ⟨F' - 1, by omega⟩
    have e23 : J m 23 = X 1 0 := L.q1 (k := 0)
    have c82 : f82 kad N Z a I = some (if X 1 0 = 1 ∧ s < 1000 then 1 else 0, I) := K82 H hI.2.2 (by omega)
    unfold f120_b63 f301_b68
    rw [if_neg (show ¬ I τ 5 < Int32.ofNat (i + 1) from by rw [hT.2.1.1, h3]; exact fun h => absurd ((of_lt (by omega) (by omega)).mp h) (by omega))]
    by_cases h1 : X 1 0 = 1
    · rw [if_pos (show X 1 0 = 1 ∧ s < 1000 from ⟨h1, by omega⟩)] at c82
      rw [c82, Option.bind_some]
      dsimp only
      rw [if_neg z10, if_neg (show ¬ ¬ J m 23 = 1 from fun hh => hh (e23.trans h1)), ixA_of ht, Option.bind_some, if_neg (show ¬ J (m + 34) t ≤ Int32.ofNat i from by rw [hS.2.1.1, h3]; exact fun h => absurd ((of_le (by omega) (by omega)).mp h) (by omega))]
      obtain ⟨x1, I1, e1, H1, f1⟩ := spare_step (kad := kad) hN ha hd zk hI.okm H
      obtain ⟨x2, J1, e2, L1⟩ := hI.m (kad := kad) (Z := Z) hN hm L (by omega)
      have hI1 := hI.step
      have L1' : ML m J1 (sStep X) := MR.ml (e := 0) L1
      have g1 : frU m J J1 := fun b j b1 _ _ _ => L1.2.2.2 b j (fun h => b1 h.tw)
      have hT1 : CTt τ t T I1 := hT.cong (fun b b1 b2 => f1 b (by omega) (by omega))
      have hrow1 : ∀ k, k < 256 → I1 b k = M k := fun k hk => by rw [f1 b (by omega) (by omega)]; exact hrow k hk
      have hS1 : MTt m t T J1 := g1.mt hS
      have hrow1' : ∀ k, k < 256 → J1 (m + 14) k = M k := fun k hk => by rw [g1.row]; exact hrow' k hk
      rw [e1, Option.bind_some, e2, Option.bind_some]
      dsimp only
      have e6c : I1 τ 8 = T 6 t := hT1.2.1.2.2.2
      have e6m : J1 (m + 37) t = T 6 t := hS1.2.1.2.2.2
      have eS : Int32.ofNat i + 1 = Int32.ofNat (i + 1) := of_s i
      rw [Option.bind_some]
      unfold f120_b121
      have lift : ∀ (X2 I2 J2 : AI) (q2 s2 : Nat), Inv q2 s2 X2 → s2 ≤ i + 1 → RM a I2 X2 → ML m J2 X2 → (∀ b, ¬ (a ≤ b ∧ b < a + 17) → ¬ (κ ≤ b ∧ b < κ + 9) → I2 b = I b) → frU m J J2 → ∃ v, upto 5 v ∧ Ok (f120_b63 kad N Z F τ a κ b (Int32.ofNat (i + 1) + 1) I2) (fun _ I' => tDone a κ τ t T I v I') ∧ Ok (f301_b68 kad N Z F' m (Int32.ofNat t) (Int32.ofNat i + 1) J2) (fun w J' => w = v ∧ frU m J J') := fun X2 I2 J2 q2 s2 k1 k2 k3 k4 k5 k6 => by
        obtain ⟨v, v1, v2, v3⟩ := ih (i + 1) q2 s2 F F' X2 I2 J2 (by omega) (by omega) (by omega) k1 k2 k3 k4 (hT.cong (fun b b1 b2 => k5 b (by omega) (by omega))) (fun k hk => by rw [k5 b (by omega) (by omega)]; exact hrow k hk) (k6.mt hS) (fun k hk => by rw [k6.row]; exact hrow' k hk)
        refine ⟨v, v1, ?_, by rw [eS]; exact v3.mono fun w J' ⟨w1, w2⟩ => ⟨w1, k6.trans w2⟩⟩
        rw [of_s (i + 1)]
        refine v2.mono fun _ I' ⟨x1, x2, x3⟩ => ⟨x1, fun j j2 j9 => ?_, fun b b1 b2 b3 => ?_⟩
        · rw [x2 j j2 j9, k5 τ (by omega) (by omega)]
        · rw [x3 b b1 b2 b3, k5 b b1 b2]
      have I1_1 : I1 (a + 1) 0 = sStep X 1 0 := H1.f1
      have J1_1 : J1 m 23 = sStep X 1 0 := L1'.q1 (k := 0)
      by_cases hc : Int32.ofNat (i + 1) = T 6 t
      · rw [if_neg (show ¬ ¬ Int32.ofNat (i + 1) = I1 τ 8 from fun hh => hh (hc.trans e6c.symm)), if_neg (show ¬ ¬ Int32.ofNat i + 1 = J1 (m + 37) t from fun hh => hh (eS.trans (hc.trans e6m.symm)))]
        by_cases hr : sStep X 1 0 = 1
        · rw [if_neg (show ¬ ¬ I1 (a + 1) 0 = 1 from fun hh => hh (I1_1.trans hr)), if_neg (show ¬ ¬ J1 m 23 = 1 from fun hh => hh (J1_1.trans hr))]
          obtain ⟨rr, D', hmd, -, hD0, hDw⟩ := hI1.1.2.dk.md
          obtain ⟨x3, I2, e3, H2, f2⟩ := C81 (kad := kad) hN ha hI1.2.1.1 (H1.ck hI1.2.1.1) (D := sStep X 9) (W := sStep X 8 1) (fun k hk => H1 9 k (by decide) hk) (H1 8 1 (by decide) rfl)
          rw [e3, Option.bind_some]
          dsimp only
          unfold f72
          rw [wI_ok, Option.bind_some, Option.bind_some]
          dsimp only
          have o2 : ∀ b, ¬ b = a + 10 → up2 I2 (a + 10) 0 0 b = I2 b := fun b hb => up2_b hb
          obtain ⟨x4, I3, e4, x5, H3, f3⟩ := C80 (kad := kad) (Z := Z) (I := up2 I2 (a + 10) 0 0) (K := K0) (q := 0) (M := M) (D := sStep X 9) (D' := D') (r := rr) (W := sStep X 8 1) hN ha K0_ok ⟨up2_eq, fun k hk => absurd hk (by omega)⟩ hmd (fun k hk => by rw [o2 _ (by omega), H2 9 k (by decide) hk, ov_r9, off_9]) (by rw [o2 _ (by omega), H2 8 1 (by decide) rfl, ov_r8, off_8]) zb (by omega) (fun k hk => by rw [o2 b (by omega), f2 b (by omega)]; exact hrow1 k hk)
          rw [e4, Option.bind_some]
          dsimp only
          have hJ9 : ∀ k, k < 256 → J1 (m + 24) k = sStep X 9 k := fun k hk => L1'.1 9 k (by unfold mC; omega) hk
          have hJ8 : J1 m 52 = sStep X 8 1 := L1'.1 8 1 (by unfold mC; omega) rfl
          obtain ⟨E, e5, e6⟩ := M253 (kad := kad) (N := N) (Z := Z) (m := m) hN hmd hJ9
          rw [e5, Option.bind_some]
          dsimp only
          rw [wI_ok, Option.bind_some, hJ8]
          have y0 : ∀ b, ¬ b = m → ¬ b = m + 24 → up2 (up2 (memf J1 (m + 24) E) m 52 (sStep X 8 1 + Int32.ofNat rr)) m 43 0 b = J1 b := fun b h1 h2 => by rw [up2_b h1, up2_b h1, memf_b h2]
          have y24 : up2 (up2 (memf J1 (m + 24) E) m 52 (sStep X 8 1 + Int32.ofNat rr)) m 43 0 (m + 24) = E := by rw [up2_b (by omega), up2_b (by omega), memf_at]
          have ym : ∀ j, ¬ j = 52 → ¬ j = 43 → up2 (up2 (memf J1 (m + 24) E) m 52 (sStep X 8 1 + Int32.ofNat rr)) m 43 0 m j = J1 m j := fun j h1 h2 => by rw [up2_ne (fun hh => h2 hh.2), up2_ne (fun hh => h1 hh.2), memf_b (by omega)]
          have y43 : up2 (up2 (memf J1 (m + 24) E) m 52 (sStep X 8 1 + Int32.ofNat rr)) m 43 0 m 43 = 0 := up2_eq
          have y52 : up2 (up2 (memf J1 (m + 24) E) m 52 (sStep X 8 1 + Int32.ofNat rr)) m 43 0 m 52 = sStep X 8 1 + Int32.ofNat rr := by rw [up2_ne (by omega), up2_eq]
          generalize up2 (up2 (memf J1 (m + 24) E) m 52 (sStep X 8 1 + Int32.ofNat rr)) m 43 0 = Y at y0 y24 ym y43 y52
          obtain ⟨x6, J2, e7, HJ⟩ := M222 (kad := kad) (N := N) (Z := Z) (m := m) (I := Y) (b := m + 14) hN (sh11_a21 hm) ⟨by omega, by omega, by omega⟩
          rw [e7, Option.bind_some]
          dsimp only
          have HJ' : WK m M Y J2 := by
            obtain ⟨s1, ⟨s2, s3⟩, s4⟩ := HJ
            exact ⟨s1, ⟨fun k hk => by rw [s2 k hk, y0 _ (by omega) (by omega)]; exact hrow1' k hk, s3⟩, s4⟩
          have L2 : ML m J2 (ov K0 (wake M D' (sStep X 8 1 + Int32.ofNat rr))) := HJ'.ml K0_ok ⟨y43, fun k hk => absurd hk (by omega)⟩ (fun k hk => by rw [y24]; exact e6 k hk) y52
          have hW := wake_inv (W := sStep X 8 1 + Int32.ofNat rr) hM ⟨hD0, hDw⟩ K0_ok (fun k hk => absurd hk (by omega))
          rw [← tr_0, K0_tr] at hW
          rw [← tr_0, K0_tr] at H3
          refine lift _ I3 J2 0 0 hW (by omega) H3 L2 (fun b b1 b2 => ?_) (fun b j b1 b2 b3 b4 => ?_)
          · rw [f3 b (by omega), o2 b (by omega), f2 b (by omega), f1 b b1 b2]
          · obtain ⟨t0, t15, t16, t24⟩ := nTW b1
            rw [← g1 b j b1 b2 b3 b4]
            by_cases hbm : b = m
            · subst hbm
              obtain ⟨j1, j2, j3, j4, j5, j6, j7⟩ := t0 rfl
              rw [HJ.1.2 j j1 j2 j3 j4 j5, ym j j7 (fun h => b2 ⟨rfl, h⟩)]
            · rw [HJ.1.1 b hbm t15 t16, y0 b hbm t24]
        · rw [if_pos (show ¬ I1 (a + 1) 0 = 1 from fun hh => hr (I1_1.symm.trans hh)), if_pos (show ¬ J1 m 23 = 1 from fun hh => hr (J1_1.symm.trans hh))]
          exact lift (sStep X) I1 J1 q (s + 1) hI1 (by omega) H1 L1' f1 g1
      · rw [if_pos (show ¬ Int32.ofNat (i + 1) = I1 τ 8 from fun hh => hc (hh.trans e6c)), if_pos (show ¬ Int32.ofNat i + 1 = J1 (m + 37) t from fun hh => hc (eS.symm.trans (hh.trans e6m)))]
        exact lift (sStep X) I1 J1 q (s + 1) hI1 (by omega) H1 L1' f1 g1
    · have hx : ∃ tp, X 1 12 = Int32.ofNat tp ∧ tp ≤ 60 := by
        obtain ⟨tp, a1, a2, -⟩ := hI.1.1.2.1.2.1
        exact ⟨tp, a1, a2⟩
      obtain ⟨v, v1, v2⟩ := K127 (kad := kad) (κ := κ) hN H hT h8 hz h2 hx hI.1.2.lw
      obtain ⟨u, u1, u2⟩ := M132 (kad := kad) hN ht hm L hS h2 hx hI.1.2.lw
      have huv := jdg_one u2 v1
      subst huv
      rw [if_neg (show ¬ (X 1 0 = 1 ∧ s < 1000) from fun h => h1 h.1)] at c82
      rw [c82, Option.bind_some]
      dsimp only
      rw [if_pos (show (0 : Int32) = 0 from rfl), if_pos (show ¬ J m 23 = 1 from fun hh => h1 (e23.symm.trans hh)), u1]
      exact ⟨u, jdg_up u2, v2, Ok.ret ⟨rfl, frU.rfl'⟩⟩
end TR
