/-! the model makes an instruction -/
theorem nn_nat {x : Int32} (h : ¬ x < 0) : x.toBitVec.toNat = nT x := by
  have h1 := bv_i x
  have h2 := nT_eq h
  have h3 := x.toBitVec.isLt
  split at h1 <;> omega
theorem and_m {x mm : Int32} (h : ¬ x < 0) {k : Nat} (hk : k < 31) (hm : mm.toBitVec.toNat = 2 ^ k - 1) : x &&& mm = Int32.ofNat (nT x % 2 ^ k) := by
  have e : (x &&& mm).toBitVec.toNat = nT x % 2 ^ k := by
    rw [Int32.toBitVec_and, BitVec.toNat_and, hm, nn_nat h]
    exact Nat.and_two_pow_sub_one_eq_mod _ k
  have hp : 2 ^ k ≤ 2 ^ 30 := Nat.pow_le_pow_right (by decide) (by omega)
  have hq : nT x % 2 ^ k < 2 ^ k := Nat.mod_lt _ (Nat.pow_pos (by decide))
  apply Int32.toInt_inj.mp
  rw [Int32.toInt_ofNat_of_lt (by omega), bv_i, if_pos (by omega), e]
theorem andb {x y : Int32} {i : Nat} (hi : i < 32) (hy : ∀ k, k < 32 → dB y k = decide (k = i)) : x &&& y = 0 ↔ dB x i = false := by
  have z : ∀ k : Fin 32, dB 0 k.1 = false := by decide +kernel
  constructor
  · intro h
    have e := z ⟨i, hi⟩
    dsimp only at e
    rw [← h, dB_and, hy i hi, decide_eq_true rfl, Bool.and_true] at e
    exact e
  · intro h
    apply dB_ext
    intro k hk
    have e := z ⟨k, hk⟩
    dsimp only at e
    rw [dB_and, hy k hk, e]
    by_cases hki : k = i
    · rw [hki, h, Bool.false_and]
    · rw [decide_eq_false hki, Bool.and_false]
theorem b1_b : ∀ k : Fin 32, dB 1 k.1 = decide (k.1 = 0) := by decide +kernel
theorem b2_b : ∀ k : Fin 32, dB 2 k.1 = decide (k.1 = 1) := by decide +kernel
/-- the two flags that are pulled -/
theorem fl1 {x : Int32} (h : wd x) : x - x / (2 : Int32) * (2 : Int32) = 1 ↔ ¬ x &&& 1 = 0 := by
  rw [show x - x / (2 : Int32) * (2 : Int32) = Int32.ofNat (nT x % 2) from mod_n (wd_nn h) (n := 2) (by decide) (by decide), andb (i := 0) (by decide) (fun k hk => b1_b ⟨k, hk⟩), dB_t h, Nat.testBit_eq_decide_div_mod_eq]
  rw [show (1 : Int32) = Int32.ofNat 1 from rfl, of_inj (by omega) (by decide)]
  simp only [decide_eq_false_iff_not, Nat.pow_zero, Nat.div_one]
  omega
theorem fl2 {x : Int32} (h : wd x) : x / (2 : Int32) - x / (2 : Int32) / (2 : Int32) * (2 : Int32) = 1 ↔ ¬ x &&& 2 = 0 := by
  have e1 := of_nT (wd_nn h)
  have h5 := (wd_n h).2.1
  have e2 : x / (2 : Int32) = Int32.ofNat (nT x / 2) := by
    have := eD (c := nT x) (n := 2) (by omega) (by decide) (by decide)
    rw [e1] at this
    exact this
  rw [e2, show Int32.ofNat (nT x / 2) - Int32.ofNat (nT x / 2) / (2 : Int32) * (2 : Int32) = Int32.ofNat (nT x / 2 % 2) from eR (n := 2) (by omega) (by decide) (by decide), andb (i := 1) (by decide) (fun k hk => b2_b ⟨k, hk⟩), dB_t h, Nat.testBit_eq_decide_div_mod_eq]
  rw [show (1 : Int32) = Int32.ofNat 1 from rfl, of_inj (by omega) (by decide)]
  simp only [decide_eq_false_iff_not]
  omega
section MI
variable {kad : Nat → Nat} {N : Nat} {Z : AZ} {m s : Nat} {I0 I X : AI}
theorem M233_21 (H : MR 0 m s I0 I X) {p : Nat} (hp : X 1 4 = Int32.ofNat p) (hp2 : p + 2 ≤ 256) (hmw : ∀ k, k < 256 → wd (X 6 k)) {op y d : Int32} (ho : op = 21) : Ok (f233 kad N Z m op d y I) (fun _ J => MR 0 m s I0 J (sRti X)) := by
  unfold f233 sRti
  rw [if_neg (show ¬ ¬ op = 21 from fun h => h ho), if_pos (show X 1 4 + 2 ≤ 256 from by rw [hp, show Int32.ofNat p + (2 : Int32) = Int32.ofNat (p + 2) from eA p 2]; exact (of_le (n := 256) (by omega) (by decide)).mpr hp2)]
  refine (M220 (kad := kad) (N := N) (Z := Z) H hp (by omega)).bind fun v J ⟨hv, HJ⟩ => ?_
  have hvw : wd v := by
    rw [hv]
    unfold sPullV
    rw [hp, show Int32.ofNat p + 1 - 1 = Int32.ofNat p from by grind, sRd_of (by omega)]
    exact hmw p (by omega)
  subst hv
  dsimp only
  have tail : ∀ (Y J : AI), MR 0 m s I0 J Y → Y 1 4 = Int32.ofNat (p + 1) → Ok ((f220 kad N Z m J).bind fun r50_2 => (wI r50_2.2 m 27 r50_2.1).bind fun I53_3 => (wI I53_3 m 31 (1 : Int32)).bind fun I58_4 => some ((), I58_4)) (fun _ J => MR 0 m s I0 J (up2 (up2 (sPullX Y) 1 3 (sPullV Y)) 1 7 1)) := fun Y J h h4 => by
    refine (M220 (kad := kad) (N := N) (Z := Z) h h4 (by omega)).bind fun v J ⟨hv, HJ⟩ => ?_
    subst hv
    exact Ok.w (Ok.w (Ok.ret ((HJ.u1 (k := 3) (by decide)).u1 (k := 7) (by decide))))
  have g4 : ∀ a b, up2 (up2 (sPullX X) 1 5 a) 1 6 b 1 4 = Int32.ofNat (p + 1) := fun a b => by
    rw [up2_ne (by decide), up2_ne (by decide)]
    unfold sPullX
    rw [up2_eq, hp, of_s]
  have st2 : ∀ (a : Int32), (a = 0 ∨ a = 1) → Ok (f233_b26 kad N Z m (sPullV X) a J) (fun _ J => MR 0 m s I0 J (up2 (up2 (sPullX (up2 (up2 (sPullX X) 1 5 a) 1 6 (if sPullV X &&& 2 = 0 then 0 else 1))) 1 3 (sPullV (up2 (up2 (sPullX X) 1 5 a) 1 6 (if sPullV X &&& 2 = 0 then 0 else 1)))) 1 7 1)) := fun a ha => by
    unfold f233_b26 f233_b45
    refine Ok.wb ha ?_
    have H1 := HJ.u1 (k := 5) (v := a) (by decide)
    by_cases h2 : sPullV X &&& 2 = 0
    · rw [if_pos (show ¬ sPullV X / (2 : Int32) - sPullV X / (2 : Int32) / (2 : Int32) * (2 : Int32) = 1 from fun h => (fl2 hvw).mp h h2), if_pos h2]
      exact Ok.wb (Or.inl rfl) (tail _ _ (H1.u1 (k := 6) (by decide)) (g4 _ _))
    · rw [if_neg (show ¬ ¬ sPullV X / (2 : Int32) - sPullV X / (2 : Int32) / (2 : Int32) * (2 : Int32) = 1 from fun h => h ((fl2 hvw).mpr h2)), if_neg h2]
      exact Ok.wb (Or.inr rfl) (tail _ _ (H1.u1 (k := 6) (by decide)) (g4 _ _))
  by_cases h1 : sPullV X &&& 1 = 0
  · rw [if_pos (show ¬ sPullV X - sPullV X / (2 : Int32) * (2 : Int32) = 1 from fun h => (fl1 hvw).mp h h1), if_pos h1]
    exact st2 0 (Or.inl rfl)
  · rw [if_neg (show ¬ ¬ sPullV X - sPullV X / (2 : Int32) * (2 : Int32) = 1 from fun h => h ((fl1 hvw).mpr h1)), if_neg h1]
    exact st2 1 (Or.inr rfl)
/-- what an instruction may take as given -/
def okI (q p t r s : Nat) (X : AI) : Prop := (okK q X ∧ bl X ∧ wdk X ∧ WF (X 9)) ∧ (∀ k, k < 256 → wd (X 6 k)) ∧ (wd (X 1 3) ∧ (X 1 4 = Int32.ofNat p ∧ p ≤ 256) ∧ (X 1 12 = Int32.ofNat t ∧ t ≤ 60) ∧ (X 1 13 = Int32.ofNat r ∧ r ≤ 20) ∧ (X 1 2 = Int32.ofNat s ∧ s < 2000)) ∧ nw 0 X ∧ (X 3 0 = 0 ∧ X 3 1 = 0)
theorem M228_o (hN : 2000 ≤ N) (hm : sh11 kad Z m) (H : MR 0 m s I0 I X) {q p t r : Nat} (hX : okI q p t r s X) {o d : Nat} {y : Int32} (ho : o < 5000) (hd : d < 4) (hy : wd y) (h0 : mFault (Int32.ofNat o) y X = 0) : Ok (if (12 : Int32) ≤ Int32.ofNat o then if (19 : Int32) ≤ Int32.ofNat o then (f233 kad N Z m (Int32.ofNat o) (Int32.ofNat d) y I).bind fun r158_2 => f228_b161 kad N Z m r158_2.2 else (f232 kad N Z m (Int32.ofNat o) (Int32.ofNat d) y I).bind fun r144_3 => f228_b161 kad N Z m r144_3.2 else (f231 kad N Z m (Int32.ofNat o) (Int32.ofNat d) y I).bind fun r121_4 => f228_b161 kad N Z m r121_4.2) (fun _ J => MR 0 m s I0 J (sDo (Int32.ofNat o) (Int32.ofNat d) y X)) := by
  obtain ⟨⟨hK, hb, hw, hW⟩, hmw, ⟨h3, ⟨hp, hp2⟩, ⟨ht, ht2⟩, ⟨hr, hr2⟩, hs, hs2⟩, hnw, hi0, hi1⟩ := hX
  unfold mFault at h0
  have o26 : o ≤ 26 := by
    refine Decidable.byContradiction fun hh => ?_
    rw [if_pos (show ¬ Int32.ofNat o ≤ 26 from fun h => hh ((of_le (n := 26) (by omega) (by decide)).mp h))] at h0
    exact absurd h0 (by decide)
  rw [if_neg (show ¬ ¬ Int32.ofNat o ≤ 26 from fun h => h ((of_le (n := 26) (by omega) (by decide)).mpr o26))] at h0
  have eq : ∀ a, a < 30 → (Int32.ofNat o = Int32.ofNat a ↔ o = a) := fun a ha => of_inj (by omega) (by omega)
  have lt : ∀ a, a < 30 → (Int32.ofNat o < Int32.ofNat a ↔ o < a) := fun a ha => of_lt (by omega) (by omega)
  have le : ∀ a, a < 30 → (Int32.ofNat a ≤ Int32.ofNat o ↔ a ≤ o) := fun a ha => of_le (by omega) (by omega)
  split at h0
  · exact absurd h0 (by decide)
  rename_i f1
  split at h0
  · exact absurd h0 (by decide)
  rename_i f2
  split at h0
  · exact absurd h0 (by decide)
  rename_i f3
  split at h0
  · exact absurd h0 (by decide)
  rename_i f4
  have y256 : Int32.ofNat o = 2 ∨ Int32.ofNat o = 3 → nT y < 256 := fun h => by
    have h9 : y < 256 := Decidable.byContradiction fun hh => f1 ⟨h, hh⟩
    rw [← of_nT (wd_nn hy)] at h9
    have := (wd_n hy).2.1
    exact (of_lt (n := 256) (by omega) (by decide)).mp h9
  have fp : Int32.ofNat o = 15 ∨ Int32.ofNat o = 17 → 1 ≤ p := fun h => by
    refine Decidable.byContradiction fun hh => f2 ⟨h, ?_⟩
    rw [hp]
    exact (of_lt (n := 1) (by omega) (by decide)).mpr (by omega)
  have fq : X 1 4 + mPulled (Int32.ofNat o) ≤ 256 := Decidable.byContradiction fun hh => f3 hh
  have fq1 : Int32.ofNat o = 16 ∨ Int32.ofNat o = 18 → p < 256 := fun h => by
    unfold mPulled at fq
    rw [if_pos h, hp, of_s] at fq
    have := (of_le (n := 256) (by omega) (by decide)).mp fq
    omega
  have fq2 : Int32.ofNat o = 21 → p + 2 ≤ 256 := fun h => by
    unfold mPulled at fq
    rw [if_neg (by rw [h]; decide), if_pos h, hp, show Int32.ofNat p + (2 : Int32) = Int32.ofNat (p + 2) from eA p 2] at fq
    exact (of_le (n := 256) (by omega) (by decide)).mp fq
  have ft : Int32.ofNat o = 25 → t < 60 := fun h => by
    refine Decidable.byContradiction fun hh => f4 ⟨h, ?_⟩
    rw [ht, show t = 60 by omega]
    rfl
  have e26 : Int32.ofNat o ≤ 26 := (of_le (n := 26) (by omega) (by decide)).mpr o26
  unfold f228_b161 sDo
  rw [if_pos e26]
  by_cases a12 : 12 ≤ o
  · rw [if_pos (show (12 : Int32) ≤ Int32.ofNat o from (le 12 (by decide)).mpr a12)]
    by_cases a19 : 19 ≤ o
    · rw [if_pos (show (19 : Int32) ≤ Int32.ofNat o from (le 19 (by decide)).mpr a19), if_neg (show ¬ Int32.ofNat o < 19 from fun h => by have := (lt 19 (by decide)).mp h; omega)]
      by_cases c21 : o = 21
      · subst c21
        have e : sCtl (Int32.ofNat 21) (Int32.ofNat d) y X = sRti X := by
          unfold sCtl
          rw [if_neg (by decide), if_neg (by decide), if_pos (by decide)]
        rw [e]
        exact (M233_21 H hp (fq2 rfl) hmw rfl).bind fun v J HJ => Ok.ret HJ
      by_cases c26 : o = 26
      · subst c26
        have e : sCtl (Int32.ofNat 26) (Int32.ofNat d) y X = sCallF y X := by
          unfold sCtl
          rw [if_neg (by decide), if_neg (by decide), if_neg (by decide), if_neg (by decide), if_neg (by decide), if_neg (by decide), if_neg (by decide)]
        rw [e]
        have g : Ok (f233 kad N Z m (Int32.ofNat 26) (Int32.ofNat d) y I) (fun _ J => MR 0 m s I0 J (sCallF y X)) := by
          unfold f233
          rw [if_pos (show ¬ Int32.ofNat 26 = 21 from by decide), if_neg (show ¬ ¬ Int32.ofNat 26 = 26 from by decide)]
          exact (M242 hN hm H hw hW hi0 hi1 (wd_nn hy)).bind fun v J HJ => Ok.ret HJ
        exact g.bind fun v J HJ => Ok.ret HJ
      · refine (M233 hN H hK hb ht ht2 hr hr2 hd ?_ ft).bind fun v J HJ => Ok.ret HJ
        rcases (show o = 19 ∨ o = 20 ∨ o = 22 ∨ o = 23 ∨ o = 24 ∨ o = 25 by omega) with rfl | rfl | rfl | rfl | rfl | rfl
        · exact Or.inl rfl
        · exact Or.inr (Or.inl rfl)
        · exact Or.inr (Or.inr (Or.inl rfl))
        · exact Or.inr (Or.inr (Or.inr (Or.inl rfl)))
        · exact Or.inr (Or.inr (Or.inr (Or.inr (Or.inl rfl))))
        · exact Or.inr (Or.inr (Or.inr (Or.inr (Or.inr rfl))))
    · rw [if_neg (show ¬ (19 : Int32) ≤ Int32.ofNat o from fun h => a19 ((le 19 (by decide)).mp h)), if_pos (show Int32.ofNat o < 19 from (lt 19 (by decide)).mpr (by omega))]
      have h := M232 (kad := kad) (N := N) (Z := Z) (y := y) H hs hs2 hnw hp hp2 (op := Int32.ofNat o) hd (by
        rcases (show o = 12 ∨ o = 13 ∨ o = 14 ∨ o = 15 ∨ o = 16 ∨ o = 17 ∨ o = 18 by omega) with rfl | rfl | rfl | rfl | rfl | rfl | rfl
        · exact Or.inl rfl
        · exact Or.inr (Or.inl rfl)
        · exact Or.inr (Or.inr (Or.inl rfl))
        · exact Or.inr (Or.inr (Or.inr (Or.inl rfl)))
        · exact Or.inr (Or.inr (Or.inr (Or.inr (Or.inl rfl))))
        · exact Or.inr (Or.inr (Or.inr (Or.inr (Or.inr (Or.inl rfl)))))
        · exact Or.inr (Or.inr (Or.inr (Or.inr (Or.inr (Or.inr rfl)))))) fp fq1
      have e : (if Int32.ofNat o < 15 then sJump (Int32.ofNat o) y X else sStack (Int32.ofNat o) (Int32.ofNat d) y X) = (if Int32.ofNat o < 15 then (if Int32.ofNat o < 12 then (if Int32.ofNat o < 4 then sMove (Int32.ofNat o) (Int32.ofNat d) y X else sCalc (Int32.ofNat o) (Int32.ofNat d) y X) else sJump (Int32.ofNat o) y X) else sStack (Int32.ofNat o) (Int32.ofNat d) y X) := by
        rw [if_neg (show ¬ Int32.ofNat o < 12 from fun h => by have := (lt 12 (by decide)).mp h; omega)]
      rw [← e]
      exact h.bind fun v J HJ => Ok.ret HJ
  · rw [if_neg (show ¬ (12 : Int32) ≤ Int32.ofNat o from fun h => a12 ((le 12 (by decide)).mp h)), if_pos (show Int32.ofNat o < 19 from (lt 19 (by decide)).mpr (by omega)), if_pos (show Int32.ofNat o < 15 from (lt 15 (by decide)).mpr (by omega)), if_pos (show Int32.ofNat o < 12 from (lt 12 (by decide)).mpr (by omega))]
    by_cases a4 : o < 4
    · rw [if_pos (show Int32.ofNat o < 4 from (lt 4 (by decide)).mpr a4)]
      refine (M231_0 (kad := kad) (N := N) (Z := Z) H hs hs2 hnw hd (wd_nn hy) ?_ y256).bind fun v J HJ => Ok.ret HJ
      rcases (show o = 0 ∨ o = 1 ∨ o = 2 ∨ o = 3 by omega) with rfl | rfl | rfl | rfl
      · exact Or.inl rfl
      · exact Or.inr (Or.inl rfl)
      · exact Or.inr (Or.inr (Or.inl rfl))
      · exact Or.inr (Or.inr (Or.inr rfl))
    · rw [if_neg (show ¬ Int32.ofNat o < 4 from fun h => a4 ((lt 4 (by decide)).mp h))]
      refine (M231_4 (kad := kad) (N := N) (Z := Z) H hd hw.2 hy ?_).bind fun v J HJ => Ok.ret HJ
      rcases (show o = 4 ∨ o = 5 ∨ o = 6 ∨ o = 7 ∨ o = 8 ∨ o = 9 ∨ o = 10 ∨ o = 11 by omega) with rfl | rfl | rfl | rfl | rfl | rfl | rfl | rfl
      · exact Or.inl rfl
      · exact Or.inr (Or.inl rfl)
      · exact Or.inr (Or.inr (Or.inl rfl))
      · exact Or.inr (Or.inr (Or.inr (Or.inl rfl)))
      · exact Or.inr (Or.inr (Or.inr (Or.inr (Or.inl rfl))))
      · exact Or.inr (Or.inr (Or.inr (Or.inr (Or.inr (Or.inl rfl)))))
      · exact Or.inr (Or.inr (Or.inr (Or.inr (Or.inr (Or.inr (Or.inl rfl))))))
      · exact Or.inr (Or.inr (Or.inr (Or.inr (Or.inr (Or.inr (Or.inr rfl))))))
theorem M228 (hN : 2000 ≤ N) (hm : sh11 kad Z m) (H : MR 0 m s I0 I X) {q p t r : Nat} (hX : okI q p t r s X) : Ok (f228 kad N Z m I) (fun _ J => MR 0 m s I0 J (sIns X)) := by
  have hX' := hX
  obtain ⟨⟨hK, hb, hw, hW⟩, hmw, ⟨h3, ⟨hp, hp2⟩, ⟨ht, ht2⟩, ⟨hr, hr2⟩, hs, hs2⟩, hnw, hi0, hi1⟩ := hX'
  have e3 : I m 27 = X 1 3 := H.r1 (k := 3) (by decide)
  have hc := of_nT (wd_nn h3)
  have hc5 := (wd_n h3).2.1
  have main : ∀ (v y : Int32) (d : Nat), wd v → wd y → d < 4 → Ok (f228_b76 kad N Z m v (Int32.ofNat d) y I) (fun _ J => MR 0 m s I0 J (sDo (v / 16) (Int32.ofNat d) y X)) := fun v y d hv hy hd => by
    have ev := of_nT (wd_nn hv)
    have hv5 := (wd_n hv).2.1
    have e16 : v / (16 : Int32) = Int32.ofNat (nT v / 16) := by
      have := eD (c := nT v) (n := 16) (by omega) (by decide) (by decide)
      rw [ev] at this
      exact this
    unfold f228_b76
    rw [e16, M227 H, Option.bind_some]
    dsimp only
    by_cases h0 : mFault (Int32.ofNat (nT v / 16)) y X = 0
    · rw [if_pos h0]
      exact M228_o hN hm H hX (by omega) hd hy h0
    · rw [if_neg h0, mFault_no (by rw [hp]; exact (of_le (n := 256) (by omega) (by decide)).mpr hp2) h0]
      unfold f228_b161
      exact (M221 H _).bind fun v J HJ => Ok.ret HJ
  unfold f228 sIns
  rw [e3]
  by_cases hle : nT (X 1 3) ≤ 254
  · have c1 : X 1 3 ≤ 254 := by rw [← hc]; exact (of_le (n := 254) (by omega) (by decide)).mpr hle
    have c2 : X 1 3 + 2 ≤ 256 := by
      rw [← hc, show Int32.ofNat (nT (X 1 3)) + (2 : Int32) = Int32.ofNat (nT (X 1 3) + 2) from eA _ 2]
      exact (of_le (n := 256) (by omega) (by decide)).mpr (by omega)
    rw [if_pos c1, if_pos c2, ixA_i (wd_nn h3) (by omega), Option.bind_some]
    have r1 : sRd X (X 1 3) = X 6 (nT (X 1 3)) := by
      have := sRd_of (X := X) (p := nT (X 1 3)) (by omega)
      rwa [hc] at this
    have ec : X 1 3 + 1 = Int32.ofNat (nT (X 1 3) + 1) := succ_of h3
    have r2 : sRd X (X 1 3 + 1) = X 6 (nT (X 1 3) + 1) := by rw [ec]; exact sRd_of (by omega)
    rw [r1, r2, ec]
    have hv := hmw (nT (X 1 3)) (by omega)
    have hx := hmw (nT (X 1 3) + 1) (by omega)
    have i1 : I (m + 15) (nT (X 1 3)) = X 6 (nT (X 1 3)) := H.r6 (by omega)
    have i2 : I (m + 15) (nT (X 1 3) + 1) = X 6 (nT (X 1 3) + 1) := H.r6 (by omega)
    generalize X 6 (nT (X 1 3)) = v at hv i1
    generalize X 6 (nT (X 1 3) + 1) = x at hx i2
    have ev := of_nT (wd_nn hv)
    have hv5 := (wd_n hv).2.1
    have e4 : v / (4 : Int32) = Int32.ofNat (nT v / 4) := by
      have := eD (c := nT v) (n := 4) (by omega) (by decide) (by decide)
      rw [ev] at this
      exact this
    have ms : v - v / (4 : Int32) * (4 : Int32) = Int32.ofNat (nT v % 4) := mod_n (wd_nn hv) (n := 4) (by decide) (by decide)
    have md : v / (4 : Int32) - v / (4 : Int32) / (4 : Int32) * (4 : Int32) = Int32.ofNat (nT v / 4 % 4) := by
      rw [e4]
      exact eR (n := 4) (by omega) (by decide) (by decide)
    have cs : v &&& 3 = Int32.ofNat (nT v % 4) := and_m (k := 2) (wd_nn hv) (by decide) (by decide)
    have cd : (v / 4) &&& 3 = Int32.ofNat (nT v / 4 % 4) := by
      rw [e4]
      have := and_m (x := Int32.ofNat (nT v / 4)) (mm := 3) (k := 2) (of_nn (by omega)) (by decide) (by decide)
      rw [nT_of (by omega)] at this
      exact this
    dsimp only
    rw [cs, cd]
    have es : nT (Int32.ofNat (nT v % 4)) = nT v % 4 := nT_of (by omega)
    rw [es]
    have cnd : (I (m + 15) (nT (X 1 3)) / (4 : Int32) - I (m + 15) (nT (X 1 3)) / (4 : Int32) / (4 : Int32) * (4 : Int32) = I (m + 15) (nT (X 1 3)) - I (m + 15) (nT (X 1 3)) / (4 : Int32) * (4 : Int32)) ↔ Int32.ofNat (nT v / 4 % 4) = Int32.ofNat (nT v % 4) := by
      rw [i1, md, ms]
    by_cases hds : Int32.ofNat (nT v / 4 % 4) = Int32.ofNat (nT v % 4)
    · rw [if_neg (fun h => h (cnd.mpr hds)), if_pos hds, i1, ixA_of (by omega), Option.bind_some, i2, md]
      exact main v x _ hv hx (by omega)
    · rw [if_pos (fun h => hds (cnd.mp h)), if_neg hds, i1, ms, md, ixA_of (by omega), Option.bind_some, ixA_of (by omega), Option.bind_some, i2, H.r2 (show nT v % 4 < 4 by omega)]
      have hrs := hw.2 (nT v % 4) (by omega)
      have es1 := of_nT (wd_nn hrs)
      have es2 := of_nT (wd_nn hx)
      have l1 := (wd_n hrs).2.1
      have l2 := (wd_n hx).2.1
      have hsum : X 2 (nT v % 4) + x = Int32.ofNat (nT (X 2 (nT v % 4)) + nT x) := by rw [← eA, es1, es2]
      have c1' : (X 2 (nT v % 4) + x) &&& 65535 = Int32.ofNat ((nT (X 2 (nT v % 4)) + nT x) % 65536) := by
        rw [hsum]
        have := and_m (x := Int32.ofNat (nT (X 2 (nT v % 4)) + nT x)) (mm := 65535) (k := 16) (of_nn (by omega)) (by decide) (by decide)
        rw [nT_of (by omega)] at this
        exact this
      have c2' : X 2 (nT v % 4) + x - (X 2 (nT v % 4) + x) / (65536 : Int32) * (65536 : Int32) = Int32.ofNat ((nT (X 2 (nT v % 4)) + nT x) % 65536) := by
        rw [hsum]
        exact eR (n := 65536) (by omega) (by decide) (by decide)
      rw [c1', c2']
      exact main v _ _ hv (wd_nat (by omega)) (by omega)
  · rw [if_neg (show ¬ X 1 3 ≤ 254 from fun h => hle (by rw [← hc] at h; exact (of_le (n := 254) (by omega) (by decide)).mp h)), if_neg (show ¬ X 1 3 + 2 ≤ 256 from fun h => by
      rw [← hc, show Int32.ofNat (nT (X 1 3)) + (2 : Int32) = Int32.ofNat (nT (X 1 3) + 2) from eA _ 2] at h
      have := (of_le (n := 256) (by omega) (by decide)).mp h
      omega)]
    exact (M221 H 1).bind fun v J HJ => Ok.ret HJ
end MI
