/-! the model makes steps -/
def TX (m b j : Nat) : Prop := TW m b j ∨ (b = m ∧ (j = 40 ∨ j = 43 ∨ j = 55)) ∨ (b = m + 18 ∨ b = m + 19 ∨ b = m + 26 ∨ b = m + 27)
def TXs (m b j : Nat) : Prop := TW m b j ∨ (b = m ∧ (j = 40 ∨ j = 43)) ∨ (b = m + 18 ∨ b = m + 19)
theorem TXs.x {m b j : Nat} (h : ¬ TX m b j) : ¬ TXs m b j := fun hh => h (by
  rcases hh with hh | hh | hh
  · exact Or.inl hh
  · exact Or.inr (Or.inl ⟨hh.1, by omega⟩)
  · exact Or.inr (Or.inr (by omega)))
def frM (m : Nat) (I J : AI) : Prop := ∀ b j, ¬ TXs m b j → J b j = I b j
def frMX (m : Nat) (I J : AI) : Prop := ∀ b j, ¬ TX m b j → J b j = I b j
theorem frM.x {m : Nat} {I J : AI} (h : frM m I J) : frMX m I J := fun b j hb => h b j (TXs.x hb)
theorem frM.rfl' {m : Nat} {I : AI} : frM m I I := fun _ _ _ => rfl
theorem frM.trans {m : Nat} {I J Q : AI} (h : frM m I J) (h2 : frM m J Q) : frM m I Q := fun b j hb => (h2 b j hb).trans (h b j hb)
/-- a machine that is on, in the model -/
def MG (m : Nat) (K B : AI) (s kc : Nat) (I : AI) : Prop := ML m I (tr K B s) ∧ MNo m K B s I ∧ I m 40 = Int32.ofNat kc
/-- a field of the model that no machine's word lies in -/
def mO (j : Nat) : Prop := j = 0 ∨ j = 40 ∨ j = 55
section MU
variable {kad : Nat → Nat} {N : Nat} {Z : AZ} {m q s kc : Nat} {I : AI} {K B : AI}
theorem frM.w {j : Nat} {v : Int32} {J : AI} (hj : j = 40) (h : frM m (up2 I m j v) J) : frM m I J := fun b i hb => by
  rw [h b i hb]
  exact up2_ne (fun hh => hb (Or.inr (Or.inl ⟨hh.1, Or.inl (hh.2.trans hj)⟩)))
/-- what is thrown is told before -/
theorem TX_0 : ¬ TX m m 0 := by
  intro h
  rcases h with h | h | h
  · rcases h with h | h
    · have := h.2; omega
    · rcases h with h | h | h | h | h | h | h | h | h <;> omega
  · have := h.2; omega
  · rcases h with h | h | h | h <;> omega
theorem frM.th {J : AI} {v : Int32} (h : frM m (up2 I m 0 v) J) : J m 0 = v := by
  rw [h m 0 (TXs.x TX_0), up2_eq]
theorem ML.o {X : AI} {j : Nat} {v : Int32} (H : ML m I X) (hj : mO j) : ML m (up2 I m j v) X := by
  have key : ∀ b i, (b = m → ¬ i = 0 ∧ ¬ i = 40 ∧ ¬ i = 55) → up2 I m j v b i = I b i := fun b i h => up2_ne (fun hh => by
    obtain ⟨h1, h2, h3⟩ := h hh.1
    rcases hj with e | e | e <;> omega)
  refine ⟨fun c k hc hr => ?_, ?_, fun h => ?_⟩
  · rw [key _ _ (fun hm => ?_)]
    · exact H.1 c k hc hr
    · unfold mC at hc
      rcases hc with rfl | rfl | rfl | rfl | rfl | rfl | rfl | rfl | rfl | rfl | rfl | rfl
      · have t := mF_set (k := k) hr
        show ¬ mF k = 0 ∧ ¬ mF k = 40 ∧ ¬ mF k = 55
        omega
      · simp only [mA] at hm; omega
      · simp only [mA] at hm; omega
      · simp only [mA] at hm; omega
      · simp only [mA] at hm; omega
      · simp only [mA] at hm; omega
      · show ¬ (52 : Nat) = 0 ∧ ¬ (52 : Nat) = 40 ∧ ¬ (52 : Nat) = 55
        decide
      · simp only [mA] at hm; omega
      · show ¬ (43 : Nat) = 0 ∧ ¬ (43 : Nat) = 40 ∧ ¬ (43 : Nat) = 55
        decide
      · simp only [mA] at hm; omega
      · simp only [mA] at hm; omega
      · simp only [mA] at hm; omega
  · rw [key m 46 (fun _ => ⟨by decide, by decide, by decide⟩)]; exact H.2.1
  · rw [key m 47 (fun _ => ⟨by decide, by decide, by decide⟩)]; exact H.2.2 h
theorem MNo.o {j : Nat} {v : Int32} (H : MNo m K B s I) : MNo m K B s (up2 I m j v) := fun i hi => by
  rw [up2_b (by omega), up2_b (by omega)]
  exact H i hi
theorem MG.o0 {v : Int32} (H : MG m K B s kc I) : MG m K B s kc (up2 I m 0 v) := ⟨H.1.o (Or.inl rfl), H.2.1.o, by rw [up2_ne (by omega)]; exact H.2.2⟩
theorem M185 {i : Int32} : f185 kad N Z m i I = some (if i = 0 then 1 else 0, up2 I m 0 i) := by
  unfold f185 f185_b14 wI
  rw [Option.bind_some]
  by_cases h : i = 0
  · rw [if_neg (fun hh => hh h), if_pos (Or.inr rfl), if_pos h]
  · rw [if_pos h, if_pos (Or.inl rfl), if_neg h]
theorem M186 {i a b : Int32} : f186 kad N Z i a b I = some (if i < a ∨ b < i then 0 else 1, I) := by
  unfold f186 f186_b14 f186_b15
  by_cases h1 : i < a
  · rw [if_pos h1, if_pos (Or.inl rfl), if_pos (Or.inl h1)]
  · rw [if_neg h1]
    by_cases h2 : b < i
    · rw [if_pos h2, if_pos (Or.inl rfl), if_pos (Or.inr h2)]
    · rw [if_neg h2, if_pos (Or.inr rfl), if_neg (fun hh => hh.elim h1 h2)]
theorem M216 {X : AI} (H : ML m I X) : f216 kad N Z m I = some (if X 1 0 = 0 then 0 else 1, I) := by
  unfold f216 f216_b12
  rw [show I m 23 = X 1 0 from H.1 1 0 (Or.inl rfl) (show 0 < 14 by decide)]
  by_cases h : X 1 0 = 0
  · rw [if_pos h, if_pos (Or.inl rfl), if_pos h]
  · rw [if_neg h, if_pos (Or.inr rfl), if_neg h]
theorem M260 {X : AI} (H : ML m I X) (hs : X 1 2 = Int32.ofNat s) (hs2 : s ≤ 1000) : f260 kad N Z m I = some (if X 1 0 = 1 ∧ s < 1000 then 1 else 0, I) := by
  unfold f260 f260_b22 f260_b23
  rw [show I m 23 = X 1 0 from H.1 1 0 (Or.inl rfl) (show 0 < 14 by decide), show I m 38 = X 1 2 from H.1 1 2 (Or.inl rfl) (show 2 < 14 by decide), hs]
  by_cases h0 : X 1 0 = 1
  · rw [if_neg (fun h => h h0)]
    by_cases h1 : s < 1000
    · rw [if_neg (show ¬ (1000 : Int32) ≤ Int32.ofNat s from fun h => absurd ((of_le (m := 1000) (by decide) (by omega)).mp h) (by omega)), if_pos (Or.inr rfl), if_pos ⟨h0, h1⟩]
    · rw [if_pos (show (1000 : Int32) ≤ Int32.ofNat s from (of_le (m := 1000) (by decide) (by omega)).mpr (by omega)), if_pos (Or.inl rfl), if_neg (fun h => h1 h.2)]
  · rw [if_pos h0, if_pos (Or.inl rfl), if_neg (fun h => h0 h.1)]
theorem TX.tw {b j : Nat} (h : ¬ TX m b j) : ¬ TW m b j := fun hh => h (Or.inl hh)
theorem TXs.tw {b j : Nat} (h : ¬ TXs m b j) : ¬ TW m b j := fun hh => h (Or.inl hh)
theorem M261 (hN : 2000 ≤ N) (hm : sh11 kad Z m) (hI : ∀ j, Inv q j (tr K B j)) (H : MG m K B s kc I) (hs : s < 1000) (hk : kc ≤ 200) : Ok (f261 kad N Z m I) (fun _ J => MG m K B (s + 1) (min (kc + 1) 200) J ∧ frM m I J) := by
  unfold f261 f261_b24
  refine ((hI s).m hN hm H.1 (by omega)).bind fun v J HJ => ?_
  rw [← tr_s] at HJ
  have e40 : J m 40 = Int32.ofNat kc := by
    rw [HJ.2.2.2 m 40 ?_]
    · exact H.2.2
    · intro h
      rcases h with h | h | h
      · omega
      · rcases h with h | h | h | h | h | h | h <;> omega
      · omega
  dsimp only
  have fin : ∀ v : Int32, v = Int32.ofNat (min (kc + 1) 200) → Ok ((wI J m 40 v).bind fun I25_1 => some ((), I25_1)) (fun _ J => MG m K B (s + 1) (min (kc + 1) 200) J ∧ frM m I J) := fun v hv => by
    refine Ok.w (Ok.ret ⟨⟨(MR.ml (e := 0) HJ).o (Or.inr (Or.inl rfl)), MNo.o (fun j hj => ?_), by rw [up2_eq, hv]⟩, fun b j hb => ?_⟩)
    · by_cases e : j = s
      · rw [e]
        exact HJ.2.2.1 (by omega)
      · rw [HJ.2.2.2 (m + 20) j (nTm (Or.inl rfl) e), HJ.2.2.2 (m + 21) j (nTm (Or.inr rfl) e)]
        exact H.2.1 j (by omega)
    · rw [up2_ne (fun hh => hb (Or.inr (Or.inl ⟨hh.1, Or.inl hh.2⟩)))]
      exact HJ.2.2.2 b j (fun h => TXs.tw hb h.tw)
  by_cases h : 200 ≤ kc
  · rw [if_pos (show (200 : Int32) ≤ J m 40 from by rw [e40]; exact (of_le (m := 200) (by decide) (by omega)).mpr h)]
    exact fin _ (by rw [e40, show min (kc + 1) 200 = kc from by omega]; show Int32.ofNat kc + 0 = _; grind)
  · rw [if_neg (show ¬ (200 : Int32) ≤ J m 40 from fun hh => h (by rw [e40] at hh; exact (of_le (m := 200) (by decide) (by omega)).mp hh))]
    exact fin _ (by rw [e40, show min (kc + 1) 200 = kc + 1 from by omega]; exact of_s kc)
theorem wd_m1 {x : Int32} (h : wd x) : ¬ x = Int32.ofInt (-1) := fun hh => wd_nn h (by rw [hh]; decide)
theorem M262_l (hN : 2000 ≤ N) (hm : sh11 kad Z m) (hI : ∀ j, Inv q j (tr K B j)) (hB : B 1 2 = 0) : ∀ (n made s kc F : Nat) (I : AI), MG m K B s kc I → s ≤ 1000 → kc ≤ 200 → n < F → made + n ≤ 100 → Ok (f262_b37 kad N Z F m (Int32.ofNat (made + n)) (Int32.ofNat made) I) (fun v J => v = Int32.ofNat (made + run K B (Int32.ofInt (-1)) n s) ∧ MG m K B (s + run K B (Int32.ofInt (-1)) n s) (min (kc + run K B (Int32.ofInt (-1)) n s) 200) J ∧ frM m I J) := by
  intro n
  induction n with
  | zero =>
    intro made s kc F I H hs hk hF hm
    obtain ⟨F, rfl⟩ : ∃ G, F = G + 1 := ⟨F - 1, by omega⟩
    unfold f262_b37 f262_b59
    rw [Nat.add_zero, if_pos (Int32.le_refl _)]
    refine Ok.ret ⟨rfl, ?_, frM.rfl'⟩
    rw [show run K B (Int32.ofInt (-1)) 0 s = 0 from rfl, show min (kc + 0) 200 = kc from by omega]
    exact H
  | succ n ih =>
    intro made s kc F I H hs hk hF hmm
    obtain ⟨F, rfl⟩ : ∃ G, F = G + 1 := ⟨F - 1, by omega⟩
    unfold f262_b37 f262_b59
    rw [if_neg (fun h => absurd ((of_le (by omega) (by omega)).mp h) (by omega)), M260 H.1 (tr_2 hB s) hs, Option.bind_some]
    dsimp only
    unfold run
    by_cases hc : tr K B s 1 0 = 1 ∧ s < 1000
    · rw [if_pos hc, if_neg (show ¬ (1 : Int32) = 0 from by decide), if_pos hc]
      refine (M261 hN hm hI H hc.2 hk).bind fun v J ⟨HJ, fJ⟩ => ?_
      dsimp only
      rw [of_s, if_neg (fun h => wd_m1 ((hI (s + 1)).1.1.1.2 3 (by omega)) h.1)]
      have := ih (made + 1) (s + 1) (min (kc + 1) 200) F J HJ (by omega) (by omega) (by omega) (by omega)
      rw [show made + 1 + n = made + (n + 1) from by omega] at this
      refine this.mono fun v J2 ⟨a1, a2, a4⟩ => ⟨?_, ?_, fJ.trans a4⟩
      · rw [a1]; congr 1; omega
      · rw [show s + (1 + run K B (Int32.ofInt (-1)) n (s + 1)) = s + 1 + run K B (Int32.ofInt (-1)) n (s + 1) from by omega, show min (kc + (1 + run K B (Int32.ofInt (-1)) n (s + 1))) 200 = min (min (kc + 1) 200 + run K B (Int32.ofInt (-1)) n (s + 1)) 200 from by omega]
        exact a2
    · rw [if_neg hc, if_pos rfl, if_neg hc]
      refine Ok.ret ⟨rfl, ?_, frM.rfl'⟩
      rw [show min (kc + 0) 200 = kc from by omega]
      exact H
theorem M263_l (hN : 2000 ≤ N) (hm : sh11 kad Z m) (hI : ∀ j, Inv q j (tr K B j)) (hB : B 1 2 = 0) (ad : Int32) : ∀ (n made s kc F : Nat) (I : AI), MG m K B s kc I → s ≤ 1000 → kc ≤ 200 → n + 1 < F → made + n ≤ 100 → Ok (f263_b51 kad N Z F m ad (Int32.ofNat (made + n)) (Int32.ofNat made) 0 I) (fun v J => v = Int32.ofNat (made + run K B ad n s) ∧ MG m K B (s + run K B ad n s) (min (kc + run K B ad n s) 200) J ∧ frM m I J) := by
  intro n
  induction n with
  | zero =>
    intro made s kc F I H hs hk hF hm
    obtain ⟨F, rfl⟩ : ∃ G, F = G + 1 := ⟨F - 1, by omega⟩
    unfold f263_b51 f263_b100
    rw [Nat.add_zero, if_pos (Int32.le_refl _)]
    refine Ok.ret ⟨rfl, ?_, frM.rfl'⟩
    rw [show run K B ad 0 s = 0 from rfl, show min (kc + 0) 200 = kc from by omega]
    exact H
  | succ n ih =>
    intro made s kc F I H hs hk hF hmm
    obtain ⟨F, rfl⟩ : ∃ G, F = G + 1 := ⟨F - 1, by omega⟩
    unfold f263_b51 f263_b100
    rw [if_neg (fun h => absurd ((of_le (by omega) (by omega)).mp h) (by omega)), if_neg z00, M260 H.1 (tr_2 hB s) hs, Option.bind_some]
    dsimp only
    unfold run
    by_cases hc : tr K B s 1 0 = 1 ∧ s < 1000
    · rw [if_pos hc, if_neg (show ¬ (1 : Int32) = 0 from by decide), if_pos hc]
      refine (M261 hN hm hI H hc.2 hk).bind fun v J ⟨HJ, fJ⟩ => ?_
      dsimp only
      have e27 : J m 27 = tr K B (s + 1) 1 3 := HJ.1.1 1 3 (Or.inl rfl) (show 3 < 14 by decide)
      have e46 : J m 46 = sLeft (tr K B (s + 1)) := HJ.1.2.1
      rw [of_s]
      have goon : Ok (f263_b51 kad N Z F m ad (Int32.ofNat (made + (n + 1))) (Int32.ofNat (made + 1)) 0 J) (fun v J => v = Int32.ofNat (made + (1 + run K B ad n (s + 1))) ∧ MG m K B (s + (1 + run K B ad n (s + 1))) (min (kc + (1 + run K B ad n (s + 1))) 200) J ∧ frM m I J) := by
        have := ih (made + 1) (s + 1) (min (kc + 1) 200) F J HJ (by omega) (by omega) (by omega) (by omega)
        rw [show made + 1 + n = made + (n + 1) from by omega] at this
        refine this.mono fun v J2 ⟨a1, a2, a4⟩ => ⟨?_, ?_, fJ.trans a4⟩
        · rw [a1]; congr 1; omega
        · rw [show s + (1 + run K B ad n (s + 1)) = s + 1 + run K B ad n (s + 1) from by omega, show min (kc + (1 + run K B ad n (s + 1))) 200 = min (min (kc + 1) 200 + run K B ad n (s + 1)) 200 from by omega]
          exact a2
      unfold f263_b94 f263_b95
      by_cases h3 : tr K B (s + 1) 1 3 = ad
      · rw [if_neg (show ¬ ¬ J m 27 = ad from fun h => h (e27.trans h3))]
        by_cases h4 : sLeft (tr K B (s + 1)) = 0
        · rw [if_neg (show ¬ ¬ J m 46 = 0 from fun h => h (e46.trans h4)), if_pos ⟨h3, h4⟩]
          obtain ⟨F, rfl⟩ : ∃ G, F = G + 1 := ⟨F - 1, by omega⟩
          dsimp only
          unfold f263_b51 f263_b100
          by_cases hh : Int32.ofNat (made + (n + 1)) ≤ Int32.ofNat (made + 1)
          · rw [if_pos hh]
            exact Ok.ret ⟨rfl, HJ, fJ⟩
          · rw [if_neg hh, if_pos (show ¬ (1 : Int32) = 0 from by decide)]
            exact Ok.ret ⟨rfl, HJ, fJ⟩
        · rw [if_pos (show ¬ J m 46 = 0 from fun h => h4 (e46.symm.trans h)), if_neg (fun h => h4 h.2)]
          exact goon
      · rw [if_pos (show ¬ J m 27 = ad from fun h => h3 (e27.symm.trans h)), if_neg (fun h => h3 h.1)]
        exact goon
    · rw [if_neg hc, if_pos rfl, if_neg hc]
      refine Ok.ret ⟨rfl, ?_, frM.rfl'⟩
      rw [show min (kc + 0) 200 = kc from by omega]
      exact H
end MU
