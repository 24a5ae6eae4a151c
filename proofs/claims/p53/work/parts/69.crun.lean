/-! the class makes steps and keeps them -/
theorem RM.cong {a : Nat} {I J X : AI} (h : RM a I X) (hJ : ∀ b, a < b → b < a + 17 → J b = I b) : RM a J X := by
  intro c k hc hr
  have := rel_vc hr
  rw [hJ (a + c) (by omega) (by omega)]
  exact h c k hc hr
theorem RK.cong {κ : Nat} {I J Y : AI} (h : RK κ I Y) (hJ : ∀ b, κ ≤ b → b < κ + 9 → J b = I b) : RK κ J Y := by
  intro c k hc hr
  have := rel_vc hr
  rw [hJ _ (by omega) (by omega)]
  exact h c k hc hr
theorem RC.rm {Z : AZ} {a κ : Nat} {I0 I X : AI} (h : RC 0 Z a κ I0 I X) : RM a I X := fun c k hc hr => by
  have := h.2.2.2 c k hr
  rwa [show loc a κ c = a + c from by unfold loc; rw [if_pos hc]] at this
theorem RC.rk {Z : AZ} {a κ : Nat} {I0 I X : AI} (h : RC 0 Z a κ I0 I X) : RK κ I X := fun c k hc hr => by
  have := h.2.2.2 c k hr
  rwa [show loc a κ c = κ + (c - 20) from by unfold loc; rw [if_neg (by omega)]] at this
/-- what the machine's methods change of the class -/
def frC (g : Nat) (I J : AI) : Prop := (∀ b, ¬ b = g → ¬ (g + 114 ≤ b ∧ b < g + 131) → ¬ (g + 182 ≤ b ∧ b < g + 1982) → J b = I b) ∧ (∀ j, ¬ j = 5 → J g j = I g j)
def frX (g : Nat) (I J : AI) : Prop := (∀ b, ¬ b = g → ¬ (g + 114 ≤ b ∧ b < g + 178) → ¬ (g + 182 ≤ b ∧ b < g + 1982) → J b = I b) ∧ (∀ j, ¬ j = 5 → J g j = I g j)
theorem frC.x {g : Nat} {I J : AI} (h : frC g I J) : frX g I J := ⟨fun b b1 b2 b3 => h.1 b b1 (by omega) b3, h.2⟩
theorem frC.rfl' {g : Nat} {I : AI} : frC g I I := ⟨fun _ _ _ _ => rfl, fun _ _ => rfl⟩
theorem frC.trans {g : Nat} {I J Q : AI} (h : frC g I J) (h2 : frC g J Q) : frC g I Q := ⟨fun b b1 b2 b3 => (h2.1 b b1 b2 b3).trans (h.1 b b1 b2 b3), fun j hj => (h2.2 j hj).trans (h.2 j hj)⟩
/-- a machine that is on, in the class: so many steps, so many kept -/
def CG (g : Nat) (K B : AI) (s kc : Nat) (I : AI) : Prop := RM (g + 114) I (tr K B s) ∧ I g 5 = Int32.ofNat kc ∧ (∀ j, s ≤ j + kc → j < s → RK (g + (182 + 9 * (j % 200))) I (tr K B (j + 1)))
def Gd (q : Nat) (K B : AI) (s kc : Nat) : Prop := (Inv q 0 (sKeys (ov K B)) ∧ B 1 2 = 0) ∧ (kc ≤ 200 ∧ kc ≤ s ∧ s ≤ 1000) ∧ (∀ j, j < s → tr K B j 1 0 = 1)
/-- how many steps are made, of so many -/
def run (K B : AI) (ad : Int32) : Nat → Nat → Nat
  | 0, _ => 0
  | n + 1, s => if tr K B s 1 0 = 1 ∧ s < 1000 then (if tr K B (s + 1) 1 3 = ad ∧ sLeft (tr K B (s + 1)) = 0 then 1 else 1 + run K B ad n (s + 1)) else 0
section CR
variable {kad : Nat → Nat} {N : Nat} {Z : AZ} {g q s kc : Nat} {I : AI} {K B : AI}
theorem xor200 : ∀ s : Fin 1001, 0 ≤ Int32.ofNat s.1 ^^^ 200 := by decide +kernel
theorem K167 (hs : s ≤ 1000) : f167 kad N Z g (Int32.ofNat s) I = some (g + (182 + 9 * (s % 200)), I) := by
  unfold f167 f49 f49_b18
  rw [if_neg (show ¬ (200 : Int32) = 0 from by decide), if_pos (xor200 ⟨s, by omega⟩), Option.bind_some]
  dsimp only
  rw [show Int32.ofNat s - Int32.ofNat s / (200 : Int32) * (200 : Int32) = Int32.ofNat (s % 200) from eR (n := 200) (by omega) (by decide) (by decide), ixA_of (by omega), Option.bind_some]
theorem K82 {a : Nat} {X : AI} (H : RM a I X) (hs : X 1 2 = Int32.ofNat s) (hs2 : s ≤ 1000) : f82 kad N Z a I = some (if X 1 0 = 1 ∧ s < 1000 then 1 else 0, I) := by
  unfold f82 f82_b28 f82_b29
  rw [H 1 0 (by decide) (show 0 < 14 by decide), H 1 2 (by decide) (show 2 < 14 by decide), hs]
  by_cases h0 : X 1 0 = 1
  · rw [if_neg (fun h => h h0)]
    by_cases h1 : s < 1000
    · rw [if_neg (show ¬ (1000 : Int32) ≤ Int32.ofNat s from fun h => absurd ((of_le (m := 1000) (by decide) (by omega)).mp h) (by omega)), if_pos (Or.inr rfl), if_pos ⟨h0, h1⟩]
    · rw [if_pos (show (1000 : Int32) ≤ Int32.ofNat s from (of_le (m := 1000) (by decide) (by omega)).mpr (by omega)), if_pos (Or.inl rfl), if_neg (fun h => h1 h.2)]
  · rw [if_pos h0, if_pos (Or.inl rfl), if_neg (fun h => h0 h.1)]
/-- a step is made -/
theorem CG.step (hN : 2000 ≤ N) (hg : sh10 kad Z g) (zk : ∀ j, j < 200 → Z.2.1 (g + 114) 7 (Z.2.2 (g + 114) 7 (g + (182 + 9 * j))) = g + (182 + 9 * j)) (hI : ∀ j, Inv q j (tr K B j)) (H : CG g K B s kc I) (hs : s ≤ 1000) (hk : kc ≤ 200) : Ok (f83 kad N Z (g + 114) (g + (182 + 9 * (s % 200))) I) (fun _ J => CG g K B (s + 1) (min (kc + 1) 200) (up2 J g 5 (Int32.ofNat (min (kc + 1) 200))) ∧ (J g = I g ∧ frC g I (up2 J g 5 (Int32.ofNat (min (kc + 1) 200))))) := by
  have hd : g + (182 + 9 * (s % 200)) + 9 ≤ g + 114 ∨ g + 114 + 17 ≤ g + (182 + 9 * (s % 200)) := by omega
  refine (C83 hN (sh10_s3 hg) hd (zk _ (by omega)) (hI s).okm H.1).mono fun v J HJ => ?_
  rw [← tr_s] at HJ
  have fr : ∀ b, ¬ (g + 114 ≤ b ∧ b < g + 114 + 17) → ¬ (g + (182 + 9 * (s % 200)) ≤ b ∧ b < g + (182 + 9 * (s % 200)) + 9) → J b = I b := fun b h1 h2 => by
    rw [HJ.2.2.1 b h1 h2, up2_b (by omega)]
  have eg : J g = I g := fr g (by omega) (by omega)
  refine ⟨⟨HJ.rm.cong (fun b b1 b2 => up2_b (by omega)), up2_eq, fun j j1 j2 => ?_⟩, eg, fun b b1 b2 b3 => ?_, fun j hj => ?_⟩
  · by_cases e : j = s
    · rw [e]
      exact HJ.rk.cong (fun b b1 b2 => up2_b (by omega))
    · have hne : ¬ j % 200 = s % 200 := by omega
      refine (H.2.2 j (by omega) (by omega)).cong (fun b b1 b2 => ?_)
      rw [up2_b (by omega)]
      exact fr b (by omega) (by omega)
  · rw [up2_b b1]
    exact fr b (by omega) (by omega)
  · rw [up2_ne (fun hh => hj hh.2), eg]
theorem k200 {x : Int32} (h : x = Int32.ofNat kc) (hk : kc ≤ 200) : (if (200 : Int32) < x + 1 then (200 : Int32) else x + 1) = Int32.ofNat (min (kc + 1) 200) := by
  subst h
  rw [of_s]
  by_cases h : 200 < kc + 1
  · rw [if_pos (show (200 : Int32) < Int32.ofNat (kc + 1) from (of_lt (m := 200) (by decide) (by omega)).mpr h), show min (kc + 1) 200 = 200 from by omega]
    rfl
  · rw [if_neg (show ¬ (200 : Int32) < Int32.ofNat (kc + 1) from fun hh => h ((of_lt (m := 200) (by decide) (by omega)).mp hh)), show min (kc + 1) 200 = kc + 1 from by omega]
theorem K63 {a : Nat} {X : AI} (H : RM a I X) : f63 kad N Z (a + 3) I = some (sLeft X, I) := by
  unfold f63 f63_b24 sLeft
  rw [H 3 0 (by decide) (show 0 < 2 by decide), H 3 1 (by decide) (show 1 < 2 by decide)]
  by_cases h : X 3 0 = 0
  · rw [if_neg (fun hh => hh h), if_pos h]
  · rw [if_pos h, if_neg h]
theorem C166_l (hN : 2000 ≤ N) (hg : sh10 kad Z g) (zk : ∀ j, j < 200 → Z.2.1 (g + 114) 7 (Z.2.2 (g + 114) 7 (g + (182 + 9 * j))) = g + (182 + 9 * j)) (hI : ∀ j, Inv q j (tr K B j)) (hB : B 1 2 = 0) (ad : Int32) : ∀ (n made s kc F : Nat) (I : AI), CG g K B s kc I → s ≤ 1000 → kc ≤ 200 → n + 1 < F → made + n ≤ 100 → Ok (f166_b5 kad N Z F g (Int32.ofNat (made + n)) ad (Int32.ofNat made) 0 I) (fun v J => v = Int32.ofNat (made + run K B ad n s) ∧ CG g K B (s + run K B ad n s) (min (kc + run K B ad n s) 200) J ∧ s + run K B ad n s ≤ 1000 ∧ frC g I J) := by
  intro n
  induction n with
  | zero =>
    intro made s kc F I H hs hk hF hm
    obtain ⟨F, rfl⟩ : ∃ G, F = G + 1 := ⟨F - 1, by omega⟩
    unfold f166_b5 f166_b105
    rw [Nat.add_zero, if_pos (Int32.le_refl _)]
    refine Ok.ret ⟨rfl, ?_, hs, frC.rfl'⟩
    rw [show run K B ad 0 s = 0 from rfl, show min (kc + 0) 200 = kc from by omega]
    exact H
  | succ n ih =>
    intro made s kc F I H hs hk hF hm
    obtain ⟨F, rfl⟩ : ∃ G, F = G + 1 := ⟨F - 1, by omega⟩
    unfold f166_b5 f166_b105
    rw [if_neg (fun h => absurd ((of_le (by omega) (by omega)).mp h) (by omega)), if_neg z00, K82 H.1 (tr_2 hB s) hs, Option.bind_some]
    dsimp only
    unfold run
    by_cases hc : tr K B s 1 0 = 1 ∧ s < 1000
    · rw [if_pos hc, if_neg (show ¬ (1 : Int32) = 0 from by decide), if_pos hc, H.1 1 2 (by decide) (show 2 < 14 by decide), tr_2 hB, K167 hs, Option.bind_some]
      dsimp only
      refine (H.step hN hg zk hI hs hk).bind fun v J ⟨HJ, eg, fJ⟩ => ?_
      dsimp only
      rw [k200 ((congrFun eg 5).trans H.2.1) hk]
      refine Ok.w ?_
      generalize up2 J g 5 (Int32.ofNat (min (kc + 1) 200)) = Q at HJ fJ
      have e13 : Q (g + 115) 3 = tr K B (s + 1) 1 3 := HJ.1 1 3 (by decide) (show 3 < 14 by decide)
      have e63 : f63 kad N Z (g + 117) Q = some (sLeft (tr K B (s + 1)), Q) := K63 HJ.1
      rw [e13, of_s]
      have goon : Ok (f166_b5 kad N Z F g (Int32.ofNat (made + (n + 1))) ad (Int32.ofNat (made + 1)) 0 Q) (fun v J => v = Int32.ofNat (made + (1 + run K B ad n (s + 1))) ∧ CG g K B (s + (1 + run K B ad n (s + 1))) (min (kc + (1 + run K B ad n (s + 1))) 200) J ∧ s + (1 + run K B ad n (s + 1)) ≤ 1000 ∧ frC g I J) := by
        have := ih (made + 1) (s + 1) (min (kc + 1) 200) F Q HJ (by omega) (by omega) (by omega) (by omega)
        rw [show made + 1 + n = made + (n + 1) from by omega] at this
        refine this.mono fun v J2 ⟨a1, a2, a3, a4⟩ => ⟨?_, ?_, by omega, fJ.trans a4⟩
        · rw [a1]; congr 1; omega
        · rw [show s + (1 + run K B ad n (s + 1)) = s + 1 + run K B ad n (s + 1) from by omega, show min (kc + (1 + run K B ad n (s + 1))) 200 = min (min (kc + 1) 200 + run K B ad n (s + 1)) 200 from by omega]
          exact a2
      unfold f166_b99 f166_b100
      by_cases h3 : tr K B (s + 1) 1 3 = ad
      · rw [if_neg (fun h => h h3), e63, Option.bind_some]
        dsimp only
        by_cases h4 : sLeft (tr K B (s + 1)) = 0
        · rw [if_neg (fun h => h h4), if_pos ⟨h3, h4⟩]
          obtain ⟨F, rfl⟩ : ∃ G, F = G + 1 := ⟨F - 1, by omega⟩
          unfold f166_b5 f166_b105
          by_cases hh : Int32.ofNat (made + (n + 1)) ≤ Int32.ofNat (made + 1)
          · rw [if_pos hh]
            exact Ok.ret ⟨rfl, HJ, by omega, fJ⟩
          · rw [if_neg hh, if_pos (show ¬ (1 : Int32) = 0 from by decide)]
            exact Ok.ret ⟨rfl, HJ, by omega, fJ⟩
        · rw [if_pos h4, if_neg (fun h => h4 h.2)]
          exact goon
      · rw [if_pos h3, if_neg (fun h => h3 h.1)]
        exact goon
    · rw [if_neg hc, if_pos rfl, if_neg hc]
      refine Ok.ret ⟨rfl, ?_, hs, frC.rfl'⟩
      rw [show min (kc + 0) 200 = kc from by omega]
      exact H
theorem C166 (hN : 2000 ≤ N) (hg : sh10 kad Z g) (zk : ∀ j, j < 200 → Z.2.1 (g + 114) 7 (Z.2.2 (g + 114) 7 (g + (182 + 9 * j))) = g + (182 + 9 * j)) (hG : Gd q K B s kc) (H : CG g K B s kc I) {n : Nat} (hn : n ≤ 100) (ad : Int32) : Ok (f166 kad N Z g (Int32.ofNat n) ad I) (fun v J => v = Int32.ofNat (run K B ad n s) ∧ CG g K B (s + run K B ad n s) (min (kc + run K B ad n s) 200) J ∧ s + run K B ad n s ≤ 1000 ∧ frC g I J) := by
  have := C166_l hN hg zk hG.1.1.trj hG.1.2 ad n 0 s kc N I H hG.2.1.2.2 hG.2.1.1 (by omega) (by omega)
  simp only [Nat.zero_add] at this
  exact this
/-- the steps that are made are made by a machine that runs -/
theorem run_ok (ad : Int32) : ∀ (n s : Nat), ∀ j, s ≤ j → j < s + run K B ad n s → tr K B j 1 0 = 1 ∧ j < 1000 := by
  intro n
  induction n with
  | zero => intro s j h1 h2; unfold run at h2; omega
  | succ n ih =>
    intro s j h1 h2
    unfold run at h2
    by_cases hc : tr K B s 1 0 = 1 ∧ s < 1000
    · rw [if_pos hc] at h2
      by_cases e : j = s
      · rw [e]; exact hc
      · split at h2
        · omega
        · exact ih (s + 1) j (by omega) (by omega)
    · rw [if_neg hc] at h2
      omega
theorem Gd.go (h : Gd q K B s kc) (ad : Int32) (n : Nat) : Gd q K B (s + run K B ad n s) (min (kc + run K B ad n s) 200) := by
  obtain ⟨a, ⟨b1, b2, b3⟩, c⟩ := h
  have hr := run_ok (K := K) (B := B) ad n s
  refine ⟨a, ⟨by omega, by omega, ?_⟩, fun j hj => ?_⟩
  · rcases Nat.eq_zero_or_pos (run K B ad n s) with h0 | h0
    · omega
    · have := (hr (s + run K B ad n s - 1) (by omega) (by omega)).2
      omega
  · by_cases h : j < s
    · exact c j h
    · exact (hr j (by omega) hj).1
end CR
