/-! the model makes a file call -/
theorem of_nz {n : Nat} (h : 0 < n) (hn : n < 2147483648) : ¬ Int32.ofNat n = 0 := fun hh => absurd ((of_inj (n := 0) hn (by decide)).mp hh) (by omega)
theorem sPut_n {b : Int32} {p : Nat} {w : Int32} {X : AI} : sPut b p w X 2 = X 2 := sPut_o (by decide)
theorem isC.two {call : Int32} {X Y : AI} (h : isC call X) : sCarry call Y 2 = Y 2 := by
  have o : ¬ (2 : Nat) = 14 ∧ ¬ (2 : Nat) = 15 := by decide
  unfold sCarry
  by_cases c0 : call = 0
  · rw [if_pos c0]; exact sPut_o o
  rw [if_neg c0]
  by_cases c1 : call = 1
  · rw [if_pos c1]; exact sApp_o o
  rw [if_neg c1]
  by_cases c2 : call = 2
  · rw [if_pos c2]; exact sPut_o o
  rw [if_neg c2]
  have c3 : ¬ call = 3 ∧ ¬ call = 4 := by
    rcases h.1 with h | h | h | h | h
    · exact absurd h c0
    · exact absurd h c1
    · exact absurd h c2
    · rw [h]; decide
    · rw [h.1]; decide
  rw [if_neg c3.1, if_neg c3.2]
  by_cases c5 : call = 5
  · rw [if_pos c5]; exact sRm_o o
  rw [if_neg c5]
  exact sRen_o o
/-- all but what the clerk works with -/
theorem isC.keep {call : Int32} {X : AI} (h : isC call X) {c : Nat} (hc : ¬ c = 14 ∧ ¬ c = 15) : sCarry call (sOpen X) c = X c := by
  by_cases h2 : c = 2
  · subst h2
    rw [h.two, sOpen_o hc]
  · rw [sCarry_o hc h2, sOpen_o hc]
/-- what stands behind such a call, in the class -/
theorem isC.spec {call : Int32} {X : AI} (h : isC call X) (hw : wdk X) (hD : WF (X 9)) (h0 : X 3 0 = 0) : ∃ n, 1 ≤ n ∧ n ≤ 3 ∧ n = 0 + cS (pS call X) 32 0 ∧ sAdds 32 0 (sCarry call (sOpen X)) 3 0 = Int32.ofNat n ∧ (∀ c, ¬ c = 3 → ¬ c = 4 → ¬ c = 5 → sAdds 32 0 (sCarry call (sOpen X)) c = sCarry call (sOpen X) c) ∧ (∀ j, ¬ j = 0 → sAdds 32 0 (sCarry call (sOpen X)) 3 j = X 3 j) ∧ NB 32 n (pW call X) (pS call X) (sAdds 32 0 (sCarry call (sOpen X))) := by
  obtain ⟨a1, a2⟩ := carry_c h hw hD
  obtain ⟨⟨x, y, z, p1⟩, ⟨u, p2, p3⟩, p4⟩ := pS_3 h hw hD
  have h3 : cS (pS call X) 32 0 ≤ 3 := by
    have := cS_3 p1 32 0
    have e : ∀ w, (if 0 ≤ w ∧ w < 0 + 32 then 1 else 0) ≤ 1 := fun w => by split <;> omega
    have e1 := e x
    have e2 := e y
    have e3 := e z
    omega
  have h1 := cS_pos p3 32 0 (by omega) (by omega)
  have e3 : sCarry call (sOpen X) 3 = X 3 := h.keep (by decide)
  have r := sAdds_spec a1 a2 32 0 0 (sCarry call (sOpen X)) rfl (by omega) (by rw [e3]; exact h0) (fun _ _ _ _ => rfl) (fun _ _ => rfl) ⟨fun k hk => absurd hk (by omega), fun j k _ hk => absurd hk (by omega), fun k p hk => absurd hk (by omega), fun c hc => absurd hc (by omega)⟩
  obtain ⟨r1, r2, r3, r4⟩ := r
  refine ⟨0 + cS (pS call X) 32 0, by omega, by omega, rfl, r1, r2, fun j hj => ?_, r4⟩
  rw [r3 j hj, e3]
theorem MR.o {e m s : Nat} {I0 I X Y : AI} (H : MR e m s I0 I X) (he : e = 0) (hY : ∀ c, ¬ c = 14 → ¬ c = 15 → Y c = X c) : MR e m s I0 I Y := by
  subst he
  obtain ⟨b1, ⟨b2, b3⟩, b4, b5⟩ := H
  refine ⟨fun d j hd hj => ?_, ⟨?_, fun h3 => ?_⟩, fun hs => ?_, b5⟩
  · have h14 : ¬ d = 14 := fun h => by subst h; exact absurd hj.1 (by decide)
    have h15 : ¬ d = 15 := fun h => by subst h; exact absurd hj.1 (by decide)
    rw [hY d h14 h15]
    exact b1 d j hd (rel_lo hd (hY 3 (by decide) (by decide)) (hY 1 (by decide) (by decide)) (hY 10 (by decide) (by decide)) hj)
  · rw [b2]
    unfold sLeft
    rw [hY 3 (by decide) (by decide)]
  · rw [hY 3 (by decide) (by decide)] at h3 ⊢
    exact b3 h3
  · unfold n1 n2
    rw [hY 20 (by decide) (by decide), hY 26 (by decide) (by decide)]
    exact b4 hs
/-- a call is prepared -/
theorem MR.prep {m s n : Nat} {I0 I X J Y : AI} (H : MR 0 m s I0 I X) (hn1 : 1 ≤ n) (hn3 : n ≤ 3) (hJ : ∀ b, ¬ b = m → ¬ b = m + 22 → ¬ b = m + 23 → ¬ b = m + 25 → J b = I b) (hm : ∀ j, ¬ j = 46 → ¬ j = 47 → J m j = I m j) (h46 : J m 46 = 2 * Int32.ofNat n + 2) (h47 : J m 47 = Int32.ofNat n) (h3 : Y 3 0 = Int32.ofNat n) (h31 : Y 3 1 = 0) (hY : ∀ c, ¬ c = 3 → ¬ c = 4 → ¬ c = 5 → ¬ c = 14 → ¬ c = 15 → Y c = X c) (h4 : ∀ k, k < n → J (m + 22) k = Y 4 k) (h5 : ∀ k, k < 8 * n → J (m + 23) k = Y 5 k) : MR 0 m s I0 J Y := by
  obtain ⟨b1, ⟨b2, b3⟩, b4, b5⟩ := H
  have en : nT (Y 3 0) = n := by rw [h3]; exact nT_of (by omega)
  refine ⟨fun d j hd hj => ?_, ⟨?_, fun _ => ?_⟩, fun hs => ?_, fun b j hb => ?_⟩
  · by_cases d4 : d = 4
    · subst d4
      have hj : j < nT (Y 3 0) ∧ j < 3 := hj
      exact h4 j (by omega)
    by_cases d5 : d = 5
    · subst d5
      have hj : j < 8 * nT (Y 3 0) ∧ j < 24 := hj
      exact h5 j (by omega)
    have h14 : ¬ d = 14 := fun h => by subst h; exact absurd hj.1 (by decide)
    have hd2 := hd
    unfold mC at hd2
    have e1 := hY 1 (by decide) (by decide) (by decide) (by decide) (by decide)
    have e10 := hY 10 (by decide) (by decide) (by decide) (by decide) (by decide)
    have hr : rel 0 X d j := by
      rcases hd2 with rfl | rfl | rfl | rfl | rfl | rfl | rfl | rfl | rfl | rfl | rfl | rfl
      · exact (show j < 14 from hj)
      · exact (show j < 4 from hj)
      · exact absurd rfl d4
      · exact absurd rfl d5
      · exact (show j < 256 from hj)
      · have hj : j < nT (Y 1 12) ∧ j < 60 := hj
        rw [e1] at hj
        exact hj
      · exact (show j = 1 from hj)
      · exact (show j < 256 from hj)
      · exact (show j = 0 from hj)
      · have hj : j < nT (Y 10 0) ∧ j < 20 := hj
        rw [e10] at hj
        exact hj
      · have hj : j < nT (Y 10 0) ∧ j < 20 := hj
        rw [e10] at hj
        exact hj
      · exact absurd rfl h14
    have t := (mA_ne (m := m) (c := d) (k := j) (s := s) hd (fun h => by subst h; exact hr)).1
    have hv : J (mA m d) (mK d j) = I (mA m d) (mK d j) := by
      by_cases hA : mA m d = m
      · rw [hA]
        exact hm _ (fun h => t ⟨hA, Or.inl h⟩) (fun h => t ⟨hA, Or.inr h⟩)
      · refine congrFun (hJ _ hA ?_ ?_ ?_) _
        all_goals
          rcases hd2 with rfl | rfl | rfl | rfl | rfl | rfl | rfl | rfl | rfl | rfl | rfl | rfl <;> first
            | exact absurd rfl d4
            | exact absurd rfl d5
            | exact absurd rfl h14
            | (simp only [mA]; omega)
    rw [hv, hY d (fun h => by subst h; unfold mC at hd; omega) d4 d5 h14 (fun h => by subst h; unfold mC at hd; omega)]
    exact b1 d j hd hr
  · rw [h46]
    unfold sLeft
    rw [h3, h31, if_neg (of_nz (n := n) (by omega) (by omega))]
    grind
  · rw [h47, h3]
  · unfold n1 n2
    rw [hY 20 (by decide) (by decide) (by decide) (by decide) (by decide), hY 26 (by decide) (by decide) (by decide) (by decide) (by decide), hJ _ (by omega) (by omega) (by omega) (by omega), hJ _ (by omega) (by omega) (by omega) (by omega)]
    exact b4 hs
  · have hT : ¬ (b = m ∧ (j = 46 ∨ j = 47)) := fun h => hb (Or.inl ⟨h.1, by omega⟩)
    have h22 : ¬ (b = m + 22 ∨ b = m + 23 ∨ b = m + 25) := fun h => hb (Or.inr (Or.inl (by omega)))
    by_cases e : b = m
    · rw [e, hm j (fun h => hT ⟨e, Or.inl h⟩) (fun h => hT ⟨e, Or.inr h⟩), ← e]
      exact b5 b j hb
    · rw [hJ b e (fun h => h22 (Or.inl h)) (fun h => h22 (Or.inr (Or.inl h))) (fun h => h22 (Or.inr (Or.inr h)))]
      exact b5 b j hb
section MH
variable {kad : Nat → Nat} {N : Nat} {Z : AZ} {m s : Nat} {I0 I X : AI}
end MH
