/-! the class goes through a line the first time -/
section AM
variable {kad : Nat → Nat} {N : Nat} {Z : AZ} {S n i use : Nat} {st : List Nat} {C : PN} {L I : AI} {r : Nat × PN}
theorem asF.up2' {b j b' j' : Nat} {v v' : Int32} (h : b = S + 1 ∨ (S + 3 ≤ b ∧ b < S + 12)) (h' : b' = S + 1 ∨ (S + 3 ≤ b' ∧ b' < S + 12)) : asF S I (up2 (up2 I b j v) b' j' v') := (asF.up h).trans (asF.up h')
/-- what is known of a line's cell -/
theorem CSr.at (H : CSr n S L I) (hi : i < n) : (I (S + (12 + i)) 0 = L 1 i ∧ I (S + (12 + i)) 1 = L 2 i) ∧ (I (S + (12 + i)) 2 = L 3 i ∧ I (S + (12 + i)) 3 = L 4 i) ∧ (I (S + (12 + i)) 4 = L 5 i ∧ I (S + (12 + i)) 5 = L 6 i) := H.2 i hi
theorem CSr.f {J : AI} (H : CSr n S L I) (h : asF S I J) : CSr n S L J := by
  refine ⟨by rw [h.2 0 (by decide)]; exact H.1, fun j hj => ?_⟩
  unfold CL
  rw [h.1 _ (by omega)]
  exact H.2 j hj
theorem asK1 (hN : 2000 ≤ N) (hs : sh0 kad Z S) (hz : Z.1 (kad 9) = none) (hn : n ≤ 100) (hv : ∀ j, j < n → LV L j) (hi : i < n) (HC : CSr n S L I) (K : asK S 0 st C I) (W : asW n L 0 C) (hu : use ≤ C 0 2) (hl : l1 n L i use st C = some r) :
    ∃ I', f10 kad N Z S (S + (12 + i)) (Int32.ofNat i) (Int32.ofNat use) I = some (Int32.ofNat r.1, I') ∧ asF S I I' ∧ I' (S + 5) = I (S + 5) ∧ (r.1 = 0 → asK S 0 st r.2 I') := by
  obtain ⟨⟨w0, w1, w2, w3, w4⟩, wm, ws⟩ := W
  have hk := sh0_f2 hs i (by omega)
  have hvi := hv i hi
  obtain ⟨I1, hI1⟩ : ∃ I1, I1 = up2 I S 13 (Int32.ofNat (C 0 1 + 1)) := ⟨_, rfl⟩
  obtain ⟨G, hG⟩ : ∃ G, G = un C 0 1 (C 0 1 + 1) := ⟨_, rfl⟩
  have K1 : asK S 0 st G I1 := by rw [hI1, hG]; exact K.g
  have F1 : asF S I I1 := by rw [hI1]; exact asF.upS (by decide)
  have B1 : I1 (S + 5) = I (S + 5) := by rw [hI1]; exact up2_b (by omega)
  have C1 := HC.f F1
  obtain ⟨⟨c0, c1⟩, -⟩ := C1.at hi
  have g0 : G 0 0 = C 0 0 := by rw [hG]; rfl
  have g1 : G 1 = C 1 := by rw [hG]; exact un_b (by decide)
  have g4 : G 4 = C 4 := by rw [hG]; exact un_b (by decide)
  have g9 : G 9 = C 9 := by rw [hG]; exact un_b (by decide)
  have e13 : I1 S 13 = Int32.ofNat (C 0 1 + 1) := by rw [hI1, up2_eq]
  unfold l1 at hl
  rw [← hG] at hl
  unfold f10
  rw [K.1.2.2.2 rfl, of_s, wI_ok, Option.bind_some, ← hI1, e13]
  by_cases hg : 300 < C 0 1 + 1
  · rw [if_pos hg] at hl
    cases hl
    rw [if_neg (fun hh => by have := (of_le (n := 300) (by omega) (by decide)).mp hh; omega), K7_1, Option.bind_some]
    exact ⟨I1, rfl, F1, B1, fun h => absurd h (by first | omega | (dsimp only; omega))⟩
  rw [if_neg hg] at hl
  rw [if_pos (show Int32.ofNat (C 0 1 + 1) ≤ 300 from (of_le (n := 300) (by omega) (by decide)).mpr (by omega))]
  obtain ⟨c, hc, ec⟩ := LVk hvi
  rw [c0, ec, dzo_of hc, or_ok hk hc, Option.bind_some, sw_ok hz hc, Option.bind_some, c1]
  have hgrow : (L 1 i = 2 ∨ L 1 i = 3 ∨ L 1 i = 4) → (if C 1 0 + C 1 1 + wl L i ≤ 248 then some (0, un G 1 (C 0 0) (C 1 (C 0 0) + wl L i)) else some (100 + i, G)) = some r → ∃ I', f10_b116 kad N Z S (S + (12 + i)) (Int32.ofNat i) I1 = some (Int32.ofNat r.1, I') ∧ asF S I I' ∧ I' (S + 5) = I (S + 5) ∧ (r.1 = 0 → asK S 0 st r.2 I') := by
    intro h234 hl
    have e12 := K12 (kad := kad) (N := N) (Z := Z) K1 (by rw [g0]; exact w0) (by rw [g1]; exact w3) (wl_le hvi h234).2
    rw [g0, g1] at e12
    unfold f10_b116 f10_b136
    rw [K11 hk hvi (C1.at hi).1 h234, Option.bind_some, e12, Option.bind_some]
    dsimp only
    have F2 : asF S I (up2 I1 (S + 10) (C 0 0) (Int32.ofNat (C 1 (C 0 0) + wl L i))) := F1.trans (asF.up (by omega))
    have B2 : up2 I1 (S + 10) (C 0 0) (Int32.ofNat (C 1 (C 0 0) + wl L i)) (S + 5) = I (S + 5) := by rw [up2_b (by omega), B1]
    by_cases h : C 1 0 + C 1 1 + wl L i ≤ 248
    · rw [if_pos h] at hl
      cases hl
      rw [if_pos h, if_neg z10]
      exact ⟨_, rfl, F2, B2, fun _ => K1.sz⟩
    · rw [if_neg h] at hl
      cases hl
      rw [if_neg h, if_pos rfl, K7_1, Option.bind_some]
      exact ⟨_, rfl, F2, B2, fun hh => absurd hh (by first | omega | (dsimp only; omega))⟩
  have hc9 : c = 0 ∨ c = 1 ∨ c = 2 ∨ c = 3 ∨ c = 4 ∨ c = 5 ∨ c = 6 ∨ c = 7 ∨ c = 8 := by omega
  rcases hc9 with h | h | h | h | h | h | h | h | h
  · subst h
    have ec : L 1 i = 0 := ec
    rw [if_pos ec] at hl
    cases hl
    obtain ⟨n1, -⟩ := hvi.nn (by rw [ec]; decide) (by rw [ec]; decide)
    have e : up2 I1 S 15 (L 2 i) = up2 I1 S 15 (Int32.ofNat (nT (L 2 i))) := by rw [← n1]
    rw [if_pos (show aSm 0 = 1 from rfl), wI_ok, Option.bind_some, e]
    exact ⟨_, rfl, F1.trans (asF.upS (by decide)), by rw [up2_b (by omega), B1], fun _ => K1.pr⟩
  · subst h
    have ec : L 1 i = 1 := ec
    obtain ⟨n1, n2, -, n3, -⟩ := hvi.nn (by rw [ec]; decide) (by rw [ec]; decide)
    have n3 := n3 ec
    rw [if_neg (by rw [ec]; decide), if_pos ec] at hl
    have e14 := K14 (kad := kad) (N := N) (Z := Z) (use := use) K1 (by rw [g0]; exact w0) n3 (by omega) (by rw [g4]; exact (ws _).1.1)
    rw [← n1, g0, g1, g4] at e14
    rw [if_neg (show ¬ aSm 1 = 1 from by decide), if_pos (show aSm 1 = 2 from rfl), e14, Option.bind_some]
    unfold f10_b115
    by_cases h : C 4 (slN (nT (L 2 i)) use) = 0
    · rw [if_pos h] at hl
      cases hl
      rw [if_pos h]
      dsimp only
      rw [if_neg z10]
      exact ⟨_, rfl, F1.trans (asF.up2' (by omega) (by omega)), by rw [up2_b (by omega), up2_b (by omega), B1], fun _ => K1.lb⟩
    · rw [if_neg h] at hl
      cases hl
      rw [if_neg h]
      dsimp only
      rw [if_pos rfl, K7_2, Option.bind_some]
      exact ⟨_, rfl, F1, B1, fun hh => absurd hh (by first | omega | (dsimp only; omega))⟩
  · subst h
    have ec : L 1 i = 2 := ec
    rw [if_neg (by rw [ec]; decide), if_neg (by rw [ec]; decide), if_pos (Or.inl ec)] at hl
    rw [if_neg (by decide), if_neg (by decide), if_pos (show aSm 2 = 3 from rfl)]
    exact hgrow (Or.inl ec) hl
  · subst h
    have ec : L 1 i = 3 := ec
    rw [if_neg (by rw [ec]; decide), if_neg (by rw [ec]; decide), if_pos (Or.inr (Or.inl ec))] at hl
    rw [if_neg (by decide), if_neg (by decide), if_neg (by decide), if_pos (show aSm 3 = 4 from rfl)]
    exact hgrow (Or.inr (Or.inl ec)) hl
  · subst h
    have ec : L 1 i = 4 := ec
    rw [if_neg (by rw [ec]; decide), if_neg (by rw [ec]; decide), if_pos (Or.inr (Or.inr ec))] at hl
    rw [if_neg (by decide), if_neg (by decide), if_neg (by decide), if_neg (by decide), if_pos (show aSm 4 = 5 from rfl)]
    exact hgrow (Or.inr (Or.inr ec)) hl
  · subst h
    have ec : L 1 i = 5 := ec
    rw [if_neg (by rw [ec]; decide), if_neg (by rw [ec]; decide), if_neg (by rw [ec]; decide), if_pos ec] at hl
    cases hl
    rw [if_neg (by decide), if_neg (by decide), if_neg (by decide), if_neg (by decide), if_neg (by decide), if_neg (by decide), if_neg (by decide), if_neg (by decide)]
    exact ⟨_, rfl, F1, B1, fun _ => K1⟩
  · subst h
    have ec : L 1 i = 6 := ec
    obtain ⟨n1, n2, -, -, -, -, n3, -⟩ := hvi.nn (by rw [ec]; decide) (by rw [ec]; decide)
    have n3 := n3 ec
    obtain ⟨m1, m2⟩ := wm (nT (L 2 i)) (by omega)
    have hb9 : C 9 (nT (L 2 i)) ≤ 100 := by
      by_cases h2 : C 2 (nT (L 2 i)) = 0
      · rw [m2 rfl h2]; decide
      · obtain ⟨x1, x2, x3, -⟩ := m1 h2
        omega
    have h29 : C 9 (nT (L 2 i)) = 0 ↔ C 2 (nT (L 2 i)) = 0 := by
      constructor
      · intro h
        by_cases h2 : C 2 (nT (L 2 i)) = 0
        · exact h2
        · obtain ⟨x1, x2, x3, -⟩ := m1 h2
          omega
      · exact m2 rfl
    have e15 := K15 (kad := kad) (Z := Z) hN hs C1 hn hv (a := nT (L 2 i)) (by omega) hi K1 (by rw [g9]; exact hb9)
    rw [← n1, g9] at e15
    rw [if_neg (by rw [ec]; decide), if_neg (by rw [ec]; decide), if_neg (by rw [ec]; decide), if_neg (by rw [ec]; decide), if_pos ec] at hl
    rw [if_neg (by decide), if_neg (by decide), if_neg (by decide), if_neg (by decide), if_neg (by decide), if_pos (show aSm 6 = 6 from rfl), e15, Option.bind_some]
    by_cases h : C 2 (nT (L 2 i)) = 0
    · rw [if_pos h] at hl
      rw [if_pos (h29.mpr h)]
      by_cases h2 : nx n L i = n
      · rw [if_pos h2] at hl
        cases hl
        rw [if_pos h2]
        exact ⟨_, rfl, F1, B1, fun hh => absurd hh (by first | omega | (dsimp only; omega))⟩
      · rw [if_neg h2] at hl
        rw [if_neg h2]
        by_cases h3 : L 1 (nx n L i) = 6
        · rw [if_pos h3] at hl
          cases hl
          rw [if_pos h3]
          exact ⟨_, rfl, F1, B1, fun hh => absurd hh (by first | omega | (dsimp only; omega))⟩
        · rw [if_neg h3] at hl
          cases hl
          rw [if_neg h3]
          exact ⟨_, rfl, F1.trans (asF.up2' (by omega) (by omega)), by dsimp only; rw [up2_b (by omega), up2_b (by omega), B1], fun _ => K1.m2.m3.mc⟩
    · rw [if_neg h] at hl
      cases hl
      rw [if_neg (fun hh => h (h29.mp hh))]
      exact ⟨_, rfl, F1, B1, fun hh => absurd hh (by first | omega | (dsimp only; omega))⟩
  · subst h
    have ec : L 1 i = 7 := ec
    rw [if_neg (by rw [ec]; decide), if_neg (by rw [ec]; decide), if_neg (by rw [ec]; decide), if_neg (by rw [ec]; decide), if_neg (by rw [ec]; decide), if_pos ec] at hl
    cases hl
    rw [if_neg (by decide), if_neg (by decide), if_neg (by decide), if_neg (by decide), if_neg (by decide), if_neg (by decide), if_pos (show aSm 7 = 7 from rfl), K7_4, Option.bind_some]
    exact ⟨_, rfl, F1, B1, fun hh => absurd hh (by first | omega | (dsimp only; omega))⟩
  · subst h
    have ec : L 1 i = 8 := ec
    obtain ⟨n1, n2, -, -, -, -, -, n3⟩ := hvi.nn (by rw [ec]; decide) (by rw [ec]; decide)
    have n3 := n3 ec
    obtain ⟨m1, m2⟩ := wm (nT (L 2 i)) (by omega)
    have hb9 : C 9 (nT (L 2 i)) ≤ 100 := by
      by_cases h2 : C 2 (nT (L 2 i)) = 0
      · rw [m2 rfl h2]; decide
      · obtain ⟨x1, x2, x3, -⟩ := m1 h2
        omega
    have h29 : C 9 (nT (L 2 i)) = 0 ↔ C 2 (nT (L 2 i)) = 0 := by
      constructor
      · intro h
        by_cases h2 : C 2 (nT (L 2 i)) = 0
        · exact h2
        · obtain ⟨x1, x2, x3, -⟩ := m1 h2
          omega
      · exact m2 rfl
    have e16 := K16 (kad := kad) (N := N) (Z := Z) (a := nT (L 2 i)) (by omega) K1 (by rw [g9]; exact hb9)
    rw [← n1, g9] at e16
    rw [if_neg (by rw [ec]; decide), if_neg (by rw [ec]; decide), if_neg (by rw [ec]; decide), if_neg (by rw [ec]; decide), if_neg (by rw [ec]; decide), if_neg (by rw [ec]; decide)] at hl
    rw [if_neg (by decide), if_neg (by decide), if_neg (by decide), if_neg (by decide), if_neg (by decide), if_neg (by decide), if_neg (by decide), if_pos (show aSm 8 = 8 from rfl), e16, Option.bind_some]
    unfold f10_b173
    by_cases h : C 2 (nT (L 2 i)) = 0 ∨ nT (L 2 i) ∈ st
    · rw [if_pos h] at hl
      cases hl
      rw [if_pos (h.imp h29.mpr id)]
      dsimp only
      rw [if_pos rfl, K7_5, Option.bind_some]
      exact ⟨_, rfl, F1, B1, fun hh => absurd hh (by first | omega | (dsimp only; omega))⟩
    · rw [if_neg h] at hl
      cases hl
      rw [if_neg (show ¬ (C 9 (nT (L 2 i)) = 0 ∨ nT (L 2 i) ∈ st) from fun hh => h (hh.imp h29.mp id))]
      dsimp only
      rw [if_neg z10]
      exact ⟨_, rfl, F1, B1, fun _ => K1⟩
end AM
