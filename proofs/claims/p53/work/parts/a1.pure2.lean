/-! both times' lines, on plain numbers -/
section PV
variable {n p i e use : Nat} {st : List Nat} {L : AI} {C D E : PN} {r : Nat × PN} {ln : Nat → Nat → List Nat → PN → Option (Nat × PN)}
theorem pig : ∀ (n : Nat) (l : List Nat), l.Nodup → (∀ a, a ∈ l → a < n) → l.length ≤ n := by
  intro n
  induction n with
  | zero =>
    intro l _ h
    cases l with
    | nil => exact Nat.le_refl _
    | cons a l => exact absurd (h a List.mem_cons_self) (by omega)
  | succ n ih =>
    intro l hd h
    by_cases hn : n ∈ l
    · have h1 := ih (l.erase n) (hd.sublist List.erase_sublist) (fun a ha => by
        have h2 := (hd.mem_erase_iff).mp ha
        have h3 := h a h2.2
        have h4 := h2.1
        omega)
      have h2 := List.length_erase_of_mem hn
      omega
    · have h1 := ih l hd (fun a ha => by
        have h3 := h a ha
        have h4 : ¬ a = n := fun hh => hn (by rw [← hh]; exact ha)
        omega)
      omega
theorem nd5 {a : Nat} (h : (a :: st).Nodup) (h2 : ∀ b, b ∈ a :: st → b < 5) : st.length < 5 := by
  have := pig 5 (a :: st) h h2
  rw [List.length_cons] at this
  omega
/-- a use that is begun -/
theorem asC.in (H : asC n L p i e use st C) (W : asW n L p D) (hg : D 0 2 + 1 ≤ D 0 1) {a : Nat} (ha : a < 5) (hs : ¬ a ∈ st) (h2 : ¬ D 2 a = 0) (hp : p = 1 → ¬ D 5 (D 0 2 + 1) = 0 ∧ ¬ D 6 (D 0 2 + 1) = 0) : asC n L p (D 2 a) (D 3 a) (D 0 2 + 1) (a :: st) (un D 0 2 (D 0 2 + 1)) := by
  obtain ⟨m1, m2, m3, m4, m5⟩ := (W.2.1 a ha).1 h2
  refine ⟨⟨m1, by omega, fun j h1 h3 h6 => absurd h6 (m5 j h1 h3).1⟩, W.us1 hg, ⟨Nat.le_refl _, fun h1 _ => hp h1⟩, List.nodup_cons.mpr ⟨hs, H.2.2.2.1⟩, fun b hb => ?_⟩
  rcases List.mem_cons.mp hb with h | h
  · rw [h]; exact ha
  · exact H.2.2.2.2 b h
theorem l1_S (hv : ∀ j, j < n → LV L j) (hn : n ≤ 100) : asS n L 0 (l1 n L) := by
  intro i e use st C r H hi hl
  obtain ⟨⟨a1, a2, a3⟩, W, ⟨b1, b2⟩, c⟩ := H
  have hin : i < n := by omega
  have hvi := hv i hin
  have w0 := W.1.1
  unfold l1 at hl
  by_cases hg : 300 < C 0 1 + 1
  · rw [if_pos hg] at hl
    cases hl
    exact ⟨⟨asLe.gone, rfl, rfl, by dsimp only; omega⟩, fun hh => absurd hh (by first | omega | (dsimp only; omega))⟩
  rw [if_neg hg] at hl
  have W1 := W.gone (by omega)
  by_cases h0 : L 1 i = 0
  · rw [if_pos h0] at hl
    cases hl
    obtain ⟨-, -, n1, -⟩ := hvi.nn (by rw [h0]; decide) (by rw [h0]; decide)
    exact ⟨⟨asLe.gone.trans asLe.pr, rfl, rfl, Nat.zero_le _⟩, fun _ => ⟨W1.pr (n1 h0), fun h => by rw [h0] at h; exact absurd h (by decide), fun h => by rw [h0] at h; exact absurd h (by decide)⟩⟩
  rw [if_neg h0] at hl
  by_cases h1 : L 1 i = 1
  · rw [if_pos h1] at hl
    by_cases h : C 4 (slN (nT (L 2 i)) use) = 0
    · rw [if_pos h] at hl
      cases hl
      refine ⟨⟨asLe.gone.trans asLe.lb, rfl, rfl, Nat.zero_le _⟩, fun _ => ⟨W1.lb ?_ w0, fun h => by rw [h1] at h; exact absurd h (by decide), fun h => by rw [h1] at h; exact absurd h (by decide)⟩⟩
      have := W.1.2.2.2.1
      have h01 : C 0 0 = 0 ∨ C 0 0 = 1 := by omega
      rcases h01 with h | h <;> (rw [h]; omega)
    · rw [if_neg h] at hl
      cases hl
      exact ⟨⟨asLe.gone, rfl, rfl, by dsimp only; omega⟩, fun hh => absurd hh (by first | omega | (dsimp only; omega))⟩
  rw [if_neg h1] at hl
  by_cases h2 : L 1 i = 2 ∨ L 1 i = 3 ∨ L 1 i = 4
  · rw [if_pos h2] at hl
    by_cases h : C 1 0 + C 1 1 + wl L i ≤ 248
    · rw [if_pos h] at hl
      cases hl
      refine ⟨⟨asLe.gone.trans (asLe.sz (Nat.le_add_right _ _)), rfl, rfl, Nat.zero_le _⟩, fun _ => ⟨W1.sz (w := wl L i) h, fun h => ?_, fun h => ?_⟩⟩
      · rw [h] at h2; exact absurd h2 (by decide)
      · rw [h] at h2; exact absurd h2 (by decide)
    · rw [if_neg h] at hl
      cases hl
      exact ⟨⟨asLe.gone, rfl, rfl, by dsimp only; omega⟩, fun hh => absurd hh (by first | omega | (dsimp only; omega))⟩
  rw [if_neg h2] at hl
  by_cases h5 : L 1 i = 5
  · rw [if_pos h5] at hl
    cases hl
    exact ⟨⟨asLe.gone, rfl, rfl, Nat.zero_le _⟩, fun _ => ⟨W1, fun h => by rw [h5] at h; exact absurd h (by decide), fun h => by rw [h5] at h; exact absurd h (by decide)⟩⟩
  rw [if_neg h5] at hl
  by_cases h6 : L 1 i = 6
  · rw [if_pos h6] at hl
    obtain ⟨x1, x2, x3, x4⟩ := nx_le (L := L) hin
    by_cases hm : C 2 (nT (L 2 i)) = 0
    · rw [if_pos hm] at hl
      by_cases hx : nx n L i = n
      · rw [if_pos hx] at hl
        cases hl
        exact ⟨⟨asLe.gone, rfl, rfl, by dsimp only; omega⟩, fun hh => absurd hh (by first | omega | (dsimp only; omega))⟩
      · rw [if_neg hx] at hl
        by_cases hy : L 1 (nx n L i) = 6
        · rw [if_pos hy] at hl
          cases hl
          exact ⟨⟨asLe.gone, rfl, rfl, by dsimp only; omega⟩, fun hh => absurd hh (by first | omega | (dsimp only; omega))⟩
        · rw [if_neg hy] at hl
          cases hl
          refine ⟨⟨asLe.gone.trans ((asLe.m2 (C := un C 0 1 (C 0 1 + 1)) hm).trans asLe.m9), rfl, rfl, Nat.zero_le _⟩, fun _ => ⟨W1.m4 (Nat.succ_ne_zero i) x1 (by omega) (fun j h1 h2 => x4 j h1 h2), fun h => by rw [h6] at h; exact absurd h (by decide), fun _ => ?_⟩⟩
          have e3 : un (un (un (un (un C 0 1 (C 0 1 + 1)) 2 (nT (L 2 i)) (i + 1)) 3 (nT (L 2 i)) (nx n L i)) 9 (nT (L 2 i)) (i + 1)) 10 (nT (L 2 i)) (nx n L i) 3 (nT (L 2 i)) = nx n L i := by
            rw [un_b (by decide), un_b (by decide), un_eq]
          have e2 : un (un (un (un (un C 0 1 (C 0 1 + 1)) 2 (nT (L 2 i)) (i + 1)) 3 (nT (L 2 i)) (nx n L i)) 9 (nT (L 2 i)) (i + 1)) 10 (nT (L 2 i)) (nx n L i) 2 (nT (L 2 i)) = i + 1 := by
            rw [un_b (by decide), un_b (by decide), un_b (by decide), un_eq]
          dsimp only
          rw [e3, e2]
          exact ⟨Nat.succ_ne_zero i, x1, a3 i (Nat.le_refl _) hi h6 (by omega)⟩
    · rw [if_neg hm] at hl
      cases hl
      exact ⟨⟨asLe.gone, rfl, rfl, by dsimp only; omega⟩, fun hh => absurd hh (by first | omega | (dsimp only; omega))⟩
  rw [if_neg h6] at hl
  by_cases h7 : L 1 i = 7
  · rw [if_pos h7] at hl
    cases hl
    exact ⟨⟨asLe.gone, rfl, rfl, by dsimp only; omega⟩, fun hh => absurd hh (by first | omega | (dsimp only; omega))⟩
  rw [if_neg h7] at hl
  by_cases h8 : C 2 (nT (L 2 i)) = 0 ∨ nT (L 2 i) ∈ st
  · rw [if_pos h8] at hl
    cases hl
    exact ⟨⟨asLe.gone, rfl, rfl, by dsimp only; omega⟩, fun hh => absurd hh (by first | omega | (dsimp only; omega))⟩
  · rw [if_neg h8] at hl
    cases hl
    refine ⟨⟨asLe.gone, rfl, rfl, Nat.zero_le _⟩, fun _ => ⟨W1, fun h => ?_, fun h => absurd h h6⟩⟩
    obtain ⟨-, -, -, -, -, -, -, n1⟩ := hvi.nn (by rw [h]; decide) (by rw [h]; decide)
    have n1 := n1 h
    have hns : ¬ nT (L 2 i) ∈ st := fun hh => h8 (Or.inr hh)
    have hn2 : ¬ C 2 (nT (L 2 i)) = 0 := fun hh => h8 (Or.inl hh)
    exact ⟨by omega, hns, hn2, asC.in (D := un C 0 1 (C 0 1 + 1)) ⟨⟨a1, a2, a3⟩, W, ⟨b1, b2⟩, c⟩ W1 (Nat.succ_le_succ W.1.2.1) (by omega) hns hn2 (fun hh => absurd hh (by decide))⟩
theorem l2_S (hv : ∀ j, j < n → LV L j) (hn : n ≤ 100) : asS n L 1 (l2 n L) := by
  intro i e use st C r H hi hl
  obtain ⟨⟨a1, a2, a3⟩, W, ⟨b1, b2⟩, c⟩ := H
  have hin : i < n := by omega
  have hvi := hv i hin
  have w0 := W.1.1
  unfold l2 at hl
  by_cases hg : 300 < C 0 1 + 1
  · rw [if_pos hg] at hl; cases hl
  rw [if_neg hg] at hl
  have W1 := W.gone (by omega)
  by_cases h0 : L 1 i = 0
  · rw [if_pos h0] at hl
    cases hl
    obtain ⟨-, -, n1, -⟩ := hvi.nn (by rw [h0]; decide) (by rw [h0]; decide)
    exact ⟨⟨asLe.gone.trans asLe.pr, rfl, rfl, Nat.zero_le _⟩, fun _ => ⟨W1.pr (n1 h0), fun h => by rw [h0] at h; exact absurd h (by decide), fun h => by rw [h0] at h; exact absurd h (by decide)⟩⟩
  rw [if_neg h0] at hl
  by_cases h1 : L 1 i = 1
  · rw [if_pos h1] at hl
    cases hl
    exact ⟨⟨asLe.gone, rfl, rfl, Nat.zero_le _⟩, fun _ => ⟨W1, fun h => by rw [h1] at h; exact absurd h (by decide), fun h => by rw [h1] at h; exact absurd h (by decide)⟩⟩
  rw [if_neg h1] at hl
  by_cases hb : (L 1 i = 2 ∨ L 1 i = 3 ∨ L 1 i = 4) ∧ ¬ (C 1 0 + C 1 1 + wl L i ≤ 248 ∧ (C 0 0 = 1 → C 8 0 + C 1 1 + wl L i ≤ 256))
  · rw [if_pos hb] at hl; cases hl
  rw [if_neg hb] at hl
  have hbb : (L 1 i = 2 ∨ L 1 i = 3 ∨ L 1 i = 4) → C 1 0 + C 1 1 + wl L i ≤ 248 := fun hh => by
    by_cases hx : C 1 0 + C 1 1 + wl L i ≤ 248 ∧ (C 0 0 = 1 → C 8 0 + C 1 1 + wl L i ≤ 256)
    · exact hx.1
    · exact absurd ⟨hh, hx⟩ hb
  by_cases h4 : L 1 i = 4
  · rw [if_pos h4] at hl
    cases hl
    have hw : wl L i = nT (L 2 i) := by unfold wl; rw [if_neg (by rw [h4]; decide), if_neg (by rw [h4]; decide)]
    refine ⟨⟨asLe.gone.trans (asLe.sz (Nat.le_add_right _ _)), rfl, rfl, Nat.zero_le _⟩, fun _ => ⟨W1.sz (w := nT (L 2 i)) (by have := hbb (Or.inr (Or.inr h4)); rw [hw] at this; exact this), fun h => by rw [h4] at h; exact absurd h (by decide), fun h => by rw [h4] at h; exact absurd h (by decide)⟩⟩
  rw [if_neg h4] at hl
  by_cases h6 : L 1 i = 6
  · rw [if_pos h6] at hl
    obtain ⟨x1, x2, x3, x4⟩ := nx_le (L := L) hin
    by_cases hm : C 2 (nT (L 2 i)) = 0 ∧ C 9 (nT (L 2 i)) = i + 1 ∧ C 10 (nT (L 2 i)) = nx n L i ∧ nx n L i < n ∧ ¬ L 1 (nx n L i) = 6
    · rw [if_pos hm] at hl
      cases hl
      obtain ⟨m1, m2, m3, m4, m5⟩ := hm
      refine ⟨⟨asLe.gone.trans (asLe.m2 (C := un C 0 1 (C 0 1 + 1)) m1), rfl, rfl, Nat.zero_le _⟩, fun _ => ⟨W1.m2 (Nat.succ_ne_zero i) x1 m4 (fun j h1 h2 => x4 j h1 h2) m2 m3, fun h => by rw [h6] at h; exact absurd h (by decide), fun _ => ?_⟩⟩
      dsimp only
      rw [un_eq, un_b (by decide), un_eq]
      exact ⟨Nat.succ_ne_zero i, x1, a3 i (Nat.le_refl _) hi h6 (by omega)⟩
    · rw [if_neg hm] at hl; cases hl
  rw [if_neg h6] at hl
  by_cases h7 : L 1 i = 7
  · rw [if_pos h7] at hl; cases hl
  rw [if_neg h7] at hl
  by_cases h8 : L 1 i = 8 ∧ (C 2 (nT (L 2 i)) = 0 ∨ nT (L 2 i) ∈ st)
  · rw [if_pos h8] at hl; cases hl
  rw [if_neg h8] at hl
  have hk : L 1 i = 2 ∨ L 1 i = 3 ∨ L 1 i = 5 ∨ L 1 i = 8 := by
    rcases hvi with h | h | h | h | h | h | h | h | h
    · exact absurd h.1 h0
    · exact absurd h.1 h1
    · exact Or.inl h.1
    · exact Or.inr (Or.inl h.1)
    · exact absurd h.1 h4
    · exact Or.inr (Or.inr (Or.inl h.1))
    · exact absurd h.1 h6
    · exact absurd h h7
    · exact Or.inr (Or.inr (Or.inr h.1))
  obtain ⟨o1, o2⟩ := hvi.op hk
  cases ho : opV (L 3 i) (L 4 i) use C with
  | none =>
    rw [ho] at hl
    dsimp only at hl
    cases hl
    have := oe_le (k := L 3 i)
    exact ⟨⟨asLe.gone, rfl, rfl, by dsimp only; omega⟩, fun hh => absurd hh (by first | omega | (dsimp only; omega))⟩
  | some v =>
    rw [ho] at hl
    dsimp only at hl
    have hv1 := opV_lt o1 W ho
    by_cases h5 : L 1 i = 5
    · rw [if_pos h5] at hl
      cases hl
      exact ⟨⟨asLe.gone.trans asLe.im, rfl, rfl, Nat.zero_le _⟩, fun _ => ⟨W1.im hv1, fun h => by rw [h5] at h; exact absurd h (by decide), fun h => by rw [h5] at h; exact absurd h (by decide)⟩⟩
    rw [if_neg h5] at hl
    by_cases h2 : L 1 i = 2
    · rw [if_pos h2] at hl
      cases hl
      obtain ⟨-, n1, -⟩ := hvi.nn (by rw [h2]; decide) (by rw [h2]; decide)
      have hw : wl L i = 2 := by unfold wl; rw [if_pos h2]
      have hq := hbb (Or.inl h2)
      have hs := put1 (C := un C 0 1 (C 0 1 + 1)) (nT (L 2 i)) (by exact w0)
      have hs2 : putN (nT (L 2 i)) (un C 0 1 (C 0 1 + 1)) 1 0 + putN (nT (L 2 i)) (un C 0 1 (C 0 1 + 1)) 1 1 = C 1 0 + C 1 1 + 1 := hs
      exact ⟨⟨asLe.gone.trans (asLe.put.trans asLe.put), rfl, rfl, Nat.zero_le _⟩, fun _ => ⟨(W1.put n1 (by show C 1 0 + C 1 1 + 1 ≤ 248; omega)).put hv1 (by omega), fun h => by rw [h2] at h; exact absurd h (by decide), fun h => by rw [h2] at h; exact absurd h (by decide)⟩⟩
    rw [if_neg h2] at hl
    by_cases h3 : L 1 i = 3
    · rw [if_pos h3] at hl
      cases hl
      have hw : wl L i = 1 := by unfold wl; rw [if_neg h2, if_pos h3]
      have hq := hbb (Or.inr (Or.inl h3))
      exact ⟨⟨asLe.gone.trans asLe.put, rfl, rfl, Nat.zero_le _⟩, fun _ => ⟨W1.put hv1 (by show C 1 0 + C 1 1 + 1 ≤ 248; omega), fun h => by rw [h3] at h; exact absurd h (by decide), fun h => by rw [h3] at h; exact absurd h (by decide)⟩⟩
    rw [if_neg h3] at hl
    have hk8 : L 1 i = 8 := by rcases hk with h | h | h | h; exact absurd h h2; exact absurd h h3; exact absurd h h5; exact h
    cases ho2 : opV (L 5 i) (L 6 i) use C with
    | none =>
      rw [ho2] at hl
      dsimp only at hl
      cases hl
      have := oe_le (k := L 5 i)
      exact ⟨⟨asLe.gone, rfl, rfl, by dsimp only; omega⟩, fun hh => absurd hh (by first | omega | (dsimp only; omega))⟩
    | some w =>
      rw [ho2] at hl
      dsimp only at hl
      cases hl
      have hw1 := opV_lt (o2 hk8) W ho2
      obtain ⟨-, -, -, -, -, -, -, n1⟩ := hvi.nn (by rw [hk8]; decide) (by rw [hk8]; decide)
      have n1 := n1 hk8
      have hns : ¬ nT (L 2 i) ∈ st := fun hh => h8 ⟨hk8, Or.inr hh⟩
      have hn2 : ¬ C 2 (nT (L 2 i)) = 0 := fun hh => h8 ⟨hk8, Or.inl hh⟩
      have W2 : asW n L 1 (un (un (un C 0 1 (C 0 1 + 1)) 5 (C 0 2 + 1) (v + 1)) 6 (C 0 2 + 1) (w + 1)) := W1.ar (by omega) (by omega)
      refine ⟨⟨asLe.gone.trans asLe.ar, rfl, rfl, Nat.zero_le _⟩, fun _ => ⟨W2, fun _ => ⟨by omega, hns, hn2, asC.in ⟨⟨a1, a2, a3⟩, W, ⟨b1, b2⟩, c⟩ W2 (Nat.succ_le_succ W.1.2.1) (by omega) hns hn2 (fun _ => ⟨?_, ?_⟩)⟩, fun h => absurd h h6⟩⟩
      · show ¬ un (un (un C 0 1 (C 0 1 + 1)) 5 (C 0 2 + 1) (v + 1)) 6 (C 0 2 + 1) (w + 1) 5 (C 0 2 + 1) = 0
        rw [un_b (by decide), un_eq]; omega
      · show ¬ un (un (un C 0 1 (C 0 1 + 1)) 5 (C 0 2 + 1) (v + 1)) 6 (C 0 2 + 1) (w + 1) 6 (C 0 2 + 1) = 0
        rw [un_eq]; omega
/-- the lines of a use keep what a line keeps -/
theorem gL_S (HS : asS n L p ln) {rc : Nat → Nat → Nat → List Nat → PN → Option (Nat × PN)} (hrc : ∀ i e use st C r, asC n L p i e use st C → rc i e use st C = some r → (asLe C r.2 ∧ r.1 ≤ 1000) ∧ (r.1 = 0 → asW n L p r.2)) : ∀ (F i e use : Nat) (st : List Nat) (C : PN) (r : Nat × PN), asC n L p i e use st C → gL L ln rc F i e use st C = some r → (asLe C r.2 ∧ r.1 ≤ 1000) ∧ (r.1 = 0 → asW n L p r.2) := by
  intro F
  induction F with
  | zero => intro i e use st C r _ h; cases h
  | succ F ih =>
    intro i e use st C r H h
    unfold gL at h
    by_cases hi : e ≤ i
    · rw [if_pos hi] at h
      cases h
      exact ⟨⟨asLe.refl, Nat.zero_le _⟩, fun _ => H.2.1⟩
    rw [if_neg hi] at h
    cases hl : ln i use st C with
    | none => rw [hl] at h; cases h
    | some q =>
      rw [hl] at h
      dsimp only at h
      obtain ⟨⟨s1, s2, s3, s4⟩, s5⟩ := HS i e use st C q H (by omega) hl
      by_cases hq : q.1 = 0
      · rw [if_pos hq] at h
        obtain ⟨t1, t2, t3⟩ := s5 hq
        by_cases h8 : L 1 i = 8
        · rw [if_pos h8] at h
          obtain ⟨-, -, -, u⟩ := t2 h8
          cases hr : rc (q.2 2 (nT (L 2 i))) (q.2 3 (nT (L 2 i))) (q.2 0 2 + 1) (nT (L 2 i) :: st) (un q.2 0 2 (q.2 0 2 + 1)) with
          | none => rw [hr] at h; cases h
          | some x =>
            rw [hr] at h
            dsimp only at h
            obtain ⟨⟨v1, v2⟩, v3⟩ := hrc _ _ _ _ _ _ u hr
            have le2 := s1.trans (asLe.us1.trans v1)
            by_cases hx : x.1 = 0
            · rw [if_pos hx] at h
              obtain ⟨⟨y1, y2⟩, y3⟩ := ih _ _ _ _ _ _ (H.next le2 (v3 hx) (Nat.le_succ i) (by omega)) h
              exact ⟨⟨le2.trans y1, y2⟩, y3⟩
            · rw [if_neg hx] at h
              cases h
              exact ⟨⟨le2, v2⟩, fun hh => absurd hh hx⟩
        · rw [if_neg h8] at h
          obtain ⟨⟨y1, y2⟩, y3⟩ := ih _ _ _ _ _ _ (H.next s1 t1 (j := if L 1 i = 6 then q.2 3 (nT (L 2 i)) + 1 else i + 1) (by split; (rename_i h6; have := (t3 h6).2; omega); omega) (by split; (rename_i h6; have := (t3 h6).2; omega); omega)) h
          exact ⟨⟨s1.trans y1, y2⟩, y3⟩
      · rw [if_neg hq] at h
        cases h
        exact ⟨⟨s1, s4⟩, fun hh => absurd hh hq⟩
theorem gT_S (HS : asS n L p ln) : ∀ (k i e use : Nat) (st : List Nat) (C : PN) (r : Nat × PN), asC n L p i e use st C → gT L ln k i e use st C = some r → (asLe C r.2 ∧ r.1 ≤ 1000) ∧ (r.1 = 0 → asW n L p r.2) := by
  intro k
  induction k with
  | zero => intro i e use st C r _ h; cases h
  | succ k ih => exact gL_S HS ih 101
end PV
