/-! p53: an error's number; what lies behind the words in the image -/
def eN (n x : Nat) : Prop := x = 0 ∨ (100 ≤ x ∧ x < 800 ∧ x % 100 < n)
/-- the image's words lie in the two sections, or at 0 and 1 -/
def imO (C : PN) : Prop := ∀ k, 8 ≤ k → ¬ C 7 k = 0 → k < 8 + C 1 0 ∨ (C 8 0 ≤ k ∧ k < C 8 0 + C 1 1)
section BE
variable {n p i e use : Nat} {st : List Nat} {L : AI} {C D FF : PN} {r : Nat × PN} {ln : Nat → Nat → List Nat → PN → Option (Nat × PN)}
theorem eN.mk1 {a : Nat} (ha : 1 ≤ a ∧ a ≤ 7) (hi : i < n) (hn : n ≤ 100) : eN n (100 * a + i) := Or.inr ⟨by omega, by omega, by omega⟩
theorem l1_E (hi : i < n) (hn : n ≤ 100) (h : l1 n L i use st C = some r) : eN n r.1 := by
  have e1 : eN n (100 + i) := eN.mk1 (a := 1) (by decide) hi hn
  have e2 : eN n (200 + i) := eN.mk1 (a := 2) (by decide) hi hn
  have e3 : eN n (300 + i) := eN.mk1 (a := 3) (by decide) hi hn
  have e4 : eN n (400 + i) := eN.mk1 (a := 4) (by decide) hi hn
  have e5 : eN n (500 + i) := eN.mk1 (a := 5) (by decide) hi hn
  have e0 : eN n 0 := Or.inl rfl
  have ex : ¬ nx n L i = n → eN n (400 + nx n L i) := fun hx => eN.mk1 (a := 4) (by decide) (by have := (nx_le (L := L) hi).2.1; omega) hn
  unfold l1 at h
  repeat' split at h
  all_goals (cases h; first | exact e0 | exact e1 | exact e2 | exact e3 | exact e4 | exact e5 | (apply ex; assumption))
theorem oe_67 {k : Int32} : oe k = 6 ∨ oe k = 7 := by
  unfold oe
  split
  · exact Or.inl rfl
  · exact Or.inr rfl
theorem imO.cong (h : imO C) (h7 : D 7 = C 7) (h1 : D 1 = C 1) (h8 : D 8 = C 8) : imO D := by
  unfold imO
  rw [h7, h1, h8]
  exact h
theorem imO.sz (h : imO C) {v w : Nat} : imO (un C 1 v (C 1 v + w)) := fun k h8 hk => by
  have e : ∀ q, C 1 q ≤ un C 1 v (C 1 v + w) 1 q := fun q => by
    by_cases hq : q = v
    · rw [hq, un_eq]; omega
    · rw [un_ne (by omega)]; exact Nat.le_refl _
  rw [un_b (by decide)] at hk
  rw [un_b (show ¬ 8 = 1 by decide)]
  have e0 := e 0
  have e1 := e 1
  rcases h k h8 hk with hh | hh
  · exact Or.inl (by omega)
  · exact Or.inr (by omega)
theorem imO.put (h : imO C) (h0 : C 0 0 ≤ 1) {w : Nat} : imO (putN w C) := fun k h8 hk => by
  have e7 : putN w C 7 = un C 7 ((if C 0 0 = 0 then 8 else C 8 0) + C 1 (C 0 0)) w 7 := by
    unfold putN
    rw [un_b (by decide)]
  have e1 : ∀ q, putN w C 1 q = if q = C 0 0 then C 1 q + 1 else C 1 q := fun q => by
    unfold putN
    by_cases hq : q = C 0 0
    · rw [if_pos hq, hq, un_eq]
    · rw [if_neg hq, un_ne (by omega), un_b (by decide)]
  have e8 : putN w C 8 0 = C 8 0 := by
    unfold putN
    rw [un_b (by decide), un_b (by decide)]
  rw [e7] at hk
  rw [e1, e1, e8]
  by_cases hp : k = (if C 0 0 = 0 then 8 else C 8 0) + C 1 (C 0 0)
  · rcases (show C 0 0 = 0 ∨ C 0 0 = 1 by omega) with hc | hc
    · rw [hc, if_pos rfl] at hp
      rw [hc, if_pos rfl]
      exact Or.inl (by omega)
    · rw [hc, if_neg (by decide)] at hp
      rw [hc, if_pos (show 1 = 1 from rfl)]
      exact Or.inr (by omega)
  · rw [un_ne (by omega)] at hk
    rcases h k h8 hk with hh | hh
    · left
      split <;> omega
    · right
      refine ⟨hh.1, ?_⟩
      split <;> omega
theorem l2_I (hv : LV L i) (hi : i < n) (hn : n ≤ 100) (h0 : C 0 0 ≤ 1) (hC : imO C) (h : l2 n L i use st C = some r) : eN n r.1 ∧ imO r.2 := by
  have z0 : eN n 0 := Or.inl rfl
  have c0 : imO (un C 0 1 (C 0 1 + 1)) := hC.cong rfl rfl rfl
  have eo : ∀ k, eN n (100 * oe k + i) := fun k => by
    rcases oe_67 (k := k) with h | h <;> rw [h]
    · exact eN.mk1 (a := 6) (by decide) hi hn
    · exact eN.mk1 (a := 7) (by decide) hi hn
  unfold l2 at h
  by_cases hg : 300 < C 0 1 + 1
  · rw [if_pos hg] at h; cases h
  rw [if_neg hg] at h
  by_cases h0' : L 1 i = 0
  · rw [if_pos h0'] at h
    cases h
    exact ⟨z0, hC.cong rfl rfl rfl⟩
  rw [if_neg h0'] at h
  by_cases h1 : L 1 i = 1
  · rw [if_pos h1] at h
    cases h
    exact ⟨z0, c0⟩
  rw [if_neg h1] at h
  by_cases hb : (L 1 i = 2 ∨ L 1 i = 3 ∨ L 1 i = 4) ∧ ¬ (C 1 0 + C 1 1 + wl L i ≤ 248 ∧ (C 0 0 = 1 → C 8 0 + C 1 1 + wl L i ≤ 256))
  · rw [if_pos hb] at h; cases h
  rw [if_neg hb] at h
  by_cases h4 : L 1 i = 4
  · rw [if_pos h4] at h
    cases h
    exact ⟨z0, c0.sz⟩
  rw [if_neg h4] at h
  by_cases h6 : L 1 i = 6
  · rw [if_pos h6] at h
    split at h
    · cases h
      exact ⟨z0, hC.cong rfl rfl rfl⟩
    · cases h
  rw [if_neg h6] at h
  by_cases h7 : L 1 i = 7
  · rw [if_pos h7] at h; cases h
  rw [if_neg h7] at h
  by_cases h8 : L 1 i = 8 ∧ (C 2 (nT (L 2 i)) = 0 ∨ nT (L 2 i) ∈ st)
  · rw [if_pos h8] at h; cases h
  rw [if_neg h8] at h
  cases ho : opV (L 3 i) (L 4 i) use C with
  | none =>
    rw [ho] at h
    cases h
    exact ⟨eo _, c0⟩
  | some v =>
    rw [ho] at h
    dsimp only at h
    by_cases h5 : L 1 i = 5
    · rw [if_pos h5] at h
      cases h
      obtain ⟨-, -, -, -, -, n5, -⟩ := hv.nn (by rw [h5]; decide) (by rw [h5]; decide)
      have n5 := n5 h5
      refine ⟨z0, fun k k8 hk => ?_⟩
      have e7 : un (un C 0 1 (C 0 1 + 1)) 7 (nT (L 2 i)) v 7 k = C 7 k := by
        rw [un_ne (by omega), un_b (by decide)]
      have hk : ¬ un (un C 0 1 (C 0 1 + 1)) 7 (nT (L 2 i)) v 7 k = 0 := hk
      rw [e7] at hk
      exact hC k k8 hk
    rw [if_neg h5] at h
    by_cases h2 : L 1 i = 2
    · rw [if_pos h2] at h
      cases h
      exact ⟨z0, (c0.put h0).put h0⟩
    rw [if_neg h2] at h
    by_cases h3 : L 1 i = 3
    · rw [if_pos h3] at h
      cases h
      exact ⟨z0, c0.put h0⟩
    rw [if_neg h3] at h
    cases ho2 : opV (L 5 i) (L 6 i) use C with
    | none =>
      rw [ho2] at h
      cases h
      exact ⟨eo _, c0⟩
    | some w =>
      rw [ho2] at h
      cases h
      exact ⟨z0, hC.cong rfl rfl rfl⟩
/-- what lines keep, uses keep -/
theorem gL_P (HS : asS n L p ln) {P : PN → Prop} (hP : ∀ i e use st C r, asC n L p i e use st C → i < e → ln i use st C = some r → P C → eN n r.1 ∧ P r.2) (hu : ∀ C v, P C → P (un C 0 2 v)) {rc : Nat → Nat → Nat → List Nat → PN → Option (Nat × PN)} (hrs : ∀ i e use st C r, asC n L p i e use st C → rc i e use st C = some r → (asLe C r.2 ∧ r.1 ≤ 1000) ∧ (r.1 = 0 → asW n L p r.2)) (hrc : ∀ i e use st C r, asC n L p i e use st C → P C → rc i e use st C = some r → eN n r.1 ∧ P r.2) : ∀ (F i e use : Nat) (st : List Nat) (C : PN) (r : Nat × PN), asC n L p i e use st C → P C → gL L ln rc F i e use st C = some r → eN n r.1 ∧ P r.2 := by
  intro F
  induction F with
  | zero => intro i e use st C r _ _ h; cases h
  | succ F ih =>
    intro i e use st C r H hPC h
    unfold gL at h
    by_cases hi : e ≤ i
    · rw [if_pos hi] at h
      cases h
      exact ⟨Or.inl rfl, hPC⟩
    rw [if_neg hi] at h
    cases hl : ln i use st C with
    | none => rw [hl] at h; cases h
    | some q =>
      rw [hl] at h
      dsimp only at h
      obtain ⟨⟨s1, s2, s3, s4⟩, s5⟩ := HS i e use st C q H (by omega) hl
      obtain ⟨p1, p2⟩ := hP i e use st C q H (by omega) hl hPC
      by_cases hq : q.1 = 0
      · rw [if_pos hq] at h
        obtain ⟨t1, t2, t3⟩ := s5 hq
        by_cases h8 : L 1 i = 8
        · rw [if_pos h8] at h
          obtain ⟨-, -, -, u⟩ := t2 h8
          cases hr : rc (q.2 2 (nT (L 2 i))) (q.2 3 (nT (L 2 i))) (q.2 0 2 + 1) (nT (L 2 i) :: st) (un q.2 0 2 (q.2 0 2 + 1)) with
          | none => rw [hr] at h; cases h
          | some x =>
            rw [hr] at h
            dsimp only at h
            obtain ⟨⟨v1, v2⟩, v3⟩ := hrs _ _ _ _ _ _ u hr
            obtain ⟨y1, y2⟩ := hrc _ _ _ _ _ _ u (hu _ _ p2) hr
            by_cases hx : x.1 = 0
            · rw [if_pos hx] at h
              exact ih _ _ _ _ _ _ (H.next (s1.trans (asLe.us1.trans v1)) (v3 hx) (Nat.le_succ i) (by omega)) y2 h
            · rw [if_neg hx] at h
              cases h
              exact ⟨y1, y2⟩
        · rw [if_neg h8] at h
          exact ih _ _ _ _ _ _ (H.next s1 t1 (j := if L 1 i = 6 then q.2 3 (nT (L 2 i)) + 1 else i + 1) (by split; (rename_i h6; have := (t3 h6).2; omega); omega) (by split; (rename_i h6; have := (t3 h6).2; omega); omega)) p2 h
      · rw [if_neg hq] at h
        cases h
        exact ⟨p1, p2⟩
theorem gT_P (HS : asS n L p ln) {P : PN → Prop} (hP : ∀ i e use st C r, asC n L p i e use st C → i < e → ln i use st C = some r → P C → eN n r.1 ∧ P r.2) (hu : ∀ C v, P C → P (un C 0 2 v)) : ∀ (k i e use : Nat) (st : List Nat) (C : PN) (r : Nat × PN), asC n L p i e use st C → P C → gT L ln k i e use st C = some r → eN n r.1 ∧ P r.2 := by
  intro k
  induction k with
  | zero => intro i e use st C r _ _ h; cases h
  | succ k ih =>
    intro i e use st C r H hPC h
    exact gL_P HS hP hu (gT_S HS k) ih 101 i e use st C r H hPC h
/-- both times, with what an error's number is and what lies behind the words -/
theorem as_ends2 (hv : ∀ j, j < n → LV L j) (hn : n ≤ 100) : ∃ r, gT L (l1 n L) 6 0 n 0 [] as0 = some r ∧ r.1 ≤ 1000 ∧ eN n r.1 ∧ (r.1 = 0 → asW n L 0 r.2 ∧ ∃ q, gT L (l2 n L) 6 0 n 0 [] (as2 r.2) = some q ∧ q.1 ≤ 1000 ∧ eN n q.1 ∧ (q.1 = 0 → asW n L 1 q.2 ∧ ∀ k, 8 + (q.2 1 0 + q.2 1 1) ≤ k → q.2 7 k = 0)) := by
  obtain ⟨r, hr, a2, -, hr3⟩ := as_ends hv hn
  have hE := (gT_P (P := fun _ => True) (l1_S hv hn) (fun i e use st C r H hi h _ => ⟨l1_E (by have := H.1.2.1; omega) hn h, trivial⟩) (fun _ _ _ => trivial) 6 _ _ _ _ _ _ as0_C trivial hr).1
  refine ⟨r, hr, a2, hE, fun h0 => ?_⟩
  obtain ⟨W, -, q, hq, b2, -, b3⟩ := hr3 h0
  have iO : imO (as2 r.2) := fun k _ hk => absurd (show as2 r.2 7 k = 0 from rfl) hk
  obtain ⟨hE2, hI⟩ := gT_P (P := imO) (l2_S hv hn) (fun i e use st C r H hi h hC => l2_I (hv i (by have := H.1.2.1; omega)) (by have := H.1.2.1; omega) hn H.2.1.1.1 hC h) (fun C v h => h.cong rfl rfl rfl) 6 _ _ _ _ _ _ (as2_C W) iO hq
  refine ⟨W, q, hq, b2, hE2, fun q0 => ⟨b3 q0, fun k hk => ?_⟩⟩
  obtain ⟨q', hq', hm⟩ := mir_T (FF := r.2) hv hn W.1.2.2.2.1 6 0 n 0 [] as0 (as2 r.2) r.2 as0_C (by rw [hr, ← h0]) asLe.refl as2_M
  have eq : q' = q := Option.some.inj (hq'.symm.trans hq)
  subst eq
  obtain ⟨m1, -, m3⟩ := hm q0
  have e1 : q'.2 1 = r.2 1 := m1 1 (by decide)
  rw [← e1] at m3
  refine Classical.byContradiction fun hne => ?_
  rcases hI k (by omega) hne with hh | hh
  · omega
  · omega
end BE
