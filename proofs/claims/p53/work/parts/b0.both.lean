/-! the assembler's two times, ended -/
section BO
variable {n p i e use : Nat} {st : List Nat} {L : AI} {C D E FF : PN} {r : Nat × PN} {ln : Nat → Nat → List Nat → PN → Option (Nat × PN)}
theorem gL_B (HS : asS n L p ln) {rc : Nat → Nat → Nat → List Nat → PN → Option (Nat × PN)} (hrs : ∀ i e use st C r, asC n L p i e use st C → rc i e use st C = some r → (asLe C r.2 ∧ r.1 ≤ 1000) ∧ (r.1 = 0 → asW n L p r.2)) (hrc : ∀ i e use st C r, asC n L p i e use st C → rc i e use st C = some r → r.2 0 1 ≤ 301 ∧ r.2 0 2 ≤ 301) : ∀ (F i e use : Nat) (st : List Nat) (C : PN) (r : Nat × PN), asC n L p i e use st C → gL L ln rc F i e use st C = some r → r.2 0 1 ≤ 301 ∧ r.2 0 2 ≤ 301 := by
  intro F
  induction F with
  | zero => intro i e use st C r _ h; cases h
  | succ F ih =>
    intro i e use st C r H h
    have hw1 := H.2.1.1.2.1
    have hw2 := H.2.1.1.2.2.1
    unfold gL at h
    by_cases hi : e ≤ i
    · rw [if_pos hi] at h
      cases h
      exact ⟨by show C 0 1 ≤ 301; omega, by show C 0 2 ≤ 301; omega⟩
    rw [if_neg hi] at h
    cases hl : ln i use st C with
    | none => rw [hl] at h; cases h
    | some q =>
      rw [hl] at h
      dsimp only at h
      obtain ⟨⟨s1, s2, s3, s4⟩, s5⟩ := HS i e use st C q H (by omega) hl
      by_cases hq : q.1 = 0
      · rw [if_pos hq] at h
        obtain ⟨t1, t2, t3⟩ := s5 hq
        by_cases h8 : L 1 i = 8
        · rw [if_pos h8] at h
          obtain ⟨-, -, -, u⟩ := t2 h8
          cases hr : rc (q.2 2 (nT (L 2 i))) (q.2 3 (nT (L 2 i))) (q.2 0 2 + 1) (nT (L 2 i) :: st) (un q.2 0 2 (q.2 0 2 + 1)) with
          | none => rw [hr] at h; cases h
          | some x =>
            rw [hr] at h
            dsimp only at h
            obtain ⟨⟨v1, v2⟩, v3⟩ := hrs _ _ _ _ _ _ u hr
            by_cases hx : x.1 = 0
            · rw [if_pos hx] at h
              exact ih _ _ _ _ _ _ (H.next (s1.trans (asLe.us1.trans v1)) (v3 hx) (Nat.le_succ i) (by omega)) h
            · rw [if_neg hx] at h
              cases h
              exact hrc _ _ _ _ _ _ u hr
        · rw [if_neg h8] at h
          exact ih _ _ _ _ _ _ (H.next s1 t1 (j := if L 1 i = 6 then q.2 3 (nT (L 2 i)) + 1 else i + 1) (by split; (rename_i h6; have := (t3 h6).2; omega); omega) (by split; (rename_i h6; have := (t3 h6).2; omega); omega)) h
      · rw [if_neg hq] at h
        cases h
        omega
theorem gT_B (HS : asS n L p ln) : ∀ (k i e use : Nat) (st : List Nat) (C : PN) (r : Nat × PN), asC n L p i e use st C → gT L ln k i e use st C = some r → r.2 0 1 ≤ 301 ∧ r.2 0 2 ≤ 301 := by
  intro k
  induction k with
  | zero => intro i e use st C r _ h; cases h
  | succ k ih =>
    intro i e use st C r H h
    exact gL_B HS (gT_S HS k) ih 101 i e use st C r H h
theorem l1_7 (h : l1 n L i use st C = some r) : r.2 7 = C 7 := by
  unfold l1 at h
  repeat' split at h
  all_goals (cases h; rfl)
theorem gL_7 {rc : Nat → Nat → Nat → List Nat → PN → Option (Nat × PN)} (hrc : ∀ i e use st C r, rc i e use st C = some r → r.2 7 = C 7) : ∀ (F i e use : Nat) (st : List Nat) (C : PN) (r : Nat × PN), gL L (l1 n L) rc F i e use st C = some r → r.2 7 = C 7 := by
  intro F
  induction F with
  | zero => intro i e use st C r h; cases h
  | succ F ih =>
    intro i e use st C r h
    unfold gL at h
    by_cases hi : e ≤ i
    · rw [if_pos hi] at h
      cases h
      rfl
    rw [if_neg hi] at h
    cases hl : l1 n L i use st C with
    | none => rw [hl] at h; cases h
    | some q =>
      rw [hl] at h
      dsimp only at h
      have h7 := l1_7 hl
      by_cases hq : q.1 = 0
      · rw [if_pos hq] at h
        by_cases h8 : L 1 i = 8
        · rw [if_pos h8] at h
          cases hr : rc (q.2 2 (nT (L 2 i))) (q.2 3 (nT (L 2 i))) (q.2 0 2 + 1) (nT (L 2 i) :: st) (un q.2 0 2 (q.2 0 2 + 1)) with
          | none => rw [hr] at h; cases h
          | some x =>
            rw [hr] at h
            dsimp only at h
            have x7' := hrc _ _ _ _ _ _ hr
            have x7 : x.2 7 = q.2 7 := x7'
            by_cases hx : x.1 = 0
            · rw [if_pos hx] at h
              rw [ih _ _ _ _ _ _ h, x7, h7]
            · rw [if_neg hx] at h
              cases h
              rw [x7, h7]
        · rw [if_neg h8] at h
          rw [ih _ _ _ _ _ _ h, h7]
      · rw [if_neg hq] at h
        cases h
        exact h7
theorem gT_7 : ∀ (k i e use : Nat) (st : List Nat) (C : PN) (r : Nat × PN), gT L (l1 n L) k i e use st C = some r → r.2 7 = C 7 := by
  intro k
  induction k with
  | zero => intro i e use st C r h; cases h
  | succ k ih =>
    intro i e use st C r h
    exact gL_7 ih 101 i e use st C r h
/-! the beginnings -/
def as0 : PN := fun _ _ => 0
def as2 (FF : PN) : PN := fun b k => if b = 4 ∨ b = 11 then FF b k else if b = 9 then FF 2 k else if b = 10 then FF 3 k else if b = 8 then 8 + FF 1 0 else 0
theorem as0_C : asC n L 0 0 n 0 [] as0 := by
  refine ⟨⟨Nat.zero_le _, Nat.le_refl _, fun _ _ _ _ h => h⟩, ⟨⟨Nat.zero_le _, Nat.zero_le _, Nat.zero_le _, Nat.zero_le _, Nat.zero_le _⟩, fun q _ => ⟨fun h => absurd rfl h, fun _ _ => rfl⟩, fun s => ⟨⟨Nat.zero_le _, Nat.zero_le _⟩, ⟨Nat.zero_le _, Nat.zero_le _⟩, Nat.zero_le _⟩⟩, ⟨Nat.zero_le _, fun h => absurd h (by decide)⟩, List.nodup_nil, fun a h => absurd h List.not_mem_nil⟩
theorem as2_C (W : asW n L 0 FF) : asC n L 1 0 n 0 [] (as2 FF) := by
  refine ⟨⟨Nat.zero_le _, Nat.le_refl _, fun _ _ _ _ h => h⟩, ⟨⟨Nat.zero_le _, Nat.zero_le _, Nat.zero_le _, Nat.zero_le _, ?_⟩, fun q _ => ⟨fun h => absurd rfl h, fun h => absurd h (by decide)⟩, fun s => ⟨(W.2.2 s).1, ⟨Nat.zero_le _, Nat.zero_le _⟩, Nat.zero_le _⟩⟩, ⟨Nat.zero_le _, fun _ h => absurd h (by decide)⟩, List.nodup_nil, fun a h => absurd h List.not_mem_nil⟩
  have := W.1.2.2.2.1
  show 8 + FF 1 0 ≤ 256
  omega
theorem as2_M : asMir FF as0 (as2 FF) := by
  refine ⟨fun b hb => ?_, fun q => ⟨rfl, rfl⟩, rfl⟩
  have : b = 0 ∨ b = 1 ∨ b = 2 ∨ b = 3 := by omega
  rcases this with h | h | h | h <;> (subst h; rfl)
/-- both times, on plain numbers: an error, or two ends -/
theorem as_ends (hv : ∀ j, j < n → LV L j) (hn : n ≤ 100) : ∃ r, gT L (l1 n L) 6 0 n 0 [] as0 = some r ∧ r.1 ≤ 1000 ∧ (r.2 0 1 ≤ 301 ∧ r.2 0 2 ≤ 301) ∧ (r.1 = 0 → asW n L 0 r.2 ∧ r.2 7 = as0 7 ∧ ∃ q, gT L (l2 n L) 6 0 n 0 [] (as2 r.2) = some q ∧ q.1 ≤ 1000 ∧ (q.2 0 1 ≤ 301 ∧ q.2 0 2 ≤ 301) ∧ (q.1 = 0 → asW n L 1 q.2)) := by
  obtain ⟨r, hr⟩ := tot_T hv hn 6 0 n 0 [] as0 as0_C (by decide)
  obtain ⟨⟨a1, a2⟩, a3⟩ := gT_S (l1_S hv hn) 6 _ _ _ _ _ _ as0_C hr
  refine ⟨r, hr, a2, gT_B (l1_S hv hn) 6 _ _ _ _ _ _ as0_C hr, fun h0 => ?_⟩
  have W := a3 h0
  obtain ⟨q, hq, -⟩ := mir_T (FF := r.2) hv hn W.1.2.2.2.1 6 0 n 0 [] as0 (as2 r.2) r.2 as0_C (by rw [hr, ← h0]) asLe.refl as2_M
  obtain ⟨⟨b1, b2⟩, b3⟩ := gT_S (l2_S hv hn) 6 _ _ _ _ _ _ (as2_C W) hq
  exact ⟨W, gT_7 6 _ _ _ _ _ _ hr, q, hq, b2, gT_B (l2_S hv hn) 6 _ _ _ _ _ _ (as2_C W) hq, b3⟩
end BO
