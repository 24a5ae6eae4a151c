/-! the first time ends; the second goes the same way -/
def asEq (C D : PN) : Prop := ∀ b, b < 4 → D b = C b
def asMir (FF C D : PN) : Prop := asEq C D ∧ (∀ q, D 9 q = FF 2 q ∧ D 10 q = FF 3 q) ∧ D 8 0 = 8 + FF 1 0
section MI9
variable {n p i e use : Nat} {st : List Nat} {L : AI} {C D E FF : PN} {r : Nat × PN}
theorem l1_some : ∃ r, l1 n L i use st C = some r := by
  unfold l1
  repeat' split
  all_goals exact ⟨_, rfl⟩
theorem tot_L (hv : ∀ j, j < n → LV L j) (hn : n ≤ 100) {rc : Nat → Nat → Nat → List Nat → PN → Option (Nat × PN)} {k : Nat} (hrc : ∀ i e use st C, asC n L 0 i e use st C → 6 ≤ k + st.length → ∃ r, rc i e use st C = some r) (hrs : ∀ i e use st C r, asC n L 0 i e use st C → rc i e use st C = some r → (asLe C r.2 ∧ r.1 ≤ 1000) ∧ (r.1 = 0 → asW n L 0 r.2)) : ∀ (F i e use : Nat) (st : List Nat) (C : PN), 101 ≤ F + i → asC n L 0 i e use st C → 6 ≤ k + 1 + st.length → ∃ r, gL L (l1 n L) rc F i e use st C = some r := by
  intro F
  induction F with
  | zero => intro i e use st C hF H; have := H.1.1; have := H.1.2.1; omega
  | succ F ih =>
    intro i e use st C hF H hk
    unfold gL
    by_cases hi : e ≤ i
    · rw [if_pos hi]; exact ⟨_, rfl⟩
    rw [if_neg hi]
    obtain ⟨q, hl⟩ := l1_some (n := n) (L := L) (i := i) (use := use) (st := st) (C := C)
    rw [hl]
    dsimp only
    obtain ⟨⟨s1, s2, s3, s4⟩, s5⟩ := l1_S hv hn i e use st C q H (by omega) hl
    by_cases hq : q.1 = 0
    · rw [if_pos hq]
      obtain ⟨t1, t2, t3⟩ := s5 hq
      by_cases h8 : L 1 i = 8
      · rw [if_pos h8]
        obtain ⟨ha5, hns, hn2, u⟩ := t2 h8
        obtain ⟨x, hr⟩ := hrc _ _ _ _ _ u (by rw [List.length_cons]; omega)
        rw [hr]
        dsimp only
        obtain ⟨⟨v1, v2⟩, v3⟩ := hrs _ _ _ _ _ _ u hr
        by_cases hx : x.1 = 0
        · rw [if_pos hx]
          exact ih _ _ _ _ _ (by omega) (H.next (s1.trans (asLe.us1.trans v1)) (v3 hx) (Nat.le_succ i) (by omega)) hk
        · rw [if_neg hx]; exact ⟨_, rfl⟩
      · rw [if_neg h8]
        exact ih _ _ _ _ _ (by split; (rename_i h6; have := (t3 h6).2; omega); omega) (H.next s1 t1 (j := if L 1 i = 6 then q.2 3 (nT (L 2 i)) + 1 else i + 1) (by split; (rename_i h6; have := (t3 h6).2; omega); omega) (by split; (rename_i h6; have := (t3 h6).2; omega); omega)) hk
    · rw [if_neg hq]; exact ⟨_, rfl⟩
theorem tot_T (hv : ∀ j, j < n → LV L j) (hn : n ≤ 100) : ∀ (k i e use : Nat) (st : List Nat) (C : PN), asC n L 0 i e use st C → 6 ≤ k + st.length → ∃ r, gT L (l1 n L) k i e use st C = some r := by
  intro k
  induction k with
  | zero => intro i e use st C H h; have := len5 H; omega
  | succ k ih =>
    intro i e use st C H h
    exact tot_L hv hn ih (gT_S (l1_S hv hn) k) 101 i e use st C (by omega) H h
theorem asEq.up (h : asEq C D) {b k v : Nat} : asEq (un C b k v) (un D b k v) := by
  intro c hc
  funext j
  show (if c = b ∧ j = k then v else D c j) = (if c = b ∧ j = k then v else C c j)
  rw [h c hc]
theorem asEq.hi (h : asEq C D) {b k v : Nat} (hb : 4 ≤ b) : asEq C (un D b k v) := fun c hc => (un_b (by omega)).trans (h c hc)
theorem asEq.hl (h : asEq C D) {b k v : Nat} (hb : 4 ≤ b) : asEq (un C b k v) D := fun c hc => (h c hc).trans (un_b (by omega)).symm
theorem un_un {b k v w : Nat} : un (un C b k v) b k w = un C b k w := by
  funext c j
  by_cases h : c = b ∧ j = k
  · rw [h.1, h.2, un_eq, un_eq]
  · rw [un_ne h, un_ne h, un_ne h]
theorem asEq.put (h : asEq C D) {w : Nat} : asEq (un C 1 (C 0 0) (C 1 (C 0 0) + 1)) (putN w D) := by
  have e0 := h 0 (by decide)
  have e1 := h 1 (by decide)
  unfold putN
  rw [e0, e1]
  exact (h.hi (by decide)).up
theorem mir_l (hv : LV L i) (hi : i < n) (hl : l1 n L i use st C = some (0, E)) (hle : asLe E FF) (hF : FF 1 0 + FF 1 1 ≤ 248) (hM : asMir FF C D) (hp : C 0 0 ≤ 1) : ∃ r, l2 n L i use st D = some r ∧ (r.1 = 0 → asMir FF E r.2) := by
  obtain ⟨hq, h9, h8⟩ := hM
  have e0 := hq 0 (by decide)
  have e1 := hq 1 (by decide)
  have e2 := hq 2 (by decide)
  unfold l1 at hl
  unfold l2
  rw [e0, e1, e2, (h9 _).1, (h9 _).2, h8]
  by_cases hg : 300 < C 0 1 + 1
  · rw [if_pos hg] at hl
    have := congrArg (fun x => x.map (fun y => y.1)) hl
    simp at this
  rw [if_neg hg] at hl ⊢
  have hG : asEq (un C 0 1 (C 0 1 + 1)) (un D 0 1 (C 0 1 + 1)) := hq.up
  have mir : ∀ X : PN, asEq E X → X 9 = D 9 → X 10 = D 10 → X 8 = D 8 → asMir FF E X := fun X x1 x2 x3 x4 => ⟨x1, fun q => by rw [x2, x3]; exact h9 q, by rw [x4]; exact h8⟩
  by_cases k0 : L 1 i = 0
  · rw [if_pos k0] at hl ⊢
    cases hl
    exact ⟨_, rfl, fun _ => mir _ hG.up rfl rfl rfl⟩
  rw [if_neg k0] at hl ⊢
  by_cases k1 : L 1 i = 1
  · rw [if_pos k1] at hl ⊢
    by_cases h : C 4 (slN (nT (L 2 i)) use) = 0
    · rw [if_pos h] at hl
      cases hl
      exact ⟨_, rfl, fun _ => mir _ ((hG.hl (by decide)).hl (by decide)) rfl rfl rfl⟩
    · rw [if_neg h] at hl
      have := congrArg (fun x => x.map (fun y => y.1)) hl
      simp at this
  rw [if_neg k1] at hl ⊢
  have noerr : ∀ {x : Nat} {Y : PN}, ¬ x = 0 → ¬ some (x, Y) = some (0, E) := fun hx hh => hx (congrArg Prod.fst (Option.some.inj hh))
  by_cases kw : L 1 i = 2 ∨ L 1 i = 3 ∨ L 1 i = 4
  · rw [if_pos kw] at hl
    by_cases hw : ¬ C 1 0 + C 1 1 + wl L i ≤ 248
    · rw [if_neg hw] at hl
      exact absurd hl (noerr (by omega))
    have hw := Classical.not_not.mp hw
    rw [if_pos hw] at hl
    cases hl
    have hb2 : C 0 0 = 1 → 8 + FF 1 0 + C 1 1 + wl L i ≤ 256 := fun h1 => by
      have := hle.1.2.2 1
      rw [h1, un_eq] at this
      omega
    rw [if_neg (show ¬ ((L 1 i = 2 ∨ L 1 i = 3 ∨ L 1 i = 4) ∧ ¬ (C 1 0 + C 1 1 + wl L i ≤ 248 ∧ (C 0 0 = 1 → 8 + FF 1 0 + C 1 1 + wl L i ≤ 256))) from fun hh => hh.2 ⟨hw, hb2⟩)]
    by_cases k4 : L 1 i = 4
    · rw [if_pos k4]
      have hwl : wl L i = nT (L 2 i) := by unfold wl; rw [if_neg (by rw [k4]; decide), if_neg (by rw [k4]; decide)]
      rw [hwl] at mir ⊢
      exact ⟨_, rfl, fun _ => mir _ hG.up rfl rfl rfl⟩
    rw [if_neg k4, if_neg (by rcases kw with h | h | h <;> (rw [h]; decide)), if_neg (by rcases kw with h | h | h <;> (rw [h]; decide)), if_neg (fun hh => by rcases kw with h | h | h <;> (rw [h] at hh; exact absurd hh.1 (by decide)))]
    cases ho : opV (L 3 i) (L 4 i) use D with
    | none => exact ⟨_, rfl, fun hh => absurd hh (by have := oe_le (k := L 3 i); first | omega | (dsimp only; omega))⟩
    | some v =>
      dsimp only
      rw [if_neg (by rcases kw with h | h | h <;> (rw [h]; decide))]
      by_cases k2 : L 1 i = 2
      · rw [if_pos k2]
        have hwl : wl L i = 2 := by unfold wl; rw [if_pos k2]
        refine ⟨_, rfl, fun _ => mir _ ?_ rfl rfl rfl⟩
        have x1 := (hG.put (w := nT (L 2 i))).put (w := v)
        have x2 : un (un (un C 0 1 (C 0 1 + 1)) 1 (C 0 0) (C 1 (C 0 0) + 1)) 1 (C 0 0) (C 1 (C 0 0) + 1 + 1) = un (un C 0 1 (C 0 1 + 1)) 1 (C 0 0) (C 1 (C 0 0) + wl L i) := by rw [un_un, hwl]
        rw [← x2]
        have x3 : un (un C 0 1 (C 0 1 + 1)) 1 (C 0 0) (C 1 (C 0 0) + 1) 1 (C 0 0) = C 1 (C 0 0) + 1 := un_eq
        have x4 : asEq (un (un (un C 0 1 (C 0 1 + 1)) 1 (C 0 0) (C 1 (C 0 0) + 1)) 1 (C 0 0) (un (un C 0 1 (C 0 1 + 1)) 1 (C 0 0) (C 1 (C 0 0) + 1) 1 (C 0 0) + 1)) _ := x1
        rw [x3] at x4
        exact x4
      · rw [if_neg k2]
        have k3 : L 1 i = 3 := by rcases kw with h | h | h; exact absurd h k2; exact h; exact absurd h k4
        have hwl : wl L i = 1 := by unfold wl; rw [if_neg k2, if_pos k3]
        rw [if_pos k3]
        refine ⟨_, rfl, fun _ => mir _ ?_ rfl rfl rfl⟩
        rw [hwl]
        exact hG.put
  rw [if_neg kw] at hl
  rw [if_neg (show ¬ ((L 1 i = 2 ∨ L 1 i = 3 ∨ L 1 i = 4) ∧ ¬ (C 1 0 + C 1 1 + wl L i ≤ 248 ∧ (C 0 0 = 1 → 8 + FF 1 0 + C 1 1 + wl L i ≤ 256))) from fun hh => kw hh.1), if_neg (fun hh => kw (Or.inr (Or.inr hh)))]
  by_cases k5 : L 1 i = 5
  · rw [if_pos k5] at hl
    cases hl
    rw [if_neg (by rw [k5]; decide), if_neg (by rw [k5]; decide), if_neg (fun hh => by rw [k5] at hh; exact absurd hh.1 (by decide))]
    cases ho : opV (L 3 i) (L 4 i) use D with
    | none => exact ⟨_, rfl, fun hh => absurd hh (by have := oe_le (k := L 3 i); first | omega | (dsimp only; omega))⟩
    | some v =>
      dsimp only
      rw [if_pos k5]
      exact ⟨_, rfl, fun _ => mir _ (hG.hi (by decide)) rfl rfl rfl⟩
  rw [if_neg k5] at hl
  by_cases k6 : L 1 i = 6
  · rw [if_pos k6] at hl ⊢
    by_cases hm : ¬ C 2 (nT (L 2 i)) = 0
    · rw [if_neg hm] at hl
      exact absurd hl (noerr (by omega))
    have hm := Classical.not_not.mp hm
    rw [if_pos hm] at hl
    obtain ⟨x1, x2, x3, x4⟩ := nx_le (L := L) hi
    by_cases hx : nx n L i = n
    · rw [if_pos hx] at hl
      exact absurd hl (noerr (by omega))
    rw [if_neg hx] at hl
    by_cases hy : L 1 (nx n L i) = 6
    · rw [if_pos hy] at hl
      exact absurd hl (noerr (by omega))
    rw [if_neg hy] at hl
    cases hl
    have y1 : un (un (un (un (un C 0 1 (C 0 1 + 1)) 2 (nT (L 2 i)) (i + 1)) 3 (nT (L 2 i)) (nx n L i)) 9 (nT (L 2 i)) (i + 1)) 10 (nT (L 2 i)) (nx n L i) 2 (nT (L 2 i)) = i + 1 := by
      rw [un_b (by decide), un_b (by decide), un_b (by decide), un_eq]
    have y2 : un (un (un (un (un C 0 1 (C 0 1 + 1)) 2 (nT (L 2 i)) (i + 1)) 3 (nT (L 2 i)) (nx n L i)) 9 (nT (L 2 i)) (i + 1)) 10 (nT (L 2 i)) (nx n L i) 3 (nT (L 2 i)) = nx n L i := by
      rw [un_b (by decide), un_b (by decide), un_eq]
    obtain ⟨z1, z2⟩ := hle.2.1 (nT (L 2 i)) (by rw [y1]; exact Nat.succ_ne_zero i)
    rw [y1] at z1
    rw [y2] at z2
    rw [if_pos ⟨hm, z1, z2, by omega, hy⟩]
    exact ⟨_, rfl, fun _ => mir _ ((hG.up.up.hl (by decide)).hl (by decide)) rfl rfl rfl⟩
  rw [if_neg k6] at hl ⊢
  by_cases k7 : L 1 i = 7
  · rw [if_pos k7] at hl
    exact absurd hl (noerr (by omega))
  rw [if_neg k7] at hl ⊢
  by_cases h : C 2 (nT (L 2 i)) = 0 ∨ nT (L 2 i) ∈ st
  · rw [if_pos h] at hl
    exact absurd hl (noerr (by omega))
  rw [if_neg h] at hl
  cases hl
  rw [if_neg (fun hh => h hh.2)]
  cases ho : opV (L 3 i) (L 4 i) use D with
  | none => exact ⟨_, rfl, fun hh => absurd hh (by have := oe_le (k := L 3 i); first | omega | (dsimp only; omega))⟩
  | some v =>
    dsimp only
    rw [if_neg k5, if_neg (fun hh => kw (Or.inl hh)), if_neg (fun hh => kw (Or.inr (Or.inl hh)))]
    cases ho2 : opV (L 5 i) (L 6 i) use D with
    | none => exact ⟨_, rfl, fun hh => absurd hh (by have := oe_le (k := L 5 i); first | omega | (dsimp only; omega))⟩
    | some w => exact ⟨_, rfl, fun _ => mir _ ((hG.hi (by decide)).hi (by decide)) rfl rfl rfl⟩
theorem mir_L (hv : ∀ j, j < n → LV L j) (hn : n ≤ 100) (hF : FF 1 0 + FF 1 1 ≤ 248) {rc rd : Nat → Nat → Nat → List Nat → PN → Option (Nat × PN)} (hrs : ∀ i e use st C r, asC n L 0 i e use st C → rc i e use st C = some r → (asLe C r.2 ∧ r.1 ≤ 1000) ∧ (r.1 = 0 → asW n L 0 r.2))
    (hrd : ∀ i e use st C D E, asC n L 0 i e use st C → rc i e use st C = some (0, E) → asLe E FF → asMir FF C D → ∃ r, rd i e use st D = some r ∧ (r.1 = 0 → asMir FF E r.2)) :
    ∀ (F i e use : Nat) (st : List Nat) (C D E : PN), asC n L 0 i e use st C → gL L (l1 n L) rc F i e use st C = some (0, E) → asLe E FF → asMir FF C D → ∃ r, gL L (l2 n L) rd F i e use st D = some r ∧ (r.1 = 0 → asMir FF E r.2) := by
  intro F
  induction F with
  | zero => intro i e use st C D E _ h; cases h
  | succ F ih =>
    intro i e use st C D E H h hle hM
    have hie := H.1.1
    have hen := H.1.2.1
    unfold gL at h ⊢
    by_cases hi : e ≤ i
    · rw [if_pos hi] at h ⊢
      cases h
      exact ⟨_, rfl, fun _ => hM⟩
    rw [if_neg hi] at h ⊢
    obtain ⟨q, hl⟩ := l1_some (n := n) (L := L) (i := i) (use := use) (st := st) (C := C)
    rw [hl] at h
    dsimp only at h
    obtain ⟨⟨s1, s2, s3, s4⟩, s5⟩ := l1_S hv hn i e use st C q H (by omega) hl
    by_cases hq : ¬ q.1 = 0
    · rw [if_neg hq] at h
      cases h
      exact absurd rfl hq
    have hq := Classical.not_not.mp hq
    rw [if_pos hq] at h
    obtain ⟨t1, t2, t3⟩ := s5 hq
    have hl0 : l1 n L i use st C = some (0, q.2) := by rw [hl, ← hq]
    by_cases h8 : L 1 i = 8
    · rw [if_pos h8] at h
      obtain ⟨ha5, hns, hn2, u⟩ := t2 h8
      cases hr : rc (q.2 2 (nT (L 2 i))) (q.2 3 (nT (L 2 i))) (q.2 0 2 + 1) (nT (L 2 i) :: st) (un q.2 0 2 (q.2 0 2 + 1)) with
      | none => rw [hr] at h; cases h
      | some x =>
        rw [hr] at h
        dsimp only at h
        obtain ⟨⟨v1, v2⟩, v3⟩ := hrs _ _ _ _ _ _ u hr
        by_cases hx : ¬ x.1 = 0
        · rw [if_neg hx] at h
          cases h
          exact absurd rfl hx
        have hx := Classical.not_not.mp hx
        rw [if_pos hx] at h
        have H' := H.next (s1.trans (asLe.us1.trans v1)) (v3 hx) (Nat.le_succ i) (by omega)
        obtain ⟨⟨y1, -⟩, -⟩ := gL_S (l1_S hv hn) hrs F _ _ _ _ _ _ H' h
        have y1 : asLe x.2 E := y1
        have le2 : asLe q.2 FF := (asLe.us1.trans v1).trans (y1.trans hle)
        obtain ⟨q2, z1, z2⟩ := mir_l (hv i (by omega)) (by omega) hl0 le2 hF hM H.2.1.1.1
        rw [z1]
        dsimp only
        by_cases hq2 : q2.1 = 0
        · rw [if_pos hq2, if_pos h8]
          have m2 := z2 hq2
          obtain ⟨w1, w2, w3⟩ := m2
          rw [w1 0 (by decide), w1 2 (by decide), w1 3 (by decide)]
          have m3 : asMir FF (un q.2 0 2 (q.2 0 2 + 1)) (un q2.2 0 2 (q.2 0 2 + 1)) := ⟨w1.up, fun k => w2 k, w3⟩
          obtain ⟨x2, b1, b2⟩ := hrd _ _ _ _ _ _ x.2 u (by rw [hr, ← hx]) (y1.trans hle) m3
          rw [b1]
          dsimp only
          by_cases hx2 : x2.1 = 0
          · rw [if_pos hx2]
            exact ih _ _ _ _ _ _ _ H' h hle (b2 hx2)
          · rw [if_neg hx2]
            exact ⟨_, rfl, fun hh => absurd hh hx2⟩
        · rw [if_neg hq2]
          exact ⟨_, rfl, fun hh => absurd hh hq2⟩
    · rw [if_neg h8] at h
      have hj1 : i + 1 ≤ (if L 1 i = 6 then q.2 3 (nT (L 2 i)) + 1 else i + 1) := by split; (rename_i h6; have := (t3 h6).2; omega); omega
      have hj2 : (if L 1 i = 6 then q.2 3 (nT (L 2 i)) + 1 else i + 1) ≤ e := by split; (rename_i h6; have := (t3 h6).2; omega); omega
      have H' := H.next s1 t1 (j := if L 1 i = 6 then q.2 3 (nT (L 2 i)) + 1 else i + 1) (by omega) hj2
      obtain ⟨⟨y1, -⟩, -⟩ := gL_S (l1_S hv hn) hrs F _ _ _ _ _ _ H' h
      have y1 : asLe q.2 E := y1
      obtain ⟨q2, z1, z2⟩ := mir_l (hv i (by omega)) (by omega) hl0 (y1.trans hle) hF hM H.2.1.1.1
      rw [z1]
      dsimp only
      by_cases hq2 : q2.1 = 0
      · rw [if_pos hq2, if_neg h8]
        have m2 := z2 hq2
        rw [m2.1 3 (by decide)]
        exact ih _ _ _ _ _ _ _ H' h hle m2
      · rw [if_neg hq2]
        exact ⟨_, rfl, fun hh => absurd hh hq2⟩
theorem mir_T (hv : ∀ j, j < n → LV L j) (hn : n ≤ 100) (hF : FF 1 0 + FF 1 1 ≤ 248) : ∀ (k i e use : Nat) (st : List Nat) (C D E : PN), asC n L 0 i e use st C → gT L (l1 n L) k i e use st C = some (0, E) → asLe E FF → asMir FF C D → ∃ r, gT L (l2 n L) k i e use st D = some r ∧ (r.1 = 0 → asMir FF E r.2) := by
  intro k
  induction k with
  | zero => intro i e use st C D E _ h; cases h
  | succ k ih =>
    intro i e use st C D E H h
    exact mir_L hv hn hF (gT_S (l1_S hv hn) k) ih 101 i e use st C D E H h
end MI9
