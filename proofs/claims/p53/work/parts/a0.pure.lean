/-! the assembler on plain numbers: what is kept, line by line and use by use -/
def asLe (C D : PN) : Prop := (C 0 1 ≤ D 0 1 ∧ C 0 2 ≤ D 0 2 ∧ ∀ q, C 1 q ≤ D 1 q) ∧ (∀ q, ¬ C 2 q = 0 → D 2 q = C 2 q ∧ D 3 q = C 3 q) ∧ (∀ u, u ≤ C 0 2 → D 5 u = C 5 u ∧ D 6 u = C 6 u)
def asC (n : Nat) (L : AI) (p i e use : Nat) (st : List Nat) (C : PN) : Prop :=
  (i ≤ e ∧ e ≤ n ∧ ∀ j, i ≤ j → j < e → L 1 j = 6 → nx n L j < n → nx n L j < e) ∧ asW n L p C ∧ (use ≤ C 0 2 ∧ (p = 1 → 0 < use → ¬ C 5 use = 0 ∧ ¬ C 6 use = 0)) ∧ (st.Nodup ∧ ∀ a, a ∈ st → a < 5)
/-- what a line's function has to do -/
def asS (n : Nat) (L : AI) (p : Nat) (ln : Nat → Nat → List Nat → PN → Option (Nat × PN)) : Prop := ∀ i e use st C r, asC n L p i e use st C → i < e → ln i use st C = some r →
  (asLe C r.2 ∧ r.2 0 1 = C 0 1 + 1 ∧ r.2 0 2 = C 0 2 ∧ r.1 ≤ 1000) ∧ (r.1 = 0 → asW n L p r.2 ∧ (L 1 i = 8 → nT (L 2 i) < 5 ∧ ¬ nT (L 2 i) ∈ st ∧ ¬ r.2 2 (nT (L 2 i)) = 0 ∧ asC n L p (r.2 2 (nT (L 2 i))) (r.2 3 (nT (L 2 i))) (r.2 0 2 + 1) (nT (L 2 i) :: st) (un r.2 0 2 (r.2 0 2 + 1))) ∧ (L 1 i = 6 → ¬ r.2 2 (nT (L 2 i)) = 0 ∧ i < r.2 3 (nT (L 2 i)) ∧ r.2 3 (nT (L 2 i)) < e))
section PU
variable {n p i e use : Nat} {st : List Nat} {L : AI} {C D E : PN} {r : Nat × PN} {ln : Nat → Nat → List Nat → PN → Option (Nat × PN)}
theorem asLe.refl : asLe C C := ⟨⟨Nat.le_refl _, Nat.le_refl _, fun _ => Nat.le_refl _⟩, fun _ _ => ⟨rfl, rfl⟩, fun _ _ => ⟨rfl, rfl⟩⟩
theorem asLe.trans (h : asLe C D) (h2 : asLe D E) : asLe C E := by
  obtain ⟨⟨a1, a2, a3⟩, a4, a5⟩ := h
  obtain ⟨⟨b1, b2, b3⟩, b4, b5⟩ := h2
  refine ⟨⟨by omega, by omega, fun q => Nat.le_trans (a3 q) (b3 q)⟩, fun q hq => ?_, fun u hu => ?_⟩
  · obtain ⟨x1, x2⟩ := a4 q hq
    obtain ⟨y1, y2⟩ := b4 q (by rw [x1]; exact hq)
    exact ⟨y1.trans x1, y2.trans x2⟩
  · obtain ⟨x1, x2⟩ := a5 u hu
    obtain ⟨y1, y2⟩ := b5 u (by omega)
    exact ⟨y1.trans x1, y2.trans x2⟩
theorem asLe.us1 : asLe C (un C 0 2 (C 0 2 + 1)) := ⟨⟨Nat.le_refl _, Nat.le_succ _, fun _ => Nat.le_refl _⟩, fun _ _ => ⟨rfl, rfl⟩, fun _ _ => ⟨rfl, rfl⟩⟩
theorem asLe.gone : asLe C (un C 0 1 (C 0 1 + 1)) := ⟨⟨Nat.le_succ _, Nat.le_refl _, fun _ => Nat.le_refl _⟩, fun _ _ => ⟨rfl, rfl⟩, fun _ _ => ⟨rfl, rfl⟩⟩
theorem asLe.sz {q v : Nat} (h : C 1 q ≤ v) : asLe C (un C 1 q v) := by
  refine ⟨⟨Nat.le_refl _, Nat.le_refl _, fun k => ?_⟩, fun _ _ => ⟨rfl, rfl⟩, fun _ _ => ⟨rfl, rfl⟩⟩
  by_cases hk : k = q
  · rw [hk, un_eq]; exact h
  · rw [un_ne (by omega)]; exact Nat.le_refl _
theorem asLe.pr {v : Nat} : asLe C (un C 0 0 v) := ⟨⟨Nat.le_refl _, Nat.le_refl _, fun _ => Nat.le_refl _⟩, fun _ _ => ⟨rfl, rfl⟩, fun _ _ => ⟨rfl, rfl⟩⟩
theorem asLe.im {q v : Nat} : asLe C (un C 7 q v) := ⟨⟨Nat.le_refl _, Nat.le_refl _, fun _ => Nat.le_refl _⟩, fun _ _ => ⟨rfl, rfl⟩, fun _ _ => ⟨rfl, rfl⟩⟩
theorem asLe.lb {q v w : Nat} : asLe C (un (un C 4 q v) 11 q w) := ⟨⟨Nat.le_refl _, Nat.le_refl _, fun _ => Nat.le_refl _⟩, fun _ _ => ⟨rfl, rfl⟩, fun _ _ => ⟨rfl, rfl⟩⟩
theorem asLe.m9 {q v w : Nat} : asLe C (un (un C 9 q v) 10 q w) := ⟨⟨Nat.le_refl _, Nat.le_refl _, fun _ => Nat.le_refl _⟩, fun _ _ => ⟨rfl, rfl⟩, fun _ _ => ⟨rfl, rfl⟩⟩
theorem asLe.m2 {q v w : Nat} (h : C 2 q = 0) : asLe C (un (un C 2 q v) 3 q w) := by
  refine ⟨⟨Nat.le_refl _, Nat.le_refl _, fun _ => Nat.le_refl _⟩, fun k hk => ?_, fun _ _ => ⟨rfl, rfl⟩⟩
  have hq : ¬ k = q := fun hh => hk (by rw [hh]; exact h)
  rw [un_b (by decide), un_ne (by omega), un_ne (by omega), un_b (by decide)]
  exact ⟨rfl, rfl⟩
theorem asLe.ar {v w : Nat} : asLe C (un (un C 5 (C 0 2 + 1) v) 6 (C 0 2 + 1) w) := by
  refine ⟨⟨Nat.le_refl _, Nat.le_refl _, fun _ => Nat.le_refl _⟩, fun _ _ => ⟨rfl, rfl⟩, fun u hu => ?_⟩
  rw [un_b (by decide), un_ne (by omega), un_ne (by omega), un_b (by decide)]
  exact ⟨rfl, rfl⟩
theorem asLe.put {w : Nat} : asLe C (putN w C) := by
  have h : asLe (un C 7 ((if C 0 0 = 0 then 8 else C 8 0) + C 1 (C 0 0)) w) (putN w C) := by
    unfold putN
    exact asLe.sz (Nat.le_succ _)
  exact asLe.im.trans h
theorem put0 {w k : Nat} : putN w C 0 k = C 0 k := rfl
theorem asC.next (H : asC n L p i e use st C) (hl : asLe C D) (W : asW n L p D) {j : Nat} (h1 : i ≤ j) (h2 : j ≤ e) : asC n L p j e use st D := by
  obtain ⟨⟨a1, a2, a3⟩, -, ⟨b1, b2⟩, c⟩ := H
  refine ⟨⟨h2, a2, fun k hk => a3 k (by omega)⟩, W, ⟨Nat.le_trans b1 hl.1.2.1, fun hp hu => ?_⟩, c⟩
  obtain ⟨x1, x2⟩ := hl.2.2 use b1
  rw [x1, x2]
  exact b2 hp hu
/-! what a line keeps -/
theorem asW.gone (W : asW n L p C) (h : C 0 1 + 1 ≤ 300) : asW n L p (un C 0 1 (C 0 1 + 1)) := by
  obtain ⟨⟨w0, w1, w2, w3, w4⟩, wm, ws⟩ := W
  exact ⟨⟨w0, Nat.le_succ_of_le w1, h, w3, w4⟩, wm, ws⟩
theorem asW.pr (W : asW n L p C) {v : Nat} (h : v ≤ 1) : asW n L p (un C 0 0 v) := by
  obtain ⟨⟨w0, w1, w2, w3, w4⟩, wm, ws⟩ := W
  exact ⟨⟨h, w1, w2, w3, w4⟩, wm, ws⟩
theorem asW.us1 (W : asW n L p C) (h : C 0 2 + 1 ≤ C 0 1) : asW n L p (un C 0 2 (C 0 2 + 1)) := by
  obtain ⟨⟨w0, w1, w2, w3, w4⟩, wm, ws⟩ := W
  exact ⟨⟨w0, h, w2, w3, w4⟩, wm, ws⟩
theorem asW.sz (W : asW n L p C) {w : Nat} (h : C 1 0 + C 1 1 + w ≤ 248) : asW n L p (un C 1 (C 0 0) (C 1 (C 0 0) + w)) := by
  have hs := sz2 (C := C) w W.1.1
  obtain ⟨⟨w0, w1, w2, w3, w4⟩, wm, ws⟩ := W
  exact ⟨⟨w0, w1, w2, by rw [hs]; exact h, w4⟩, wm, ws⟩
theorem asW.lb (W : asW n L p C) {q v w : Nat} (h : v ≤ 249) (h2 : w ≤ 1) : asW n L p (un (un C 4 q v) 11 q w) := by
  obtain ⟨⟨w0, w1, w2, w3, w4⟩, wm, ws⟩ := W
  refine ⟨⟨w0, w1, w2, w3, w4⟩, wm, fun s => ⟨⟨?_, ?_⟩, (ws s).2⟩⟩
  · rw [un_b (by decide)]
    by_cases hk : s = q
    · rw [hk, un_eq]; exact h
    · rw [un_ne (by omega)]; exact (ws s).1.1
  · by_cases hk : s = q
    · rw [hk, un_eq]; exact h2
    · rw [un_ne (by omega), un_b (by decide)]; exact (ws s).1.2
theorem asW.ar (W : asW n L p C) {q v w : Nat} (h : v ≤ 65536) (h2 : w ≤ 65536) : asW n L p (un (un C 5 q v) 6 q w) := by
  obtain ⟨⟨w0, w1, w2, w3, w4⟩, wm, ws⟩ := W
  refine ⟨⟨w0, w1, w2, w3, w4⟩, wm, fun s => ⟨(ws s).1, ⟨?_, ?_⟩, (ws s).2.2⟩⟩
  · rw [un_b (by decide)]
    by_cases hk : s = q
    · rw [hk, un_eq]; exact h
    · rw [un_ne (by omega)]; exact (ws s).2.1.1
  · by_cases hk : s = q
    · rw [hk, un_eq]; exact h2
    · rw [un_ne (by omega), un_b (by decide)]; exact (ws s).2.1.2
theorem asW.im (W : asW n L p C) {q v : Nat} (h : v ≤ 65535) : asW n L p (un C 7 q v) := by
  obtain ⟨⟨w0, w1, w2, w3, w4⟩, wm, ws⟩ := W
  refine ⟨⟨w0, w1, w2, w3, w4⟩, wm, fun s => ⟨(ws s).1, (ws s).2.1, ?_⟩⟩
  by_cases hk : s = q
  · rw [hk, un_eq]; exact h
  · rw [un_ne (by omega)]; exact (ws s).2.2
theorem asW.put (W : asW n L p C) {w : Nat} (h : w ≤ 65535) (h2 : C 1 0 + C 1 1 + 1 ≤ 248) : asW n L p (putN w C) := by
  unfold putN
  exact (W.im h).sz (w := 1) h2
theorem put1 (w : Nat) (hp : C 0 0 ≤ 1) : putN w C 1 0 + putN w C 1 1 = C 1 0 + C 1 1 + 1 := sz2 (C := un C 7 ((if C 0 0 = 0 then 8 else C 8 0) + C 1 (C 0 0)) w) 1 hp
theorem asW.m2 (W : asW n L p C) {q v w : Nat} (hv : ¬ v = 0) (h1 : v ≤ w) (h2 : w < n) (h3 : ∀ j, v ≤ j → j < w → ¬ L 1 j = 6 ∧ ¬ L 1 j = 7) (h9 : C 9 q = v) (h10 : C 10 q = w) : asW n L p (un (un C 2 q v) 3 q w) := by
  obtain ⟨⟨w0, w1, w2, w3, w4⟩, wm, ws⟩ := W
  refine ⟨⟨w0, w1, w2, w3, w4⟩, fun k hk => ?_, ws⟩
  show (¬ un (un C 2 q v) 3 q w 2 k = 0 → un (un C 2 q v) 3 q w 2 k ≤ un (un C 2 q v) 3 q w 3 k ∧ un (un C 2 q v) 3 q w 3 k < n ∧ C 9 k = un (un C 2 q v) 3 q w 2 k ∧ C 10 k = un (un C 2 q v) 3 q w 3 k ∧ ∀ j, un (un C 2 q v) 3 q w 2 k ≤ j → j < un (un C 2 q v) 3 q w 3 k → ¬ L 1 j = 6 ∧ ¬ L 1 j = 7) ∧ (p = 0 → un (un C 2 q v) 3 q w 2 k = 0 → C 9 k = 0)
  rw [un_b (show ¬ 2 = 3 by decide)]
  by_cases e : k = q
  · rw [e, un_eq, un_eq]
    exact ⟨fun _ => ⟨h1, h2, h9, h10, h3⟩, fun _ hh => absurd hh hv⟩
  · rw [un_ne (show ¬ (2 = 2 ∧ k = q) by omega), un_ne (show ¬ (3 = 3 ∧ k = q) by omega), un_b (show ¬ 3 = 2 by decide)]
    exact wm k hk
theorem asW.m4 (W : asW n L p C) {q v w : Nat} (hv : ¬ v = 0) (h1 : v ≤ w) (h2 : w < n) (h3 : ∀ j, v ≤ j → j < w → ¬ L 1 j = 6 ∧ ¬ L 1 j = 7) : asW n L p (un (un (un (un C 2 q v) 3 q w) 9 q v) 10 q w) := by
  obtain ⟨⟨w0, w1, w2, w3, w4⟩, wm, ws⟩ := W
  refine ⟨⟨w0, w1, w2, w3, w4⟩, fun k hk => ?_, ws⟩
  show (¬ un (un C 2 q v) 3 q w 2 k = 0 → un (un C 2 q v) 3 q w 2 k ≤ un (un C 2 q v) 3 q w 3 k ∧ un (un C 2 q v) 3 q w 3 k < n ∧ un (un C 9 q v) 10 q w 9 k = un (un C 2 q v) 3 q w 2 k ∧ un (un C 9 q v) 10 q w 10 k = un (un C 2 q v) 3 q w 3 k ∧ ∀ j, un (un C 2 q v) 3 q w 2 k ≤ j → j < un (un C 2 q v) 3 q w 3 k → ¬ L 1 j = 6 ∧ ¬ L 1 j = 7) ∧ (p = 0 → un (un C 2 q v) 3 q w 2 k = 0 → un (un C 9 q v) 10 q w 9 k = 0)
  rw [un_b (show ¬ 2 = 3 by decide), un_b (show ¬ 9 = 10 by decide)]
  by_cases e : k = q
  · rw [e, un_eq, un_eq, un_eq, un_eq]
    exact ⟨fun _ => ⟨h1, h2, rfl, rfl, h3⟩, fun _ hh => absurd hh hv⟩
  · rw [un_ne (show ¬ (2 = 2 ∧ k = q) by omega), un_ne (show ¬ (3 = 3 ∧ k = q) by omega), un_b (show ¬ 3 = 2 by decide), un_ne (show ¬ (9 = 9 ∧ k = q) by omega), un_ne (show ¬ (10 = 10 ∧ k = q) by omega), un_b (show ¬ 10 = 9 by decide)]
    exact wm k hk
end PU
