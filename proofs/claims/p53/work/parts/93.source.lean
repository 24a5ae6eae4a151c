/-! the source's lines against plain rows L: 0 their count, 1 what a line does, 2 its name or word, 3 to 6 its operands -/
def CL (S i : Nat) (L I : AI) : Prop := (I (S + (12 + i)) 0 = L 1 i ∧ I (S + (12 + i)) 1 = L 2 i) ∧ (I (S + (12 + i)) 2 = L 3 i ∧ I (S + (12 + i)) 3 = L 4 i) ∧ (I (S + (12 + i)) 4 = L 5 i ∧ I (S + (12 + i)) 5 = L 6 i)
def CSr (n S : Nat) (L I : AI) : Prop := I S 0 = Int32.ofNat n ∧ ∀ i, i < n → CL S i L I
def MLn (m i : Nat) (L J : AI) : Prop := J (m + 1) i = L 1 i ∧ ((L 1 i = 0 ∨ L 1 i = 1 ∨ L 1 i = 4 ∨ L 1 i = 6) → J (m + 2) (5 * i) = L 2 i) ∧ ((L 1 i = 2 ∨ L 1 i = 3 ∨ L 1 i = 5 ∨ L 1 i = 8) → J (m + 2) (5 * i) = L 3 i ∧ J (m + 2) (5 * i + 1) = L 4 i) ∧ ((L 1 i = 2 ∨ L 1 i = 5) → J (m + 2) (5 * i + 2) = L 2 i) ∧ (L 1 i = 8 → J (m + 2) (5 * i + 2) = L 5 i ∧ J (m + 2) (5 * i + 3) = L 6 i ∧ J (m + 2) (5 * i + 4) = L 2 i)
def MSr (n m : Nat) (L J : AI) : Prop := J m 1 = Int32.ofNat n ∧ ∀ i, i < n → MLn m i L J
def opOK (k n : Int32) : Prop := ¬ (k < 0 ∨ 3 < k) ∧ ¬ (n < 0 ∨ (if k = 1 then 19 else 65535) < n)
def LV (L : AI) (i : Nat) : Prop := (L 1 i = 0 ∧ ¬ bad (L 2 i) 0 1) ∨ (L 1 i = 1 ∧ ¬ bad (L 2 i) 0 19) ∨ (L 1 i = 2 ∧ ¬ bad (L 2 i) 0 65535 ∧ opOK (L 3 i) (L 4 i)) ∨ (L 1 i = 3 ∧ opOK (L 3 i) (L 4 i)) ∨ (L 1 i = 4 ∧ ¬ bad (L 2 i) 1 32) ∨ (L 1 i = 5 ∧ ¬ bad (L 2 i) 0 1 ∧ opOK (L 3 i) (L 4 i)) ∨ (L 1 i = 6 ∧ ¬ bad (L 2 i) 0 4) ∨ L 1 i = 7 ∨ (L 1 i = 8 ∧ ¬ bad (L 2 i) 0 4 ∧ opOK (L 3 i) (L 4 i) ∧ opOK (L 5 i) (L 6 i))
def LI (n : Nat) (L : AI) : Prop := n ≤ 100 ∧ ∀ i, i < n → LV L i
def lAdd (L : AI) (n : Nat) (c a b d e f : Int32) : AI := fun q k => if k = n then (if q = 1 then c else if q = 2 then a else if q = 3 then b else if q = 4 then d else if q = 5 then e else f) else L q k
def frCL (g : Nat) (I J : AI) : Prop := ∀ b, ¬ (b = g + 1 ∨ (g + 13 ≤ b ∧ b < g + 113)) → J b = I b
def frML (m : Nat) (I J : AI) : Prop := ∀ b j, ¬ (b = m ∧ j = 1) → ¬ (b = m + 1 ∨ b = m + 2) → J b j = I b j
section SC
variable {kad : Nat → Nat} {N : Nat} {Z : AZ} {g m n : Nat} {I J L : AI} {a b c d e f : Int32}
theorem lAdd_n {q : Nat} : lAdd L n c a b d e f q n = (if q = 1 then c else if q = 2 then a else if q = 3 then b else if q = 4 then d else if q = 5 then e else f) := by unfold lAdd; rw [if_pos rfl]
theorem lAdd_o {q k : Nat} (h : ¬ k = n) : lAdd L n c a b d e f q k = L q k := by unfold lAdd; rw [if_neg h]
theorem LI.add (h : LI n L) (hn : n < 100) (hv : LV (lAdd L n c a b d e f) n) : LI (n + 1) (lAdd L n c a b d e f) := by
  refine ⟨by omega, fun i hi => ?_⟩
  by_cases e : i = n
  · rw [e]; exact hv
  · have := h.2 i (by omega)
    unfold LV at this ⊢
    rw [lAdd_o e, lAdd_o e, lAdd_o e, lAdd_o e, lAdd_o e, lAdd_o e]
    exact this
theorem pR_ok {l j : Nat} (h : sh7 kad Z l) (hj : j < 9) : pR Z I 7 0 l (kad j) = some (up2 I l 0 (Int32.ofNat j)) := by
  unfold pR
  rw [h.1]
  dsimp only
  have e : dzo (Int32.ofNat j) = j := by
    unfold dzo
    rw [show (Int32.ofNat j).toNatClampNeg = j from nT_of (by omega), if_pos hj]
  rw [h.2.2 j hj, if_pos ⟨rfl, by rw [h.2.1, e]⟩]
/-- a line is added, in the class -/
theorem K142 (hg : sh10 kad Z g) (hn : n ≤ 100) (H : CSr n (g + 1) L I) {j : Nat} (hj : j < 9) : (n = 100 → f142 kad N Z g (kad j) a b c I = some (.inr (aEC 1), I)) ∧ (n < 100 → ∃ J, f142 kad N Z g (kad j) a b c I = some (.inl (Int32.ofNat (n + 1)), J) ∧ CSr (n + 1) (g + 1) (lAdd L n (Int32.ofNat j) a b c 0 0) J ∧ frCL g I J) := by
  unfold f142
  constructor
  · intro h
    rw [H.1, h, if_neg (by decide)]
  · intro h
    rw [H.1, if_pos (show Int32.ofNat n < 100 from (of_lt (n := 100) (by omega) (by decide)).mpr h)]
    unfold f2 f2_b67
    rw [H.1, if_neg (show ¬ (100 : Int32) ≤ Int32.ofNat n from fun hh => absurd ((of_le (m := 100) (by decide) (by omega)).mp hh) (by omega)), ixA_of h, Option.bind_some]
    obtain ⟨l, hl⟩ : ∃ l, l = g + 1 + (12 + n) := ⟨_, rfl⟩
    rw [← hl, pR_ok (by rw [hl]; exact sh0_f2 (sh10_s0 hg) n h) hj, Option.bind_some]
    simp only [wI_ok, Option.bind_some]
    have e0 : up2 (up2 (up2 (up2 (up2 (up2 I l 0 (Int32.ofNat j)) l 1 a) l 2 b) l 3 c) l 4 0) l 5 0 (g + 1) 0 = Int32.ofNat n := by
      rw [up2_b (by omega), up2_b (by omega), up2_b (by omega), up2_b (by omega), up2_b (by omega), up2_b (by omega), H.1]
    rw [e0, of_s, up2_eq]
    refine ⟨_, rfl, ⟨up2_eq, fun i hi => ?_⟩, fun b' hb => ?_⟩
    · unfold CL
      by_cases e : i = n
      · rw [e, ← hl, lAdd_n, lAdd_n, lAdd_n, lAdd_n, lAdd_n, lAdd_n]
        refine ⟨⟨?_, ?_⟩, ⟨?_, ?_⟩, ?_, ?_⟩
        · rw [up2_b (by omega), up2_ne (by omega), up2_ne (by omega), up2_ne (by omega), up2_ne (by omega), up2_ne (by omega), up2_eq]; rfl
        · rw [up2_b (by omega), up2_ne (by omega), up2_ne (by omega), up2_ne (by omega), up2_ne (by omega), up2_eq]; rfl
        · rw [up2_b (by omega), up2_ne (by omega), up2_ne (by omega), up2_ne (by omega), up2_eq]; rfl
        · rw [up2_b (by omega), up2_ne (by omega), up2_ne (by omega), up2_eq]; rfl
        · rw [up2_b (by omega), up2_ne (by omega), up2_eq]; rfl
        · rw [up2_b (by omega), up2_eq]; rfl
      · have hb : ¬ g + 1 + (12 + i) = l := by omega
        rw [lAdd_o e, lAdd_o e, lAdd_o e, lAdd_o e, lAdd_o e, lAdd_o e, up2_b (by omega), up2_b hb, up2_b hb, up2_b hb, up2_b hb, up2_b hb, up2_b hb]
        exact H.2 i (by omega)
    · rw [up2_b (by omega), up2_b (by omega), up2_b (by omega), up2_b (by omega), up2_b (by omega), up2_b (by omega), up2_b (by omega)]
/-- the new line's row, by what it does -/
theorem MSr.add {p q r s' t : Int32} (H : MSr n m L I) (hn : n < 100) (j1 : J m 1 = Int32.ofNat (n + 1)) (j2 : J (m + 1) n = c) (j3 : J (m + 2) (5 * n) = p ∧ J (m + 2) (5 * n + 1) = q ∧ J (m + 2) (5 * n + 2) = r ∧ J (m + 2) (5 * n + 3) = s' ∧ J (m + 2) (5 * n + 4) = t) (jo : ∀ b j, ¬ (b = m ∧ j = 1) → ¬ (b = m + 1 ∧ j = n) → ¬ (b = m + 2 ∧ 5 * n ≤ j ∧ j < 5 * n + 5) → J b j = up2 I m 0 0 b j)
    (k1 : (c = 0 ∨ c = 1 ∨ c = 4 ∨ c = 6) → p = a) (k2 : (c = 2 ∨ c = 3 ∨ c = 5 ∨ c = 8) → p = b ∧ q = d) (k3 : (c = 2 ∨ c = 5) → r = a) (k4 : c = 8 → r = e ∧ s' = f ∧ t = a) : MSr (n + 1) m (lAdd L n c a b d e f) J ∧ frML m (up2 I m 0 0) J := by
  obtain ⟨p0, p1, p2, p3, p4⟩ := j3
  refine ⟨⟨j1, fun i hi => ?_⟩, fun b' j h1 h2 => jo b' j h1 (by omega) (by omega)⟩
  unfold MLn
  by_cases ei : i = n
  · rw [ei, lAdd_n, lAdd_n, lAdd_n, lAdd_n, lAdd_n, lAdd_n, j2, p0, p1, p2, p3, p4]
    exact ⟨rfl, k1, k2, k3, k4⟩
  · rw [lAdd_o ei, lAdd_o ei, lAdd_o ei, lAdd_o ei, lAdd_o ei, lAdd_o ei]
    have hr : ∀ k, k < 5 → J (m + 2) (5 * i + k) = I (m + 2) (5 * i + k) := fun k hk => by rw [jo _ _ (by omega) (by omega) (by omega), up2_b (by omega)]
    rw [jo (m + 1) i (by omega) (by omega) (by omega), up2_b (by omega), hr 1 (by decide), hr 2 (by decide), hr 3 (by decide), hr 4 (by decide), show J (m + 2) (5 * i) = I (m + 2) (5 * i) from hr 0 (by decide)]
    exact H.2 i (by omega)
end SC
