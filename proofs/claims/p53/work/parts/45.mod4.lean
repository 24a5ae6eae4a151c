/-! the model's keys, time, tape -/
/-- the keys: so many, told for steps that don't fall -/
def okK (q : Nat) (X : AI) : Prop := X 10 0 = Int32.ofNat q ∧ q ≤ 20 ∧ (∀ i j, i < j → j < q → X 12 i ≤ X 12 j)
def restK (X : AI) (s : Int32) : Nat → Nat → Nat
  | 0, _ => 0
  | n + 1, i => (if X 12 i ≤ s then 1 else 0) + restK X s n (i + 1)
theorem restK_0 {X : AI} {s : Int32} {q : Nat} (h : okK q X) : ∀ (n i : Nat), i + n = q → (0 < n → s < X 12 i) → restK X s n i = 0 := by
  intro n
  induction n with
  | zero => intro i _ _; rfl
  | succ n ih =>
    intro i hi hs
    have h0 := hs (by omega)
    unfold restK
    rw [if_neg (show ¬ X 12 i ≤ s by grind), ih (i + 1) (by omega) (fun hn => by
      have := h.2.2 i (i + 1) (by omega) (by omega)
      grind)]
theorem sCome_rest {X : AI} {s : Int32} {q : Nat} (h : okK q X) : ∀ (n i : Nat), i + n = q → sCome X s (n + 1) i = i + restK X s n i := by
  intro n
  induction n with
  | zero =>
    intro i hi
    unfold sCome restK
    rw [if_pos (by rw [h.1]; exact (of_le (by have := h.2.1; omega) (by have := h.2.1; omega)).mpr (by omega))]
    rfl
  | succ n ih =>
    intro i hi
    have hq := h.2.1
    rw [sCome, if_neg (by rw [h.1]; exact fun hh => absurd ((of_le (by omega) (by omega)).mp hh) (by omega)), if_neg (by omega)]
    by_cases hs : s < X 12 i
    · rw [if_pos hs, restK_0 h (n + 1) i hi (fun _ => hs)]
      rfl
    · rw [if_neg hs, ih (i + 1) (by omega), restK, if_pos (show X 12 i ≤ s by grind)]
      omega
theorem sCome_more {X : AI} {s : Int32} {q : Nat} (h : okK q X) : ∀ (n i k : Nat), i + n = q → sCome X s (n + 1 + k) i = sCome X s (n + 1) i := by
  intro n
  induction n with
  | zero =>
    intro i k hi
    have hq := h.2.1
    rw [show 0 + 1 + k = k + 1 from by omega, sCome, sCome, if_pos (by rw [h.1]; exact (of_le (by omega) (by omega)).mpr (by omega)), if_pos (by rw [h.1]; exact (of_le (by omega) (by omega)).mpr (by omega))]
  | succ n ih =>
    intro i k hi
    have hq := h.2.1
    rw [show n + 1 + 1 + k = (n + 1 + k) + 1 from by omega, sCome]
    rw [show sCome X s (n + 1 + 1) i = (if X 10 0 ≤ Int32.ofNat i then i else if 20 ≤ i then i else if s < X 12 i then i else sCome X s (n + 1) (i + 1)) from rfl, ih (i + 1) k (by omega)]
theorem come_eq {X : AI} {s : Int32} {q : Nat} (h : okK q X) : sCome X s 21 0 = restK X s q 0 := by
  have hq := h.2.1
  have h1 := sCome_more (s := s) h q 0 (20 - q) (by omega)
  rw [show q + 1 + (20 - q) = 21 from by omega] at h1
  rw [h1, sCome_rest h q 0 (by omega)]
  omega
theorem restK_le {X : AI} {s : Int32} : ∀ (n i : Nat), restK X s n i ≤ n := by
  intro n
  induction n with
  | zero => intro i; exact Nat.le_refl _
  | succ n ih =>
    intro i
    have := ih (i + 1)
    unfold restK
    split <;> omega
section M4
variable {kad : Nat → Nat} {N : Nat} {Z : AZ} {e m s : Nat} {I0 I X : AI}
theorem MR.k0 (H : MR e m s I0 I X) : I m 43 = X 10 0 := H.1 10 0 (by unfold mC; omega) rfl
theorem MR.k12 (H : MR e m s I0 I X) {q k : Nat} (h : okK q X) (hk : k < q) : I (m + 18) k = X 12 k := H.1 12 k (by unfold mC; omega) (by
  have hq := h.2.1
  show k < nT (X 10 0) ∧ k < 20
  rw [h.1, nT_of (by omega)]
  omega)
theorem MR.k11 (H : MR e m s I0 I X) {q k : Nat} (h : okK q X) (hk : k < q) : I (m + 19) k = X 11 k := H.1 11 k (by unfold mC; omega) (by
  have hq := h.2.1
  show k < nT (X 10 0) ∧ k < 20
  rw [h.1, nT_of (by omega)]
  omega)
theorem sTold_more {X : AI} {s : Int32} {q : Nat} (h : okK q X) : ∀ (n i k : Nat), i + n = q → sTold X s (n + 1 + k) i = sTold X s (n + 1) i := by
  have hq := h.2.1
  intro n
  induction n with
  | zero =>
    intro i k hi
    rw [show 0 + 1 + k = k + 1 from by omega, sTold, sTold, if_pos (by rw [h.1]; exact (of_le (by omega) (by omega)).mpr (by omega)), if_pos (by rw [h.1]; exact (of_le (by omega) (by omega)).mpr (by omega))]
  | succ n ih =>
    intro i k hi
    rw [show n + 1 + 1 + k = (n + 1 + k) + 1 from by omega, sTold]
    rw [show sTold X s (n + 1 + 1) i = (if X 10 0 ≤ Int32.ofNat i then false else if 20 ≤ i then false else if X 12 i = s then true else sTold X s (n + 1) (i + 1)) from rfl, ih (i + 1) k (by omega)]
end M4
