/-! the made cells hold what their kinds say -/
def eG (kad : Nat → Nat) (e : AEnt) : Prop := (∀ k, k < e.2.1 → if aRf e.1 k = true then ∃ r, e.2.2 k = .ref r else ∃ x, e.2.2 k = .int x) ∧ (∀ q, vwCl[e.1]? = some q → q.2.2 = e.2.1) ∧ (e.1 = 7 → e.2.2 0 = .ref (kad 0)) ∧ (e.1 = 100 → ∀ k, ∃ x, e.2.2 k = .int x)
def isRb : Value → Bool
  | .ref _ => true
  | _ => false
def isIb : Value → Bool
  | .int _ => true
  | _ => false
def okO (e : AEnt) : Bool := (List.range e.2.1).all fun k => if aRf e.1 k = true then isRb (e.2.2 k) else isIb (e.2.2 k)
section GOODS
variable {kad : Nat → Nat} {a n kd ci N : Nat} {f : Nat → Value} {e : AEnt} {q : vw_C}
theorem eG_obj (h : okO (ci, (N, f)) = true) (hq : vwCl[ci]? = some q) (hN : q.2.2 = N) (h7 : ci = 7 → f 0 = .ref (kad 0)) (h100 : ¬ ci = 100) : eG kad (ci, (N, f)) := by
  refine ⟨fun k hk => ?_, fun q' hq' => ?_, h7, fun hh => absurd hh h100⟩
  · have := List.all_eq_true.mp h k (List.mem_range.mpr hk)
    dsimp only at this ⊢
    split at this
    · rename_i hr
      rw [if_pos hr]
      generalize f k = v at this ⊢
      cases v with
      | ref r => exact ⟨r, rfl⟩
      | _ => cases this
    · rename_i hr
      rw [if_neg hr]
      generalize f k = v at this ⊢
      cases v with
      | int r => exact ⟨r, rfl⟩
      | _ => cases this
  · cases Option.some.inj (hq.symm.trans hq')
    exact hN
theorem vw_none (h : 11 ≤ kd) : vwCl[kd]? = none := List.getElem?_eq_none h
theorem eG_ints (hk : kd = 100 ∨ kd = 101) (hf : ∀ k, ∃ x, f k = .int x) : eG kad (kd, (n, f)) := by
  refine ⟨fun k _ => ?_, fun q' hq' => ?_, fun hh => ?_, fun _ => hf⟩
  · dsimp only
    rw [if_neg (by rcases hk with rfl | rfl <;> simp [aRf])]
    exact hf k
  · rw [vw_none (by dsimp only; omega)] at hq'
    cases hq'
  · exfalso
    dsimp only at hh
    omega
theorem eG_refs (hk : 103 ≤ kd) (hf : ∀ k, k < n → ∃ r, f k = .ref r) : eG kad (kd, (n, f)) := by
  refine ⟨fun k hk' => ?_, fun q' hq' => ?_, fun hh => ?_, fun hh => ?_⟩
  · dsimp only
    rw [if_pos (by unfold aRf; rw [if_neg (by omega)]; exact decide_eq_true hk)]
    exact hf k hk'
  · rw [vw_none (by dsimp only; omega)] at hq'
    cases hq'
  · exfalso
    dsimp only at hh
    omega
  · exfalso
    dsimp only at hh
    omega
theorem eG_i0 : eG kad (100, (n, fun _ => .int 0)) := eG_ints (Or.inl rfl) (fun _ => ⟨0, rfl⟩)
theorem eG_b0 : eG kad (101, (n, fun _ => .int 0)) := eG_ints (Or.inr rfl) (fun _ => ⟨0, rfl⟩)
theorem Lc3_G : ∀ e ∈ Lc3 a, eG kad e := by
  simp only [Lc3, List.forall_mem_cons, List.not_mem_nil, false_implies, implies_true, and_true]
  exact ⟨eG_obj rfl rfl rfl (fun hh => by cases hh) (by decide), eG_ints (Or.inl rfl) (fun k => by unfold updV; split <;> exact ⟨_, rfl⟩)⟩
theorem Lc4_G : ∀ e ∈ Lc4 a, eG kad e := by
  simp only [Lc4, List.nil_append, List.forall_mem_append, List.forall_mem_cons, List.not_mem_nil, false_implies, implies_true, and_true]
  exact ⟨eG_obj rfl rfl rfl (fun hh => by cases hh) (by decide), eG_i0, eG_i0⟩
theorem Lc2_G : ∀ e ∈ Lc2 a, eG kad e := by
  simp only [Lc2, List.nil_append, List.forall_mem_append, List.forall_mem_cons, List.not_mem_nil, false_implies, implies_true, and_true]
  exact ⟨eG_obj rfl rfl rfl (fun hh => by cases hh) (by decide), eG_i0, Lc4_G⟩
theorem Lc5_G : ∀ e ∈ Lc5 a, eG kad e := by
  simp only [Lc5, List.nil_append, List.forall_mem_append, List.forall_mem_cons, List.not_mem_nil, false_implies, implies_true, and_true]
  exact ⟨eG_obj rfl rfl rfl (fun hh => by cases hh) (by decide), ⟨⟨Lc2_G, eG_i0⟩, eG_i0⟩, eG_i0⟩
theorem Lc6_G : ∀ e ∈ Lc6 a, eG kad e := by
  simp only [Lc6, List.nil_append, List.forall_mem_append, List.forall_mem_cons, List.not_mem_nil, false_implies, implies_true, and_true]
  exact ⟨eG_obj rfl rfl rfl (fun hh => by cases hh) (by decide), eG_i0, eG_i0⟩
theorem Lc1_G : ∀ e ∈ Lc1 a, eG kad e := by
  simp only [Lc1, List.nil_append, List.forall_mem_append, List.forall_mem_cons, List.not_mem_nil, false_implies, implies_true, and_true]
  exact ⟨eG_obj rfl rfl rfl (fun hh => by cases hh) (by decide), eG_i0, eG_b0⟩
theorem Lc7_G : ∀ e ∈ Lc7 kad a, eG kad e := by
  simp only [Lc7, List.forall_mem_cons, List.not_mem_nil, false_implies, implies_true, and_true]
  exact eG_obj rfl rfl rfl (fun _ => rfl) (by decide)
theorem Lc9_G : ∀ e ∈ Lc9 a, eG kad e := by
  simp only [Lc9, List.nil_append, List.forall_mem_append, List.forall_mem_cons, List.not_mem_nil, false_implies, implies_true, and_true]
  exact ⟨eG_obj rfl rfl rfl (fun hh => by cases hh) (by decide), eG_i0, eG_i0⟩
theorem Lc8_G : ∀ e ∈ Lc8 a, eG kad e := by
  simp only [Lc8, List.nil_append, List.forall_mem_append, List.forall_mem_cons, List.not_mem_nil, false_implies, implies_true, and_true]
  exact ⟨eG_obj rfl rfl rfl (fun hh => by cases hh) (by decide), ⟨⟨⟨⟨⟨⟨Lc2_G, eG_i0⟩, eG_i0⟩, Lc3_G⟩, Lc6_G⟩, Lc1_G⟩, eG_i0⟩, Lc5_G⟩
theorem gJ_G {LC : Nat → List AEnt} {q w : Nat} (h : ∀ b, ∀ e ∈ LC b, eG kad e) : ∀ j, ∀ e ∈ gJ LC a q w j, eG kad e
  | 0 => fun e he => absurd he List.not_mem_nil
  | j + 1 => List.forall_mem_append.mpr ⟨gJ_G h j, h _⟩
theorem set_G {L : List AEnt} {i : Nat} (h : ∀ j e, ¬ j = i → L[j]? = some e → eG kad e) (hv : eG kad e) : ∀ x ∈ L.set i e, eG kad x := by
  intro x hx
  obtain ⟨j, hj⟩ := List.mem_iff_getElem?.mp hx
  by_cases hi : i = j
  · subst hi
    by_cases hl : i < L.length
    · rw [List.getElem?_set_self hl] at hj
      cases hj
      exact hv
    · rw [List.getElem?_eq_none (by rw [List.length_set]; omega)] at hj
      cases hj
  · rw [List.getElem?_set_ne hi] at hj
    exact h j x (Ne.symm hi) hj
theorem aJ_G {q w : Nat} (hk : 103 ≤ kd) : eG kad (kd, (n, aJ a q w n)) := eG_refs hk (fun k hk' => ⟨_, aJ_at hk'⟩)
theorem Lc0_G : ∀ e ∈ Lc0 kad a, eG kad e := by
  refine List.forall_mem_cons.mpr ⟨eG_obj rfl rfl rfl (fun hh => by cases hh) (by decide), List.forall_mem_append.mpr ⟨set_G (fun j e hj he => ?_) (aJ_G (by decide)), gJ_G (fun b => Lc7_G) _⟩⟩
  match j, hj, he with
  | 0, _, he => cases he; exact eG_i0
  | 1, hj, _ => exact absurd rfl hj
  | 2, _, he => cases he; exact eG_i0
  | 3, _, he => cases he; exact eG_i0
  | 4, _, he => cases he; exact eG_b0
  | 5, _, he => cases he; exact eG_i0
  | 6, _, he => cases he; exact eG_i0
  | 7, _, he => cases he; exact eG_i0
  | 8, _, he => cases he; exact eG_i0
  | 9, _, he => cases he; exact eG_i0
  | 10, _, he => cases he; exact eG_i0
  | n + 11, _, he => cases he
theorem Lr10_G : ∀ j e, ¬ j = 139 → ¬ j = 180 → (Lr10 kad a)[j]? = some e → eG kad e := by
  intro j e h1 h2 he
  have hl := lt_of_some he Lr10_len
  by_cases h0 : j < 112
  · rw [lr_0 h0] at he
    exact Lc0_G e (List.mem_of_getElem? he)
  · by_cases h3 : j = 112
    · subst h3
      rw [lr_112] at he
      cases he
      exact eG_i0
    · by_cases h4 : j < 139
      · obtain ⟨i, rfl⟩ : ∃ i, j = 113 + i := ⟨j - 113, by omega⟩
        rw [lr_8 (by omega)] at he
        exact Lc8_G e (List.mem_of_getElem? he)
      · by_cases h5 : j = 140
        · subst h5
          rw [lr_140] at he
          cases he
          exact eG_i0
        · by_cases h6 : j = 141
          · subst h6
            rw [lr_141] at he
            cases he
            exact eG_i0
          · by_cases h7 : j < 168
            · obtain ⟨i, rfl⟩ : ∃ i, j = 142 + i := ⟨j - 142, by omega⟩
              rw [lr_82 (by omega)] at he
              exact Lc8_G e (List.mem_of_getElem? he)
            · by_cases h8 : j < 177
              · obtain ⟨i, rfl⟩ : ∃ i, j = 168 + i := ⟨j - 168, by omega⟩
                rw [lr_5 (by omega)] at he
                exact Lc5_G e (List.mem_of_getElem? he)
              · obtain ⟨i, rfl⟩ : ∃ i, j = 177 + i := ⟨j - 177, by omega⟩
                rw [lr_9 (by omega)] at he
                exact Lc9_G e (List.mem_of_getElem? he)
theorem Ls10_G : ∀ j e, ¬ j = 180 → (Ls10 kad a)[j]? = some e → eG kad e := by
  intro j e h1 he
  unfold Ls10 at he
  by_cases h2 : j < 181
  · rw [List.getElem?_append_left (by rw [List.length_set, Lr10_len]; exact h2)] at he
    by_cases h3 : 139 = j
    · subst h3
      rw [List.getElem?_set_self (by rw [Lr10_len]; decide)] at he
      cases he
      exact aJ_G (by decide)
    · rw [List.getElem?_set_ne h3] at he
      exact Lr10_G j e (Ne.symm h3) h1 he
  · obtain ⟨i, rfl⟩ : ∃ i, j = 181 + i := ⟨j - 181, by omega⟩
    rw [skp (by rw [List.length_set, Lr10_len])] at he
    exact gJ_G (fun b => Lc5_G) _ e (List.mem_of_getElem? he)
theorem Lc10_G : ∀ e ∈ Lc10 kad a, eG kad e :=
  List.forall_mem_cons.mpr ⟨eG_obj rfl rfl rfl (fun hh => by cases hh) (by decide), List.forall_mem_append.mpr ⟨set_G Ls10_G (aJ_G (by decide)), gJ_G (fun b => Lc9_G) _⟩⟩
end GOODS
