/-! a test is judged, in both -/
def tOK (T : AI) (t : Nat) (X : AI) : Prop := X 1 12 = T 2 t ∧ ∀ k, k < nT (T 2 t) → X 7 k = T (20 + t) k
def jdg (T : AI) (t : Nat) (X : AI) (v : Int32) : Prop := (X 1 0 = 3 ∧ v = 1) ∨ (¬ X 1 0 = 3 ∧ X 1 0 = 1 ∧ v = 2) ∨ (¬ X 1 0 = 3 ∧ ¬ X 1 0 = 1 ∧ ¬ X 8 1 ≤ T 4 t ∧ v = 3) ∨ (¬ X 1 0 = 3 ∧ ¬ X 1 0 = 1 ∧ X 8 1 ≤ T 4 t ∧ ¬ tOK T t X ∧ v = 4) ∨ (¬ X 1 0 = 3 ∧ ¬ X 1 0 = 1 ∧ X 8 1 ≤ T 4 t ∧ tOK T t X ∧ ¬ isWh (X 9) ∧ v = 5) ∨ (¬ X 1 0 = 3 ∧ ¬ X 1 0 = 1 ∧ X 8 1 ≤ T 4 t ∧ tOK T t X ∧ isWh (X 9) ∧ v = 0)
section JG
variable {kad : Nat → Nat} {N : Nat} {Z : AZ} {a b m n t τ : Nat} {I J T X : AI} {v w : Int32}
theorem jdg_one (h : jdg T t X v) (h' : jdg T t X w) : v = w := by
  rcases h with ⟨a1, e⟩ | ⟨a0, a1, e⟩ | ⟨a0, a1, a2, e⟩ | ⟨a0, a1, a2, a3, e⟩ | ⟨a0, a1, a2, a3, a4, e⟩ | ⟨a0, a1, a2, a3, a4, e⟩
  · rcases h' with ⟨b1, d⟩ | ⟨b0, -, -⟩ | ⟨b0, -, -⟩ | ⟨b0, -, -⟩ | ⟨b0, -, -⟩ | ⟨b0, -, -⟩
    · rw [e, d]
    all_goals exact absurd a1 b0
  · rcases h' with ⟨b1, -⟩ | ⟨b0, b1, d⟩ | ⟨-, b1, -⟩ | ⟨-, b1, -⟩ | ⟨-, b1, -⟩ | ⟨-, b1, -⟩
    · exact absurd b1 a0
    · rw [e, d]
    all_goals exact absurd a1 b1
  · rcases h' with ⟨b1, -⟩ | ⟨b0, b1, d⟩ | ⟨-, b1, b2, d⟩ | ⟨-, b1, b2, -⟩ | ⟨-, b1, b2, -⟩ | ⟨-, b1, b2, -⟩
    · exact absurd b1 a0
    · exact absurd b1 a1
    · rw [e, d]
    all_goals exact absurd b2 a2
  · rcases h' with ⟨b1, -⟩ | ⟨b0, b1, d⟩ | ⟨-, b1, b2, d⟩ | ⟨-, b1, b2, b3, d⟩ | ⟨-, b1, b2, b3, -⟩ | ⟨-, b1, b2, b3, -⟩
    · exact absurd b1 a0
    · exact absurd b1 a1
    · exact absurd a2 b2
    · rw [e, d]
    all_goals exact absurd b3 a3
  · rcases h' with ⟨b1, -⟩ | ⟨b0, b1, d⟩ | ⟨-, b1, b2, d⟩ | ⟨-, b1, b2, b3, d⟩ | ⟨-, b1, b2, b3, b4, d⟩ | ⟨-, b1, b2, b3, b4, d⟩
    · exact absurd b1 a0
    · exact absurd b1 a1
    · exact absurd a2 b2
    · exact absurd a3 b3
    · rw [e, d]
    · exact absurd b4 a4
  · rcases h' with ⟨b1, -⟩ | ⟨b0, b1, d⟩ | ⟨-, b1, b2, d⟩ | ⟨-, b1, b2, b3, d⟩ | ⟨-, b1, b2, b3, b4, d⟩ | ⟨-, b1, b2, b3, b4, d⟩
    · exact absurd b1 a0
    · exact absurd b1 a1
    · exact absurd a2 b2
    · exact absurd a3 b3
    · exact absurd a4 b4
    · rw [e, d]
theorem jdg_up (h : jdg T t X v) : upto 5 v := by
  rcases h with ⟨-, e⟩ | ⟨-, -, e⟩ | ⟨-, -, -, e⟩ | ⟨-, -, -, -, e⟩ | ⟨-, -, -, -, -, e⟩ | ⟨-, -, -, -, -, e⟩
  · exact ⟨1, e, by decide⟩
  · exact ⟨2, e, by decide⟩
  · exact ⟨3, e, by decide⟩
  · exact ⟨4, e, by decide⟩
  · exact ⟨5, e, by decide⟩
  · exact ⟨0, e, by decide⟩
theorem K111_l {nw : Nat} {u w : Nat → Int32} (hz : Z.1 b = some (100, 6)) (hn : nw ≤ 6) (h7 : ∀ k, k < nw → I (a + 7) k = u k) (hb : ∀ k, k < nw → I b k = w k) : ∀ (r i F : Nat), i + r = nw → r < F → ∃ v : Int32, f111_b15 kad N Z F a b (Int32.ofNat nw) (Int32.ofNat i) I = some (v, I) ∧ ((∀ k, i ≤ k → k < nw → u k = w k) → v = 1) ∧ (¬ (∀ k, i ≤ k → k < nw → u k = w k) → v = 0) := by
  intro r
  induction r with
  | zero =>
    intro i F hi hF
    obtain ⟨F, rfl⟩ : ∃ G, F = G + 1 := ⟨F - 1, by omega⟩
    unfold f111_b15 f111_b52
    rw [if_pos ((of_le (by omega) (by omega)).mpr (by omega))]
    exact ⟨1, rfl, fun _ => rfl, fun h => absurd (fun k k1 k2 => by omega) h⟩
  | succ r ih =>
    intro i F hi hF
    obtain ⟨F, rfl⟩ : ∃ G, F = G + 1 := ⟨F - 1, by omega⟩
    unfold f111_b15
    rw [if_neg (fun h => absurd ((of_le (by omega) (by omega)).mp h) (by omega)), nL_of hz (by decide), Option.bind_some, if_neg (fun h => absurd ((of_le (by omega) (by omega)).mp h) (by omega)), if_neg (show ¬ (60 : Int32) ≤ Int32.ofNat i from fun h => absurd ((of_le (m := 60) (by decide) (by omega)).mp h) (by omega)), ixA_of (by omega), Option.bind_some, lI_at hz (by omega), Option.bind_some]
    by_cases he : u i = w i
    · obtain ⟨v, v1, v2, v3⟩ := ih (i + 1) F (by omega) (by omega)
      rw [if_pos (by rw [h7 i (by omega), hb i (by omega)]; exact he), of_s]
      refine ⟨v, v1, fun h => v2 (fun k k1 k2 => h k (by omega) k2), fun h => v3 (fun hh => h (fun k k1 k2 => ?_))⟩
      by_cases hk : k = i
      · rw [hk]; exact he
      · exact hh k (by omega) k2
    · rw [if_neg (by rw [h7 i (by omega), hb i (by omega)]; exact he)]
      exact ⟨0, rfl, fun h => absurd (h i (Nat.le_refl _) (by omega)) he, fun _ => rfl⟩
theorem K111 (hN : 2000 ≤ N) (H : RM a I X) (hT : CTt τ t T I) (hz : Z.1 (τ + 2) = some (100, 6)) (h2 : upto 6 (T 2 t)) (hx : ∃ tp, X 1 12 = Int32.ofNat tp ∧ tp ≤ 60) : ∃ v : Int32, f111 kad N Z a (τ + 2) (T 2 t) I = some (v, I) ∧ (tOK T t X → v = 1) ∧ (¬ tOK T t X → v = 0) := by
  obtain ⟨nw, e, hn⟩ := h2
  obtain ⟨tp, ht, htp⟩ := hx
  have hnw : nT (T 2 t) = nw := by rw [e]; exact nT_of (by omega)
  unfold f111
  by_cases h12 : X 1 12 = T 2 t
  · rw [if_pos ((H.f1 (k := 12)).trans h12)]
    have htn : tp = nw := by
      have := (of_inj (by omega) (by omega)).mp (ht.symm.trans (h12.trans e))
      exact this
    have hx12 : nT (X 1 12) = nw := by rw [h12]; exact hnw
    obtain ⟨v, v1, v2, v3⟩ := K111_l (kad := kad) (N := N) (Z := Z) (I := I) (a := a) (b := τ + 2) (u := X 7) (w := T (20 + t)) hz hn (fun k hk => H 7 k (by decide) (show k < nT (X 1 12) ∧ k < 60 by omega)) (fun k hk => (hT.2.2 k (by omega)).2) nw 0 N (by omega) (by omega)
    rw [e]
    refine ⟨v, v1, fun h => v2 (fun k _ k2 => h.2 k (by omega)), fun h => v3 (fun hh => h ⟨h12, fun k hk => hh k (Nat.zero_le _) (by omega)⟩)⟩
  · rw [if_neg (fun h => h12 ((H.f1 (k := 12)).symm.trans h))]
    exact ⟨0, rfl, fun h => absurd h.1 h12, fun _ => rfl⟩
theorem K121 (hN : 2000 ≤ N) (H : RM a I X) (hT : CTt τ t T I) (hz : Z.1 (τ + 2) = some (100, 6)) (h2 : upto 6 (T 2 t)) (hx : ∃ tp, X 1 12 = Int32.ofNat tp ∧ tp ≤ 60) (hw : X 9 0 = 0 → LW (X 9)) : ∃ v : Int32, f121 kad N Z τ a I = some (v, I) ∧ jdg T t X v := by
  have e0 : I (a + 1) 0 = X 1 0 := H.f1
  have e8 : I (a + 8) 1 = X 8 1 := H 8 1 (by decide) rfl
  unfold f121 f121_b74
  by_cases s3 : X 1 0 = 3
  · rw [if_neg (show ¬ ¬ I (a + 1) 0 = 3 from fun h => h (e0.trans s3))]
    exact ⟨1, rfl, Or.inl ⟨s3, rfl⟩⟩
  rw [if_pos (show ¬ I (a + 1) 0 = 3 from fun h => s3 (e0.symm.trans h))]
  by_cases s1 : X 1 0 = 1
  · rw [if_neg (show ¬ ¬ I (a + 1) 0 = 1 from fun h => h (e0.trans s1))]
    exact ⟨2, rfl, Or.inr (Or.inl ⟨s3, s1, rfl⟩)⟩
  rw [if_pos (show ¬ I (a + 1) 0 = 1 from fun h => s1 (e0.symm.trans h))]
  by_cases l : X 8 1 ≤ T 4 t
  · rw [if_pos (show I (a + 8) 1 ≤ I τ 6 from by rw [e8, hT.2.1.2.1]; exact l), hT.1.2.1]
    obtain ⟨v, v1, v2, v3⟩ := K111 (kad := kad) (Z := Z) hN H hT hz h2 hx
    rw [v1, Option.bind_some]
    dsimp only
    by_cases ok : tOK T t X
    · rw [v2 ok, if_pos z10]
      obtain ⟨u, u1, u2, u3⟩ := K58 (kad := kad) (Z := Z) (d := a + 8) (I := I) (D := X 9) hN (fun k hk => H 9 k (by decide) hk) hw
      rw [u1, Option.bind_some]
      dsimp only
      by_cases w : isWh (X 9)
      · rw [u2 w, if_neg z10]
        exact ⟨0, rfl, Or.inr (Or.inr (Or.inr (Or.inr (Or.inr ⟨s3, s1, l, ok, w, rfl⟩))))⟩
      · rw [u3 w, if_pos rfl]
        exact ⟨5, rfl, Or.inr (Or.inr (Or.inr (Or.inr (Or.inl ⟨s3, s1, l, ok, w, rfl⟩))))⟩
    · rw [v3 ok, if_neg z00]
      exact ⟨4, rfl, Or.inr (Or.inr (Or.inr (Or.inl ⟨s3, s1, l, ok, rfl⟩)))⟩
  · rw [if_neg (show ¬ I (a + 8) 1 ≤ I τ 6 from by rw [e8, hT.2.1.2.1]; exact l)]
    exact ⟨3, rfl, Or.inr (Or.inr (Or.inl ⟨s3, s1, l, rfl⟩))⟩
end JG
