/-! the model makes all anew from the start -/
section MN
variable {kad : Nat → Nat} {N : Nat} {Z : AZ} {m q : Nat} {I : AI} {K : AI} {M D : Nat → Int32} {W : Int32}
/-- what steps may change -/
def TW (m b j : Nat) : Prop := (b = m ∧ (j = 23 ∨ j = 24 ∨ (27 ≤ j ∧ j ≤ 35) ∨ (37 ≤ j ∧ j ≤ 39) ∨ j = 46 ∨ j = 47 ∨ j = 52)) ∨ (b = m + 15 ∨ b = m + 16 ∨ b = m + 17 ∨ b = m + 20 ∨ b = m + 21 ∨ b = m + 22 ∨ b = m + 23 ∨ b = m + 24 ∨ b = m + 25)
theorem Tm.tw {s b j : Nat} (h : Tm m s b j) : TW m b j := by
  rcases h with h | h | ⟨h, -⟩
  · exact Or.inl h
  · rcases h with h | h | h | h | h | h | h
    · exact Or.inr (Or.inl h)
    · exact Or.inr (Or.inr (Or.inl h))
    · exact Or.inr (Or.inr (Or.inr (Or.inl h)))
    · exact Or.inr (Or.inr (Or.inr (Or.inr (Or.inr (Or.inr (Or.inl h))))))
    · exact Or.inr (Or.inr (Or.inr (Or.inr (Or.inr (Or.inr (Or.inr (Or.inl h)))))))
    · exact Or.inr (Or.inr (Or.inr (Or.inr (Or.inr (Or.inr (Or.inr (Or.inr (Or.inl h))))))))
    · exact Or.inr (Or.inr (Or.inr (Or.inr (Or.inr (Or.inr (Or.inr (Or.inr (Or.inr h))))))))
  · rcases h with h | h
    · exact Or.inr (Or.inr (Or.inr (Or.inr (Or.inl h))))
    · exact Or.inr (Or.inr (Or.inr (Or.inr (Or.inr (Or.inl h)))))
theorem nTm {s b j : Nat} (hb : b = m + 20 ∨ b = m + 21) (hj : ¬ j = s) : ¬ Tm m s b j := by
  intro h
  rcases h with h | h | h
  · have := h.1
    omega
  · rcases h with h | h | h | h | h | h | h <;> omega
  · exact hj h.2
theorem nTW {b j : Nat} (h : ¬ TW m b j) : (b = m → ¬ j = 23 ∧ ¬ j = 24 ∧ ¬ (27 ≤ j ∧ j ≤ 35) ∧ ¬ (37 ≤ j ∧ j ≤ 39) ∧ ¬ j = 46 ∧ ¬ j = 47 ∧ ¬ j = 52) ∧ ¬ b = m + 15 ∧ ¬ b = m + 16 ∧ ¬ b = m + 24 := by
  refine ⟨fun hb => ?_, fun hh => h (Or.inr (Or.inl hh)), fun hh => h (Or.inr (Or.inr (Or.inl hh))), fun hh => h (Or.inr (Or.inr (Or.inr (Or.inr (Or.inr (Or.inr (Or.inr (Or.inr (Or.inl hh)))))))))⟩
  have hj : ¬ (j = 23 ∨ j = 24 ∨ (27 ≤ j ∧ j ≤ 35) ∨ (37 ≤ j ∧ j ≤ 39) ∨ j = 46 ∨ j = 47 ∨ j = 52) := fun hh => h (Or.inl ⟨hb, hh⟩)
  exact ⟨fun x => hj (Or.inl x), fun x => hj (Or.inr (Or.inl x)), fun x => hj (Or.inr (Or.inr (Or.inl x))), fun x => hj (Or.inr (Or.inr (Or.inr (Or.inl x)))), fun x => hj (Or.inr (Or.inr (Or.inr (Or.inr (Or.inl x))))), fun x => hj (Or.inr (Or.inr (Or.inr (Or.inr (Or.inr (Or.inl x)))))), fun x => hj (Or.inr (Or.inr (Or.inr (Or.inr (Or.inr (Or.inr x))))))⟩
theorem ML.mr {X : AI} (h : ML m I X) : MR 0 m 2000 I I X := ⟨h.1, h.2, fun h => absurd h (by decide), fun _ _ _ => rfl⟩
/-- the notes of the steps so far -/
def MNo (m : Nat) (K B : AI) (s : Nat) (I : AI) : Prop := ∀ j, j < s → I (m + 20) j = n1 (tr K B (j + 1)) ∧ I (m + 21) j = n2 (tr K B (j + 1))
theorem tr_0 {B : AI} : tr K B 0 = sKeys (ov K B) := rfl
theorem wake_9 : wake M D W 9 = D := by
  funext k
  unfold wake
  rw [if_neg (by decide), if_neg (by decide), if_neg (by decide), if_pos rfl]
theorem wake_6 : wake M D W 6 = M := by
  funext k
  unfold wake
  rw [if_neg (by decide), if_pos rfl]
theorem wake_3 {k : Nat} : wake M D W 3 k = 0 := by
  unfold wake
  rw [if_neg (by decide), if_neg (by decide), if_neg (by decide), if_neg (by decide)]
theorem wake_1 {k : Nat} : wake M D W 1 k = if k = 0 then (1 : Int32) else if k = 3 then 8 else if k = 4 then 256 else 0 := by
  unfold wake
  rw [if_pos rfl]
theorem wake_2 {k : Nat} : wake M D W 2 k = 0 := by
  unfold wake
  rw [if_neg (by decide), if_neg (by decide), if_neg (by decide), if_neg (by decide)]
theorem wake_inv (hM : ∀ k, k < 256 → wd (M k)) (hD : D 0 = 0 ∧ WF D) (hK : okK q K) (hk : ∀ k, k < q → wd (K 11 k)) : Inv q 0 (sKeys (ov K (wake M D W))) := by
  have z : nT 0 = 0 := by decide
  have V : VV (ov K (wake M D W)) := by
    unfold VV bl
    rw [ov_r1, ov_r2, ov_r6, ov_r7, wake_6]
    refine ⟨⟨fun k h5 h9 => ?_, fun k hk => ?_⟩, ⟨⟨256, ?_, by decide⟩, ⟨0, ?_, by decide, fun k hk => absurd hk (by omega)⟩, ⟨0, ?_, by decide⟩⟩, ⟨fun k _ => ?_, fun k hk' => hM k hk'⟩, ?_⟩
    · left
      rw [wake_1, if_neg (by omega), if_neg (by omega), if_neg (by omega)]
    · rw [wake_1]
      rcases hk with rfl | rfl | rfl | rfl | rfl
      · exact wd_1
      · exact wd_0
      · exact wd_nat (n := 8) (by decide)
      · exact wd_0
      · exact wd_0
    · rw [wake_1, if_neg (by decide), if_neg (by decide), if_pos rfl]
      rfl
    · rw [wake_1, if_neg (by decide), if_neg (by decide), if_neg (by decide)]
      rfl
    · rw [wake_1, if_neg (by decide), if_neg (by decide), if_neg (by decide)]
      rfl
    · rw [wake_2]; exact wd_0
    · left
      rw [wake_1, if_neg (by decide), if_neg (by decide), if_neg (by decide)]
      exact z
  have F : FF (ov K (wake M D W)) := by
    left
    unfold FI
    rw [ov_r3, ov_r9, wake_9, wake_3, wake_3]
    exact ⟨⟨rfl, rfl⟩, hD⟩
  have bo : ∀ c, ¬ c = 1 → sKeys (ov K (wake M D W)) c = ov K (wake M D W) c := fun c hc => sKeys_o hc
  refine ⟨⟨?_, F.cong (bo 3 (by decide)) (bo 4 (by decide)) (bo 5 (by decide)) (bo 9 (by decide)) sKeys_13.1⟩, ⟨?_, ?_⟩, ?_⟩
  · unfold sKeys
    split
    · exact V.b (by omega) (Or.inr rfl)
    · exact V
  · unfold okK at hK ⊢
    rw [bo 10 (by decide), bo 12 (by decide), ov_k (by decide), ov_k (by decide)]
    exact hK
  · rw [bo 11 (by decide), ov_k (by decide)]
    exact hk
  · rw [sKeys_13.2, ov_r1, wake_1, if_neg (by decide), if_neg (by decide), if_neg (by decide)]
    rfl
theorem Inv.trj {B : AI} (h : Inv q 0 (sKeys (ov K B))) : ∀ j, Inv q j (tr K B j) := by
  intro j
  induction j with
  | zero =>
    rw [tr_0]
    exact h
  | succ j ih =>
    rw [tr_s]
    exact ih.step
end MN
