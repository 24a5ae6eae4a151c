/-! the last kept step that changed a word, in both -/
def cAt (K B : AI) (ad : Int32) : Nat → Nat → Int32
  | 0, _ => Int32.ofInt (-1)
  | n + 1, s => if n1 (tr K B s) = ad ∨ n2 (tr K B s) = ad then Int32.ofNat (s - 1) else cAt K B ad n (s - 1)
section CA
variable {kad : Nat → Nat} {N : Nat} {Z : AZ} {g m q s kc κ : Nat} {I : AI} {K B X Y : AI} {M D : Nat → Int32} {W : Int32}
theorem K70 (hN : 2000 ≤ N) {w : Nat} {ad : Int32} (H : RK κ I Y) (hw : Y 20 1 = Int32.ofNat w) (hw2 : w ≤ 2) (ha : ¬ ad < 0) : f70 kad N Z κ ad I = some (if n1 Y = ad ∨ n2 Y = ad then 1 else 0, I) := by
  obtain ⟨F, rfl⟩ : ∃ G, N = G + 3 := ⟨N - 3, by omega⟩
  have e1 : I κ 1 = Int32.ofNat w := by
    have := H 20 1 (by decide) (Or.inl rfl)
    rw [hw] at this
    exact this
  have hn : nT (Y 20 1) = w := by rw [hw]; exact nT_of (by omega)
  have e26 : ∀ k, k < w → I (κ + 6) k = Y 26 k := fun k hk => H 26 k (by decide) (show k < nT (Y 20 1) ∧ k < 2 by omega)
  have m1 : ¬ Int32.ofInt (-1) = ad := fun h => ha (by rw [← h]; decide)
  unfold f70 f70_b2 f70_b33
  rw [e1]
  rcases (show w = 0 ∨ w = 1 ∨ w = 2 by omega) with rfl | rfl | rfl
  · rw [if_pos (show Int32.ofNat 0 ≤ 0 by decide), show n1 Y = Int32.ofInt (-1) from by unfold n1; rw [hn, if_neg (by decide)], show n2 Y = Int32.ofInt (-1) from by unfold n2; rw [hn, if_neg (by decide)], if_neg (fun h : Int32.ofInt (-1) = ad ∨ Int32.ofInt (-1) = ad => h.elim m1 m1)]
  · rw [if_neg (show ¬ Int32.ofNat 1 ≤ 0 by decide), if_neg (show ¬ (2 : Int32) ≤ 0 by decide), show ixA 2 (0 : Int32) = some 0 from ixA_of (n := 2) (i := 0) (by decide), Option.bind_some, e26 0 (by decide), show n1 Y = Y 26 0 from by unfold n1; rw [hn, if_pos (by decide)], show n2 Y = Int32.ofInt (-1) from by unfold n2; rw [hn, if_neg (by decide)]]
    by_cases h : Y 26 0 = ad
    · rw [if_neg (show ¬ ¬ Y 26 0 = ad from fun hh => hh h), if_pos (Or.inl h)]
    · rw [if_pos h, if_neg (show ¬ (Y 26 0 = ad ∨ Int32.ofInt (-1) = ad) from fun hh => hh.elim h m1)]
      unfold f70_b2 f70_b33
      rw [e1, if_pos (by decide)]
  · rw [if_neg (show ¬ Int32.ofNat 2 ≤ 0 by decide), if_neg (show ¬ (2 : Int32) ≤ 0 by decide), show ixA 2 (0 : Int32) = some 0 from ixA_of (n := 2) (i := 0) (by decide), Option.bind_some, e26 0 (by decide), show n1 Y = Y 26 0 from by unfold n1; rw [hn, if_pos (by decide)], show n2 Y = Y 26 1 from by unfold n2; rw [hn, if_pos (by decide)]]
    by_cases h : Y 26 0 = ad
    · rw [if_neg (show ¬ ¬ Y 26 0 = ad from fun hh => hh h), if_pos (Or.inl h)]
    · rw [if_pos h]
      unfold f70_b2 f70_b33
      rw [e1, if_neg (show ¬ Int32.ofNat 2 ≤ 0 + 1 by decide), if_neg (show ¬ (2 : Int32) ≤ 0 + 1 by decide), show ixA 2 ((0 : Int32) + 1) = some 1 from ixA_of (n := 2) (i := 1) (by decide), Option.bind_some, e26 1 (by decide)]
      by_cases h1 : Y 26 1 = ad
      · rw [if_neg (show ¬ ¬ Y 26 1 = ad from fun hh => hh h1), if_pos (Or.inr h1)]
      · rw [if_pos h1, if_neg (show ¬ (Y 26 0 = ad ∨ Y 26 1 = ad) from fun hh => hh.elim h h1)]
        unfold f70_b2 f70_b33
        rw [e1, if_pos (by decide)]
theorem sub_of {a b : Nat} (h : b ≤ a) : Int32.ofNat a - Int32.ofNat b = Int32.ofNat (a - b) := by
  have : Int32.ofNat a = Int32.ofNat (a - b) + Int32.ofNat b := by rw [eA]; congr 1; omega
  rw [this]; grind
theorem pr_of (j : Nat) : Int32.ofNat (j + 1) - 1 = Int32.ofNat j := by
  rw [← of_s]; grind
theorem lt_pr {a b : Nat} (ha : a ≤ b) (hb : b ≤ 1000) : Int32.ofNat a - 1 < Int32.ofNat b := by
  rw [Int32.lt_iff_toInt_lt, Int32.toInt_sub, Int32.toInt_ofNat_of_lt (by omega), Int32.toInt_ofNat_of_lt (by omega), show (1 : Int32).toInt = 1 by decide, Int.bmod_eq_of_le (by omega) (by omega)]
  omega
theorem C160_l (hN : 2000 ≤ N) (hI : ∀ j, Inv q j (tr K B j)) (H : CG g K B s kc I) (hs : s ≤ 1000) (hks : kc ≤ s) {ad : Int32} (ha : ¬ ad < 0) : ∀ (n j F : Nat), j + kc = s + n → n < F → j ≤ s → f160_b23 kad N Z F g ad (Int32.ofNat s) (Int32.ofNat j - 1) I = some (.inl (cAt K B ad n j), I) := by
  intro n
  induction n with
  | zero =>
    intro j F hj hF hjs
    obtain ⟨F, rfl⟩ : ∃ G, F = G + 1 := ⟨F - 1, by omega⟩
    unfold f160_b23 cAt
    rw [show I g 5 = Int32.ofNat kc from H.2.1, sub_of hks, if_pos (lt_pr (by omega) (by omega))]
  | succ n ih =>
    intro j F hj hF hjs
    obtain ⟨F, rfl⟩ : ∃ G, F = G + 1 := ⟨F - 1, by omega⟩
    obtain ⟨j, rfl⟩ : ∃ i, j = i + 1 := ⟨j - 1, by omega⟩
    obtain ⟨w, -, hw, -⟩ := (hI j).ud.2.1
    rw [← tr_s] at hw
    have e70 := K70 (kad := kad) (N := N) (Z := Z) hN (H.2.2 j (by omega) (by omega)) hw.1 hw.2.1 ha
    have e167 := K167 (kad := kad) (N := N) (Z := Z) (g := g) (I := I) (s := j) (by omega)
    have hlt : ¬ Int32.ofNat j < Int32.ofNat (s - kc) := fun h => absurd ((of_lt (by omega) (by omega)).mp h) (by omega)
    have e5 : Int32.ofNat s - I g 5 = Int32.ofNat (s - kc) := by rw [show I g 5 = Int32.ofNat kc from H.2.1, sub_of hks]
    have eI : Int32.ofNat j - 1 = Int32.ofNat j + Int32.ofInt (-1) := by rw [show Int32.ofInt (-1) = (-1 : Int32) from rfl]; grind
    have hi := ih j F (by omega) (by omega) (by omega)
    rw [eI] at hi
    rw [pr_of]
    unfold f160_b23 cAt
    rw [e5, if_neg hlt, e167, Option.bind_some]
    dsimp only
    rw [e70, Option.bind_some]
    dsimp only
    by_cases h : n1 (tr K B (j + 1)) = ad ∨ n2 (tr K B (j + 1)) = ad
    · rw [if_pos h, if_neg (show ¬ (1 : Int32) = 0 by decide), if_pos h, show j + 1 - 1 = j from by omega]
    · rw [if_neg h, if_pos rfl, if_neg h, show j + 1 - 1 = j from by omega]
      exact hi
theorem K160_on (hN : 2000 ≤ N) (hG : Gd q K B s kc) (H : CG g K B s kc I) (i : Int32) : f160 kad N Z g i I = some (rx [0] (if i < 0 ∨ 255 < i then 1 else 0) (cAt K B i kc s), I) := by
  unfold f160
  rw [K138, Option.bind_some]
  by_cases hb : i < 0 ∨ 255 < i
  · rw [if_pos hb, if_pos hb]; rfl
  · rw [if_neg hb, if_neg hb]
    unfold xB
    dsimp only
    rw [(H.1.q1 (k := 2)).trans (tr_2 hG.1.2 s), C160_l hN hG.1.1.trj H hG.2.1.2.2 hG.2.1.2.1 (fun h => hb (Or.inl h)) kc s N (by omega) (by have := hG.2.1.1; omega) (Nat.le_refl _)]
    rfl
theorem K160_off (hN : 2000 ≤ N) (H : RM (g + 114) I X) (h2 : X 1 2 = 0) (h5 : I g 5 = 0) (i : Int32) : f160 kad N Z g i I = some (rx [0] (if i < 0 ∨ 255 < i then 1 else 0) (Int32.ofInt (-1)), I) := by
  obtain ⟨F, rfl⟩ : ∃ G, N = G + 1 := ⟨N - 1, by omega⟩
  unfold f160
  rw [K138, Option.bind_some]
  by_cases hb : i < 0 ∨ 255 < i
  · rw [if_pos hb, if_pos hb]; rfl
  · rw [if_neg hb, if_neg hb]
    unfold xB
    dsimp only
    rw [H.q1 (k := 2), h2]
    unfold f160_b23
    rw [h5, if_pos (by decide)]
    rfl
end CA
