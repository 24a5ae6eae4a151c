/-! the model goes through a line the first time, and the second -/
section AR
variable {kad : Nat → Nat} {N : Nat} {Z : AZ} {m n p i e use : Nat} {st : List Nat} {C : PN} {L J : AI} {r : Nat × PN}
theorem MSr.k (HM : MSr n m L J) (hi : i < n) : J (m + 1) i = L 1 i := (HM.2 i hi).1
theorem e100 (a : Nat) : (100 : Int32) + Int32.ofNat a = Int32.ofNat (100 + a) := eA 100 a
theorem e400 (a : Nat) : (400 : Int32) + Int32.ofNat a = Int32.ofNat (400 + a) := eA 400 a
theorem e500 (a : Nat) : (500 : Int32) + Int32.ofNat a = Int32.ofNat (500 + a) := eA 500 a
theorem len5 (H : asC n L p i e use st C) : st.length ≤ 5 := pig 5 st H.2.2.2.1 H.2.2.2.2
theorem use3 (H : asC n L p i e use st C) : use ≤ 300 := by
  have := H.2.2.1.1
  have := H.2.1.1.2.1
  have := H.2.1.1.2.2.1
  omega
theorem un5 {b v : Nat} : un C 0 b v 5 = C 5 ∧ un C 0 b v 6 = C 6 := ⟨un_b (by decide), un_b (by decide)⟩
theorem asT.mac (T : asT m p (i + 1) e use st C J) (hi : ¬ i + 1 = 0) {a x : Nat} : asT m p (x + 1) e use st (un (un C 2 a (i + 1)) 3 a x) (up2 (up2 (up2 J (m + 5) a (Int32.ofNat (i + 1))) (m + 6) a (Int32.ofNat x)) (m + 7) st.length (Int32.ofNat (x + 1))) ∧ asG m st.length J (up2 (up2 (up2 J (m + 5) a (Int32.ofNat (i + 1))) (m + 6) a (Int32.ofNat x)) (m + 7) st.length (Int32.ofNat (x + 1))) := by
  have M1 := T.1.mc (w := a) (x := x) hi
  obtain ⟨J1, hJ1⟩ : ∃ J1, J1 = up2 (up2 J (m + 5) a (Int32.ofNat (i + 1))) (m + 6) a (Int32.ofNat x) := ⟨_, rfl⟩
  rw [← hJ1] at M1 ⊢
  have r1 : ∀ c, ¬ c = m + 5 → ¬ c = m + 6 → J1 c = J c := fun c h h2 => by rw [hJ1, up2_b h2, up2_b h]
  obtain ⟨-, ⟨b1, b2, b3⟩, c1, d1⟩ := T
  constructor
  · refine ⟨M1.ob (by omega), ⟨?_, ?_, ?_⟩, ?_, ?_⟩
    · rw [up2_b (by omega), r1 m (by omega) (by omega)]; exact b1
    · exact up2_eq
    · rw [up2_b (by omega), r1 _ (by omega) (by omega)]; exact b3
    · rw [up2_b (by omega), up2_b (by omega), up2_b (by omega), r1 _ (by omega) (by omega), r1 _ (by omega) (by omega), r1 _ (by omega) (by omega)]
      exact c1
    · unfold asSK
      rw [up2_b (by omega), r1 _ (by omega) (by omega)]
      exact d1
  · rw [hJ1]
    exact ((asG.up (by omega)).trans (asG.up (by omega)) (Nat.le_refl _)).trans (asG.ups (by omega) (Nat.le_refl _)) (Nat.le_refl _)
theorem ml8 (HM : MSr n m L J) (hi : i < n) (h8 : L 1 i = 8) : J (m + 2) (5 * i) = L 3 i ∧ J (m + 2) (5 * i + 1) = L 4 i ∧ J (m + 2) (5 * i + 2) = L 5 i ∧ J (m + 2) (5 * i + 3) = L 6 i ∧ J (m + 2) (5 * i + 4) = L 2 i := by
  obtain ⟨-, -, l3, -, l5⟩ := HM.2 i hi
  obtain ⟨a1, a2⟩ := l3 (Or.inr (Or.inr (Or.inr h8)))
  exact ⟨a1, a2, l5 h8⟩
theorem m5k (hn : n ≤ 100) (hi : i < n) {w : Nat} (hw : w < 5) : ixA 500 ((5 : Int32) * Int32.ofNat i + Int32.ofNat w) = some (5 * i + w) := by
  rw [show (5 : Int32) = Int32.ofNat 5 from rfl, eM, eA]
  exact ixA_of (by omega)
end AR
