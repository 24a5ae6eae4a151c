/-! the model goes through a line: what its helpers do -/
section AP
variable {kad : Nat → Nat} {N : Nat} {Z : AZ} {m n p i e use : Nat} {st : List Nat} {C : PN} {L J : AI} {k x : Int32}
theorem eSb {a b : Nat} (h : b ≤ a) : Int32.ofNat a - Int32.ofNat b = Int32.ofNat (a - b) := by
  have e := eA (a - b) b
  rw [Nat.sub_add_cancel h] at e
  rw [← e]
  exact Int32.add_sub_cancel _ _
theorem M14 (H : asT m p i e use st C J) (h5 : st.length ≤ 5) : ixA 6 (J m 14) = some st.length := by
  rw [H.2.1.1]
  exact ixA_of (by omega)
theorem M14_0 (H : asT m p i e use st C J) (h5 : st.length ≤ 5) : J m 14 = 0 ↔ st.length = 0 := by
  rw [H.2.1.1]
  exact of_inj (n := 0) (by omega) (by decide)
theorem use0 (H : asT m p i e use st C J) : use = 0 ↔ st.length = 0 := by
  obtain ⟨-, -, ⟨c1, c2⟩, -⟩ := H
  constructor
  · intro h
    by_cases h2 : st.length = 0
    · exact h2
    · have := (c2 (by omega)).1
      omega
  · exact c1
theorem ml2 (HM : MSr n m L J) (hi : i < n) (hn : n ≤ 100) : ixA 500 ((5 : Int32) * Int32.ofNat i) = some (5 * i) := by
  rw [show (5 : Int32) = Int32.ofNat 5 from rfl, eM]
  exact ixA_of (by omega)
theorem mm1 {q : Nat} (H : asM m p C J) (hq : q < 5) (hb : C 2 q ≤ 100) : J (m + 5) q = Int32.ofInt (-1) ↔ C 2 q = 0 := by
  obtain ⟨h1, h2⟩ := H.2.2.1 q hq
  constructor
  · intro h
    by_cases hz : C 2 q = 0
    · exact hz
    · rw [(h2 hz).1] at h
      exact absurd h (m1_ne (by omega))
  · exact h1
/-- only what is wrong is noted -/
def as19 (m : Nat) (I J : AI) : Prop := ∀ b j, ¬ (b = m ∧ j = 19) → J b j = I b j
theorem as19.up {I : AI} {v : Int32} : as19 m I (up2 I m 19 v) := fun b j h => up2_ne h
theorem as19.trans {I Q : AI} (h : as19 m I J) (h2 : as19 m J Q) : as19 m I Q := fun b j h3 => (h2 b j h3).trans (h b j h3)
theorem as19.g {I : AI} {d : Nat} (h : as19 m I J) : asG m d I J := fun b j h1 h2 h3 => h b j (by omega)
theorem as19.b {I : AI} {b : Nat} (h : as19 m I J) (hb : ¬ b = m) : J b = I b := funext fun j => h b j (by omega)
theorem asM.n19 {I : AI} (H : asM m p C I) (h : as19 m I J) : asM m p C J := by
  unfold asM
  rw [h m 15 (by omega), h m 16 (by omega), h m 17 (by omega), h m 18 (by omega), h.b (b := m + 4) (by omega), h.b (b := m + 5) (by omega), h.b (b := m + 6) (by omega), h.b (b := m + 3) (by omega), h.b (b := m + 13) (by omega)]
  exact H
theorem asT.n19 {I : AI} (H : asT m p i e use st C I) (h : as19 m I J) : asT m p i e use st C J := H.up (H.1.n19 h) (h m 14 (by omega)) (fun b h1 h2 => h.b (by omega)) ⟨rfl, rfl⟩
end AP
