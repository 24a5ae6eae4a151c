/-! the source's error, in the model -/
def asJ (m : Nat) (I J : AI) : Prop := ∀ b j, ¬ (b = m ∧ 14 ≤ j ∧ j ≤ 19) → ¬ (m + 3 ≤ b ∧ b ≤ m + 13) → J b j = I b j
section BU
variable {kad : Nat → Nat} {N : Nat} {Z : AZ} {m n p : Nat} {L I J : AI} {FF D : PN} {r : Nat × PN} {ln : Nat → Nat → List Nat → PN → Option (Nat × PN)}
theorem asJ.refl : asJ m I I := fun _ _ _ _ => rfl
theorem asJ.trans {Q : AI} (h : asJ m I J) (h2 : asJ m J Q) : asJ m I Q := fun b j x y => (h2 b j x y).trans (h b j x y)
theorem asJ.g {d : Nat} (h : asG m d I J) : asJ m I J := fun b j x y => h b j x (by omega) (by omega)
theorem asJ.fill {b k : Nat} {v : Int32} (h : m + 3 ≤ b ∧ b ≤ m + 13) : asJ m I (fl I b k v) := fun c j x y => congrFun (fl_b (by omega)) j
theorem asJ.cell {b k : Nat} {v : Int32} (h : m + 3 ≤ b ∧ b ≤ m + 13) : asJ m I (up2 I b k v) := fun c j x y => up2_ne (by omega)
theorem asJ.fld {k : Nat} {v : Int32} (h : 14 ≤ k ∧ k ≤ 19) : asJ m I (up2 I m k v) := fun c j x y => up2_ne (by omega)
theorem MSr.j (H : MSr n m L I) (h : asJ m I J) : MSr n m L J := by
  have e1 : J (m + 1) = I (m + 1) := funext fun j => h _ _ (by omega) (by omega)
  have e2 : J (m + 2) = I (m + 2) := funext fun j => h _ _ (by omega) (by omega)
  exact H.o (h _ _ (by omega) (by omega)) e1 e2
/-- what the model begins a time with -/
def m211 (m : Nat) (J : AI) : AI := fl (up2 (up2 (up2 (up2 (up2 (up2 (up2 (up2 (up2 J m 18 (8 + J (m + 4) 0)) (m + 4) 0 0) (m + 4) 1 0) m 15 0) m 16 0) m 17 0) m 14 0) (m + 7) 0 0) (m + 8) 0 (J m 1)) (m + 5) 5 (Int32.ofInt (-1))
theorem m211_J : asJ m J (m211 m J) := by
  unfold m211
  exact (((((((((asJ.fld (by decide)).trans (asJ.cell (by omega))).trans (asJ.cell (by omega))).trans (asJ.fld (by decide))).trans (asJ.fld (by decide))).trans (asJ.fld (by decide))).trans (asJ.fld (by decide))).trans (asJ.cell (by omega))).trans (asJ.cell (by omega))).trans (asJ.fill (by omega))
theorem m211_o {c : Nat} (h0 : ¬ c = m) (h : ¬ c = m + 4 ∧ ¬ c = m + 5 ∧ ¬ c = m + 7 ∧ ¬ c = m + 8) : m211 m J c = J c := by
  obtain ⟨h4, h5, h7, h8⟩ := h
  unfold m211
  rw [fl_b h5, up2_b h8, up2_b h7, up2_b h0, up2_b h0, up2_b h0, up2_b h0, up2_b h4, up2_b h4, up2_b h0]
theorem m211_m (HM : J m 1 = Int32.ofNat n) : (m211 m J m 14 = 0 ∧ m211 m J m 15 = 0 ∧ m211 m J m 16 = 0 ∧ m211 m J m 17 = 0 ∧ m211 m J m 18 = 8 + J (m + 4) 0) ∧ (m211 m J (m + 4) 0 = 0 ∧ m211 m J (m + 4) 1 = 0) ∧ (∀ q, q < 5 → m211 m J (m + 5) q = Int32.ofInt (-1)) ∧ m211 m J (m + 7) 0 = 0 ∧ m211 m J (m + 8) 0 = Int32.ofNat n := by
  unfold m211
  refine ⟨⟨?_, ?_, ?_, ?_, ?_⟩, ⟨?_, ?_⟩, fun q hq => fl_at hq, ?_, ?_⟩
  · rw [fl_b (by omega), up2_b (by omega), up2_b (by omega), up2_eq]
  · rw [fl_b (by omega), up2_b (by omega), up2_b (by omega), up2_ne (by omega), up2_ne (by omega), up2_ne (by omega), up2_eq]
  · rw [fl_b (by omega), up2_b (by omega), up2_b (by omega), up2_ne (by omega), up2_ne (by omega), up2_eq]
  · rw [fl_b (by omega), up2_b (by omega), up2_b (by omega), up2_ne (by omega), up2_eq]
  · rw [fl_b (by omega), up2_b (by omega), up2_b (by omega), up2_ne (by omega), up2_ne (by omega), up2_ne (by omega), up2_ne (by omega), up2_b (by omega), up2_b (by omega), up2_eq]
  · rw [fl_b (by omega), up2_b (by omega), up2_b (by omega), up2_b (by omega), up2_b (by omega), up2_b (by omega), up2_b (by omega), up2_ne (by omega), up2_eq]
  · rw [fl_b (by omega), up2_b (by omega), up2_b (by omega), up2_b (by omega), up2_b (by omega), up2_b (by omega), up2_b (by omega), up2_eq]
  · rw [fl_b (by omega), up2_b (by omega), up2_eq]
  · rw [fl_b (by omega), up2_eq, HM]
theorem asT.beg {C : PN} (HM : J m 1 = Int32.ofNat n) (hC : (∀ k, C 0 k = 0) ∧ C 1 0 = 0 ∧ C 1 1 = 0 ∧ (∀ q, C 2 q = 0)) (h8 : p = 1 → 8 + J (m + 4) 0 = Int32.ofNat (C 8 0)) (hl : ∀ s, s < 1220 → (C 4 s = 0 → J (m + 3) s = Int32.ofInt (-1)) ∧ (¬ C 4 s = 0 → J (m + 3) s = Int32.ofNat (1000 * C 11 s + (C 4 s - 1)))) (hb : ∀ q, q < 256 → J (m + 13) q = Int32.ofNat (C 7 q)) : asT m p 0 n 0 [] C (m211 m J) := by
  obtain ⟨⟨a1, a2, a3, a4, a5⟩, ⟨b1, b2⟩, c, d1, d2⟩ := m211_m HM
  obtain ⟨c0, c1, c2, c3⟩ := hC
  refine ⟨⟨⟨by rw [a2, c0]; rfl, by rw [a3, c0]; rfl, by rw [a4, c0]; rfl, fun h => by rw [a5]; exact h8 h⟩, fun q hq => ?_, fun q hq => ⟨fun _ => c q hq, fun h => absurd (c3 q) h⟩, fun s hs => ?_, fun q hq => ?_⟩, ⟨a1, d1, d2⟩, ⟨fun _ => rfl, fun h => absurd h (by decide)⟩, fun j hj => absurd hj (Nat.not_lt_zero _)⟩
  · have : q = 0 ∨ q = 1 := by omega
    rcases this with h | h
    · rw [h, b1, c1]; rfl
    · rw [h, b2, c2]; rfl
  · rw [m211_o (by omega) (by omega)]; exact hl s hs
  · rw [m211_o (by omega) (by omega)]; exact hb q hq
end BU
