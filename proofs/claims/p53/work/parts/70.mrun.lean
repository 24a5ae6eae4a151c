/-! the model makes steps -/
def TX (m b j : Nat) : Prop := TW m b j ∨ (b = m ∧ (j = 40 ∨ j = 43 ∨ j = 55)) ∨ (b = m + 18 ∨ b = m + 19 ∨ b = m + 26 ∨ b = m + 27)
def TXs (m b j : Nat) : Prop := TW m b j ∨ (b = m ∧ (j = 40 ∨ j = 43)) ∨ (b = m + 18 ∨ b = m + 19)
theorem TXs.x {m b j : Nat} (h : ¬ TX m b j) : ¬ TXs m b j := fun hh => h (by
  rcases hh with hh | hh | hh
  · exact Or.inl hh
  · exact Or.inr (Or.inl ⟨hh.1, by omega⟩)
  · exact Or.inr (Or.inr (by omega)))
def frM (m : Nat) (I J : AI) : Prop := ∀ b j, ¬ TXs m b j → J b j = I b j
def frMX (m : Nat) (I J : AI) : Prop := ∀ b j, ¬ TX m b j → J b j = I b j
theorem frM.x {m : Nat} {I J : AI} (h : frM m I J) : frMX m I J := fun b j hb => h b j (TXs.x hb)
theorem frM.rfl' {m : Nat} {I : AI} : frM m I I := fun _ _ _ => rfl
theorem frM.trans {m : Nat} {I J Q : AI} (h : frM m I J) (h2 : frM m J Q) : frM m I Q := fun b j hb => (h2 b j hb).trans (h b j hb)
/-- a machine that is on, in the model -/
def MG (m : Nat) (K B : AI) (s kc : Nat) (I : AI) : Prop := ML m I (tr K B s) ∧ MNo m K B s I ∧ I m 40 = Int32.ofNat kc
/-- a field of the model that no machine's word lies in -/
def mO (j : Nat) : Prop := j = 0 ∨ j = 40 ∨ j = 55
section MU
variable {kad : Nat → Nat} {N : Nat} {Z : AZ} {m q s kc : Nat} {I : AI} {K B : AI}
theorem frM.w {j : Nat} {v : Int32} {J : AI} (hj : j = 40) (h : frM m (up2 I m j v) J) : frM m I J := fun b i hb => by
  rw [h b i hb]
  exact up2_ne (fun hh => hb (Or.inr (Or.inl ⟨hh.1, Or.inl (hh.2.trans hj)⟩)))
/-- what is thrown is told before -/
theorem TX_0 : ¬ TX m m 0 := by
  intro h
  rcases h with h | h | h
  · rcases h with h | h
    · have := h.2; omega
    · rcases h with h | h | h | h | h | h | h | h | h <;> omega
  · have := h.2; omega
  · rcases h with h | h | h | h <;> omega
theorem frM.th {J : AI} {v : Int32} (h : frM m (up2 I m 0 v) J) : J m 0 = v := by
  rw [h m 0 (TXs.x TX_0), up2_eq]
theorem ML.o {X : AI} {j : Nat} {v : Int32} (H : ML m I X) (hj : mO j) : ML m (up2 I m j v) X := by
  have key : ∀ b i, (b = m → ¬ i = 0 ∧ ¬ i = 40 ∧ ¬ i = 55) → up2 I m j v b i = I b i := fun b i h => up2_ne (fun hh => by
    obtain ⟨h1, h2, h3⟩ := h hh.1
    rcases hj with e | e | e <;> omega)
  refine ⟨fun c k hc hr => ?_, ?_, fun h => ?_⟩
  · rw [key _ _ (fun hm => ?_)]
    · exact H.1 c k hc hr
    · unfold mC at hc
      rcases hc with rfl | rfl | rfl | rfl | rfl | rfl | rfl | rfl | rfl | rfl | rfl | rfl
      · have t := mF_set (k := k) hr
        show ¬ mF k = 0 ∧ ¬ mF k = 40 ∧ ¬ mF k = 55
        omega
      · simp only [mA] at hm; omega
      · simp only [mA] at hm; omega
      · simp only [mA] at hm; omega
      · simp only [mA] at hm; omega
      · simp only [mA] at hm; omega
      · show ¬ (52 : Nat) = 0 ∧ ¬ (52 : Nat) = 40 ∧ ¬ (52 : Nat) = 55
        decide
      · simp only [mA] at hm; omega
      · show ¬ (43 : Nat) = 0 ∧ ¬ (43 : Nat) = 40 ∧ ¬ (43 : Nat) = 55
        decide
      · simp only [mA] at hm; omega
      · simp only [mA] at hm; omega
      · simp only [mA] at hm; omega
  · rw [key m 46 (fun _ => ⟨by decide, by decide, by decide⟩)]; exact H.2.1
  · rw [key m 47 (fun _ => ⟨by decide, by decide, by decide⟩)]; exact H.2.2 h
theorem MNo.o {j : Nat} {v : Int32} (H : MNo m K B s I) : MNo m K B s (up2 I m j v) := fun i hi => by
  rw [up2_b (by omega), up2_b (by omega)]
  exact H i hi
theorem MG.o0 {v : Int32} (H : MG m K B s kc I) : MG m K B s kc (up2 I m 0 v) := ⟨H.1.o (Or.inl rfl), H.2.1.o, by rw [up2_ne (by omega)]; exact H.2.2⟩
theorem TX.tw {b j : Nat} (h : ¬ TX m b j) : ¬ TW m b j := fun hh => h (Or.inl hh)
theorem TXs.tw {b j : Nat} (h : ¬ TXs m b j) : ¬ TW m b j := fun hh => h (Or.inl hh)
theorem wd_m1 {x : Int32} (h : wd x) : ¬ x = Int32.ofInt (-1) := fun hh => wd_nn h (by rw [hh]; decide)
end MU
