/-! all tests, one after another, in both -/
def tRes (T : AI) (t : Nat) (v : Int32) : AI := up2 (up2 T 7 t v) 8 t (if T 8 t = 0 then (if v = 0 then 1 else 0) else 1)
def frCS (g : Nat) (I J : AI) : Prop := ∀ b, ¬ (g + 143 ≤ b ∧ b < g + 178) → ¬ (g + 1982 ≤ b ∧ b < g + 1997) → J b = I b
def frU2 (m : Nat) (I J : AI) : Prop := ∀ b j, ¬ TW m b j → ¬ (b = m ∧ j = 43) → ¬ b = m + 18 → ¬ b = m + 19 → ¬ b = m + 38 → ¬ b = m + 39 → J b j = I b j
section SB
variable {kad : Nat → Nat} {N : Nat} {Z : AZ} {g m n t : Nat} {I J T X : AI} {v w : Int32} {M : Nat → Int32}
theorem res_o {q : Nat} (h7 : ¬ q = 7) (h8 : ¬ q = 8) : tRes T t v q = T q := by unfold tRes; rw [up2_b h8, up2_b h7]
theorem res_7 {k : Nat} : tRes T t v 7 k = if k = t then v else T 7 k := by
  unfold tRes
  rw [up2_b (by decide)]
  by_cases h : k = t
  · rw [if_pos h, h, up2_eq]
  · rw [if_neg h, up2_ne (fun hh => h hh.2)]
theorem res_8 {k : Nat} : tRes T t v 8 k = if k = t then (if T 8 t = 0 then (if v = 0 then 1 else 0) else 1) else T 8 k := by
  unfold tRes
  by_cases h : k = t
  · rw [if_pos h, h, up2_eq]
  · rw [if_neg h, up2_ne (fun hh => h hh.2), up2_b (by decide)]
theorem upto_m1 {k : Nat} (h : upto k v) (hk : k < 2147483648) : ¬ v = Int32.ofInt (-1) := by
  obtain ⟨p, e, hp⟩ := h
  rw [e]
  intro hh
  have : ¬ Int32.ofNat p < 0 := of_nn (by omega)
  rw [hh] at this
  exact this (by decide)
theorem TI.res (hT : TI n T) (ht : t < n) (hv : upto 5 v) : TI n (tRes T t v) := by
  obtain ⟨a, b, c, d⟩ := hT
  refine ⟨by rw [res_o (by decide) (by decide)]; exact a, by rw [res_o (by decide) (by decide)]; exact b, fun k hk => by rw [res_o (by decide) (by decide), res_o (by decide) (by decide)]; exact c k hk, fun u hu => ?_⟩
  obtain ⟨d1, d2, ⟨d3, d4, d5, d6⟩, d7⟩ := d u hu
  unfold TIt
  rw [res_o (q := 1) (by decide) (by decide), res_o (q := 2) (by decide) (by decide), res_o (q := 3) (by decide) (by decide), res_o (q := 4) (by decide) (by decide), res_o (q := 5) (by decide) (by decide), res_o (q := 6) (by decide) (by decide), res_o (q := 10 + u) (by omega) (by omega), res_o (q := 20 + u) (by omega) (by omega), res_7, res_8]
  by_cases h : u = t
  · rw [if_pos h, if_pos h]
    refine ⟨d1, d2, ⟨Or.inr hv, ?_, fun hh => absurd hh (upto_m1 hv (by decide)), fun hh => by omega⟩, d7⟩
    split
    · split
      · exact Or.inr rfl
      · exact Or.inl rfl
    · exact Or.inr rfl
  · rw [if_neg h, if_neg h]
    exact ⟨d1, d2, ⟨d3, d4, d5, d6⟩, d7⟩
theorem CT.res {I' : AI} (H : CT g T I) (ht : t < 5) (h : tDone (g + 143) (g + 169) (g + (1982 + 3 * t)) t T I v I') : CT g (tRes T t v) I' := by
  obtain ⟨⟨d1, d2⟩, d3, d4⟩ := h
  refine ⟨?_, fun k hk => ?_, fun u hu => ?_⟩
  · rw [d4 g (by omega) (by omega) (by omega), d4 (g + 178) (by omega) (by omega) (by omega), res_o (by decide) (by decide)]
    exact H.1
  · rw [d4 _ (by omega) (by omega) (by omega), d4 _ (by omega) (by omega) (by omega), res_o (by decide) (by decide), res_o (by decide) (by decide)]
    exact H.2.1 k hk
  · obtain ⟨⟨a1, a2, a3, a4⟩, ⟨b1, b2, b3, b4⟩, c⟩ := H.2.2 u hu
    unfold CTt
    rw [res_o (q := 1) (by decide) (by decide), res_o (q := 2) (by decide) (by decide), res_o (q := 3) (by decide) (by decide), res_o (q := 4) (by decide) (by decide), res_o (q := 5) (by decide) (by decide), res_o (q := 6) (by decide) (by decide), res_o (q := 10 + u) (by omega) (by omega), res_o (q := 20 + u) (by omega) (by omega), res_7, res_8]
    by_cases hu2 : u = t
    · rw [if_pos hu2, if_pos hu2]
      subst hu2
      rw [d4 (g + (1982 + 3 * u) + 1) (by omega) (by omega) (by omega), d4 (g + (1982 + 3 * u) + 2) (by omega) (by omega) (by omega), d3 0 (by decide) (by decide), d3 1 (by decide) (by decide), d3 5 (by decide) (by decide), d3 6 (by decide) (by decide), d3 7 (by decide) (by decide), d3 8 (by decide) (by decide)]
      exact ⟨⟨a1, a2, d1, d2⟩, ⟨b1, b2, b3, b4⟩, c⟩
    · rw [if_neg hu2, if_neg hu2, d4 (g + (1982 + 3 * u)) (by omega) (by omega) (by omega), d4 (g + (1982 + 3 * u) + 1) (by omega) (by omega) (by omega), d4 (g + (1982 + 3 * u) + 2) (by omega) (by omega) (by omega)]
      exact ⟨⟨a1, a2, a3, a4⟩, ⟨b1, b2, b3, b4⟩, c⟩
theorem frU2.rfl' : frU2 m I I := fun _ _ _ _ _ _ _ _ => rfl
theorem frU2.trans {Q : AI} (h : frU2 m I J) (h2 : frU2 m J Q) : frU2 m I Q := fun b j b1 b2 b3 b4 b5 b6 => (h2 b j b1 b2 b3 b4 b5 b6).trans (h b j b1 b2 b3 b4 b5 b6)
theorem frU2.row (h : frU2 m I J) {k : Nat} : J (m + 14) k = I (m + 14) k := h _ _ (nTW28 (Or.inr rfl)) (by omega) (by omega) (by omega) (by omega) (by omega)
theorem frCS.trans {Q : AI} (h : frCS g I J) (h2 : frCS g J Q) : frCS g I Q := fun b b1 b2 => (h2 b b1 b2).trans (h b b1 b2)
/-- the model writes a result down -/
theorem MT.res {J' : AI} (hn : T 9 0 = Int32.ofNat n) (htn : t < n) (hn5 : n ≤ 5) (H : MT m T J) (h : frU m J J') : MT m (tRes T t v) (up2 (up2 J' (m + 38) t v) (m + 39) t (if T 8 t = 0 then (if v = 0 then 1 else 0) else 1)) ∧ frU2 m J (up2 (up2 J' (m + 38) t v) (m + 39) t (if T 8 t = 0 then (if v = 0 then 1 else 0) else 1)) := by
  have hm : ∀ j, j = 58 ∨ j = 59 ∨ j = 60 → J' m j = J m j := fun j hj => h m j (fun hh => by
    rcases hh with hh | hh
    · have := hh.2; omega
    · rcases hh with h | h | h | h | h | h | h | h | h <;> omega) (by omega) (by omega) (by omega)
  have hr : ∀ b k, m + 28 ≤ b → b ≤ m + 39 → J' b k = J b k := fun b k b1 b2 => h b k (nTW28 (Or.inl (by omega))) (by omega) (by omega) (by omega)
  generalize hX : (if T 8 t = 0 then (if v = 0 then (1 : Int32) else 0) else 1) = x
  have o : ∀ b, ¬ b = m + 38 → ¬ b = m + 39 → up2 (up2 J' (m + 38) t v) (m + 39) t x b = J' b := fun b b1 b2 => by rw [up2_b b2, up2_b b1]
  refine ⟨⟨⟨?_, ?_, ?_⟩, fun k hk => ⟨?_, ?_⟩, fun u hu => ?_⟩, fun b j b1 b2 b3 b4 b5 b6 => ?_⟩
  · rw [o m (by omega) (by omega), hm 60 (by omega), res_o (by decide) (by decide)]; exact H.1.1
  · rw [o m (by omega) (by omega), hm 58 (by omega), res_o (by decide) (by decide)]; exact H.1.2.1
  · rw [o m (by omega) (by omega), hm 59 (by omega), res_o (by decide) (by decide)]; exact H.1.2.2
  · rw [o _ (by omega) (by omega), hr _ _ (by omega) (by omega), res_o (by decide) (by decide)]; exact (H.2.1 k hk).1
  · rw [o _ (by omega) (by omega), hr _ _ (by omega) (by omega), res_o (by decide) (by decide)]; exact (H.2.1 k hk).2
  · obtain ⟨⟨a1, a2, a3, a4⟩, ⟨b1, b2, b3, b4⟩, c⟩ := H.2.2 u hu
    unfold MTt
    rw [res_o (q := 1) (by decide) (by decide), res_o (q := 2) (by decide) (by decide), res_o (q := 3) (by decide) (by decide), res_o (q := 4) (by decide) (by decide), res_o (q := 5) (by decide) (by decide), res_o (q := 6) (by decide) (by decide), res_o (q := 9) (by decide) (by decide), res_o (q := 10 + u) (by omega) (by omega), res_o (q := 20 + u) (by omega) (by omega), res_7, res_8]
    rw [o (m + 31) (by omega) (by omega), o (m + 33) (by omega) (by omega), o (m + 34) (by omega) (by omega), o (m + 35) (by omega) (by omega), o (m + 36) (by omega) (by omega), o (m + 37) (by omega) (by omega), o (m + 30) (by omega) (by omega), o (m + 32) (by omega) (by omega)]
    refine ⟨⟨(hr _ _ (by omega) (by omega)).trans a1, (hr _ _ (by omega) (by omega)).trans a2, fun hh => ?_, ?_⟩, ⟨(hr _ _ (by omega) (by omega)).trans b1, (hr _ _ (by omega) (by omega)).trans b2, (hr _ _ (by omega) (by omega)).trans b3, (hr _ _ (by omega) (by omega)).trans b4⟩, fun k hk => ⟨(hr _ _ (by omega) (by omega)).trans (c k hk).1, (hr _ _ (by omega) (by omega)).trans (c k hk).2⟩⟩
    · rw [up2_b (by omega)]
      by_cases hu2 : u = t
      · rw [if_pos hu2, hu2, up2_eq]
      · rw [if_neg hu2, up2_ne (fun q => hu2 q.2), hr _ _ (by omega) (by omega)]; exact a3 hh
    · by_cases hu2 : u = t
      · rw [if_pos hu2, hu2, up2_eq, hX]
      · rw [if_neg hu2, up2_ne (fun q => hu2 q.2), up2_b (by omega), hr _ _ (by omega) (by omega)]; exact a4
  · rw [o b b5 b6, h b j b1 b2 b3 b4]
end SB
