/-! keys, time and tape -/
section CL2
variable {kad : Nat → Nat} {N : Nat} {e : Nat} {Z : AZ} {a κ : Nat} {I0 I X : AI}
theorem C75_l (H : RC e Z a κ I0 I X) (s : Int32) : ∀ (n i F : Nat), i + n = 20 → n < F → Ok (f75_b2 kad N Z F (a + 10) s (Int32.ofNat i) I) (fun v J => v = Int32.ofNat (sCome X s (n + 1) i) ∧ RC e Z a κ I0 J X) := by
  intro n
  induction n with
  | zero =>
    intro i F hi hF
    obtain ⟨F, rfl⟩ : ∃ G, F = G + 1 := ⟨F - 1, by omega⟩
    unfold f75_b2 f75_b32 sCome
    rw [H.rd (c := 10) (k := 0)]
    split
    · exact Ok.ret ⟨rfl, H⟩
    · rw [if_pos (show (20 : Int32) ≤ Int32.ofNat i from (of_le (m := 20) (by decide) (by omega)).mpr (by omega)), if_pos (by omega)]
      exact Ok.ret ⟨rfl, H⟩
  | succ n ih =>
    intro i F hi hF
    obtain ⟨F, rfl⟩ : ∃ G, F = G + 1 := ⟨F - 1, by omega⟩
    unfold f75_b2 f75_b32 sCome
    rw [H.rd (c := 10) (k := 0)]
    split
    · exact Ok.ret ⟨rfl, H⟩
    · rename_i h0
      have e1 : nT (Int32.ofNat i) = i := nT_of (by omega)
      rw [if_neg (show ¬ (20 : Int32) ≤ Int32.ofNat i from fun h => absurd ((of_le (m := 20) (by decide) (by omega)).mp h) (by omega)), if_neg (by omega)]
      refine Ok.ix (of_nn (by omega)) (by rw [e1]; omega) ?_
      rw [e1, show I (a + 10 + 2) i = X 12 i from H.rd (c := 12) (by decide) ⟨lt_nT (by omega) h0, by omega⟩, of_s]
      split
      · exact Ok.ret ⟨rfl, H⟩
      · exact ih (i + 1) F (by omega) (by omega)
theorem C75 (hN : 2000 ≤ N) (H : RC e Z a κ I0 I X) (s : Int32) : Ok (f75 kad N Z (a + 10) s I) (fun v J => v = Int32.ofNat (sCome X s 21 0) ∧ RC e Z a κ I0 J X) := C75_l H s 20 0 N rfl (by omega)
theorem C76_l (H : RC e Z a κ I0 I X) (s : Int32) : ∀ (n i F : Nat), i + n = 20 → n < F → Ok (f76_b2 kad N Z F (a + 10) s (Int32.ofNat i) I) (fun v J => v = (if sTold X s (n + 1) i = true then 1 else 0) ∧ RC e Z a κ I0 J X) := by
  intro n
  induction n with
  | zero =>
    intro i F hi hF
    obtain ⟨F, rfl⟩ : ∃ G, F = G + 1 := ⟨F - 1, by omega⟩
    unfold f76_b2 f76_b34 sTold
    rw [H.rd (c := 10) (k := 0)]
    split
    · exact Ok.ret ⟨rfl, H⟩
    · rw [if_pos (show (20 : Int32) ≤ Int32.ofNat i from (of_le (m := 20) (by decide) (by omega)).mpr (by omega)), if_pos (show 20 ≤ i by omega)]
      exact Ok.ret ⟨rfl, H⟩
  | succ n ih =>
    intro i F hi hF
    obtain ⟨F, rfl⟩ : ∃ G, F = G + 1 := ⟨F - 1, by omega⟩
    unfold f76_b2 f76_b34 sTold
    rw [H.rd (c := 10) (k := 0)]
    split
    · exact Ok.ret ⟨rfl, H⟩
    · rename_i h0
      have e1 : nT (Int32.ofNat i) = i := nT_of (by omega)
      rw [if_neg (show ¬ (20 : Int32) ≤ Int32.ofNat i from fun h => absurd ((of_le (m := 20) (by decide) (by omega)).mp h) (by omega)), if_neg (show ¬ 20 ≤ i by omega)]
      refine Ok.ix (of_nn (by omega)) (by rw [e1]; omega) ?_
      rw [e1, show I (a + 10 + 2) i = X 12 i from H.rd (c := 12) (by decide) ⟨lt_nT (by omega) h0, by omega⟩, of_s]
      by_cases hx : X 12 i = s
      · rw [if_neg (fun h => h hx), if_pos hx]
        exact Ok.ret ⟨rfl, H⟩
      · rw [if_pos hx, if_neg hx]
        exact ih (i + 1) F (by omega) (by omega)
theorem C76 (hN : 2000 ≤ N) (H : RC e Z a κ I0 I X) (s : Int32) : Ok (f76 kad N Z (a + 10) s I) (fun v J => v = (if sTold X s 21 0 = true then 1 else 0) ∧ RC e Z a κ I0 J X) := C76_l H s 20 0 N rfl (by omega)
theorem C85 (hN : 2000 ≤ N) (H : RC e Z a κ I0 I X) : Ok (f85 kad N Z a I) (fun _ J => RC e Z a κ I0 J (sKeys X)) := by
  unfold f85 f85_b25 sKeys
  rw [H.rd (c := 1) (k := 2)]
  refine (C76 hN H _).bind fun v J ⟨hv, HJ⟩ => ?_
  subst hv
  dsimp only
  by_cases h : sTold X (X 1 2) 21 0 = true
  · simp only [if_pos h]
    rw [if_neg z10]
    exact Ok.w (Ok.ret HJ.up)
  · simp only [if_neg h]
    rw [if_pos trivial]
    exact Ok.ret HJ
theorem C86 (H : RC e Z a κ I0 I X) : Ok (f86 kad N Z a I) (fun _ J => RC e Z a κ I0 J (sTime X)) := by
  unfold f86 f86_b56 sTime
  rw [H.rd (c := 1) (k := 10)]
  by_cases h : X 1 10 ≤ 0
  · rw [if_pos h, if_pos h]
    exact Ok.ret H
  · rw [if_neg h, if_neg h]
    refine Ok.w ?_
    rw [H.rd (c := 1) (k := 11)]
    have HJ := H.up (c := 1) (k := 11) (v := X 1 11 + 1)
    dsimp only
    rw [HJ.rd (c := 1) (k := 11), HJ.rd (c := 1) (k := 10)]
    by_cases h2 : up2 X 1 11 (X 1 11 + 1) 1 11 = up2 X 1 11 (X 1 11 + 1) 1 10
    · rw [if_neg (fun hh => hh h2), if_pos h2]
      exact Ok.w (Ok.w (Ok.ret HJ.up.up))
    · rw [if_pos h2, if_neg h2]
      exact Ok.ret HJ
theorem C77 (H : RC e Z a κ I0 I X) (i : Int32) (hi : i < 0 ∨ nT i < nT (X 10 0)) : Ok (f77 kad N Z (a + 10) i I) (fun v J => v = sKeyV X i ∧ RC e Z a κ I0 J X) := by
  unfold f77 sKeyV f77_b19 f77_b20
  split
  · exact Ok.ret ⟨rfl, H⟩
  · rename_i h0
    split
    · exact Ok.ret ⟨rfl, H⟩
    · rename_i h1
      have hb := nT_b (n := 20) h0 h1
      exact Ok.ix h0 hb (Ok.ret ⟨H.rd (c := 11) (by decide) ⟨hi.resolve_left h0, hb⟩, H⟩)
theorem sCome_le (X : AI) (s : Int32) : ∀ (n i : Nat), i + n ≤ 21 → sCome X s n i ≤ i ∨ sCome X s n i ≤ nT (X 10 0) ∧ sCome X s n i ≤ 20 := by
  intro n
  induction n with
  | zero => intro i _; exact Or.inl (Nat.le_refl _)
  | succ n ih =>
    intro i hi
    unfold sCome
    split
    · exact Or.inl (Nat.le_refl _)
    · rename_i h0
      split
      · exact Or.inl (Nat.le_refl _)
      · split
        · exact Or.inl (Nat.le_refl _)
        · have h1 := lt_nT (by omega) h0
          rcases ih (i + 1) (by omega) with h | h
          · right
            omega
          · exact Or.inr h
theorem C106 (hN : 2000 ≤ N) (H : RC e Z a κ I0 I X) (d : Int32) : Ok ((f106 kad N Z a I).bind fun r => (f99 kad N Z a d r.1 r.2).bind fun r => (f88 kad N Z a r.2).bind fun r => some ((), r.2)) (fun _ J => RC e Z a κ I0 J (sKey d X)) := by
  unfold f106 sKey
  have hc := sCome_le X (X 1 2) 21 0 (by omega)
  have tail : ∀ (w : Int32) (J Y : AI), RC e Z a κ I0 J Y → Ok ((f99 kad N Z a d w J).bind fun r => (f88 kad N Z a r.2).bind fun r => some ((), r.2)) (fun _ J => RC e Z a κ I0 J (sGo (sSet d w Y))) := fun w J Y h => (C99 h d w).bind fun v J HJ => (C88 HJ).bind fun v J HJ => Ok.ret HJ
  rw [H.rd (c := 1) (k := 2), H.rd (c := 1) (k := 13)]
  obtain ⟨v, J, hJ, rfl, HJ⟩ := C75 (kad := kad) hN H (X 1 2)
  rw [hJ, Option.bind_some]
  dsimp only
  split
  · rename_i hlt
    rw [HJ.rd (c := 1) (k := 13)]
    show Ok (((f77 kad N Z (a + 10) (up2 J (a + 1) 13 (X 1 13 + 1) (a + 1) 13 - 1) (up2 J (a + 1) 13 (X 1 13 + 1))).bind fun r => some (r.1, r.2)).bind _) _
    rw [up2_eq]
    have H2 := HJ.up (c := 1) (k := 13) (v := X 1 13 + 1)
    have hx : X 1 13 + 1 - 1 = X 1 13 := by grind
    have e10 : up2 X 1 13 (X 1 13 + 1) 10 0 = X 10 0 := congrFun (up2_b (show ¬ 10 = 1 by decide)) 0
    obtain ⟨v, J2, hJ2, rfl, HJ2⟩ := C77 (kad := kad) (N := N) H2 (X 1 13 + 1 - 1) (by
      rw [hx, e10]
      by_cases h0 : X 1 13 < 0
      · exact Or.inl h0
      · right
        have h1 := nT_eq h0
        rw [Int32.lt_iff_toInt_lt, Int32.toInt_ofNat_of_lt (by omega)] at hlt
        omega)
    rw [hJ2, Option.bind_some, Option.bind_some]
    exact tail _ _ _ HJ2
  · exact tail _ _ _ HJ
theorem C107 (H : RC e Z a κ I0 I X) (w : Int32) : Ok (f107 kad N Z a w I) (fun _ J => RC e Z a κ I0 J (sTape w X)) := by
  unfold f107 f107_b22 sTape
  rw [H.rd (c := 1) (k := 12)]
  split
  · exact (C87 H 4).bind fun v J HJ => Ok.ret HJ
  · rename_i h0
    split
    · rename_i h1
      have hb : nT (X 1 12) < 60 := (nT_lt (n := 60) h1).resolve_right (by decide)
      refine Ok.ix h0 hb (Ok.w ?_)
      rw [show up2 I (a + 7) (nT (X 1 12)) w (a + 1) 12 = X 1 12 from by rw [up2_b (by omega)]; exact H.rd (c := 1) (k := 12)]
      refine Ok.w ?_
      have H2 := H.up (c := 7) (k := nT (X 1 12)) (v := w) (by decide) (nc2 (by decide))
      have e12 : up2 X 7 (nT (X 1 12)) w 1 12 = X 1 12 := by rw [up2_b (by decide)]
      have H3 : RC e Z a κ I0 (up2 (up2 I (a + 7) (nT (X 1 12)) w) (a + 1) 12 (X 1 12 + 1)) (up2 (up2 X 7 (nT (X 1 12)) w) 1 12 (X 1 12 + 1)) := by
        refine H2.blk (c := 1) (Or.inl (by decide)) (fun b hb => up2_b (by simpa [loc] using hb)) (fun d hd => up2_b hd) (fun d k hd hdc => ?_) (fun k hk => ?_)
        · unfold rel at hd
          split at hd <;> first
            | exact absurd rfl hdc
            | exact Or.inl hd
            | exact hd.elim
            | skip
          · have hd' : k < nT (up2 (up2 X 7 (nT (X 1 12)) w) 1 12 (X 1 12 + 1) 1 12) ∧ k < 60 := hd
            rw [up2_eq, nT_s h0 (by omega)] at hd'
            by_cases hk : k < nT (X 1 12)
            · exact Or.inl (show k < nT (up2 X 7 _ w 1 12) ∧ k < 60 from ⟨by rw [e12]; exact hk, hd'.2⟩)
            · have : k = nT (X 1 12) := by omega
              subst this
              refine Or.inr ?_
              show up2 I (a + 7) (nT (X 1 12)) w (a + 7) (nT (X 1 12)) = up2 X 7 (nT (X 1 12)) w 7 (nT (X 1 12))
              rw [up2_eq, up2_eq]
        · show up2 (up2 I (a + 7) (nT (X 1 12)) w) (a + 1) 12 (X 1 12 + 1) (a + 1) k = up2 (up2 X 7 (nT (X 1 12)) w) 1 12 (X 1 12 + 1) 1 k
          by_cases hk2 : k = 12
          · subst hk2
            rw [up2_eq, up2_eq]
          · rw [up2_ne (fun h => hk2 h.2), up2_ne (fun h => hk2 h.2), up2_b (by omega), up2_b (by decide)]
            exact H.rd (c := 1) (by decide) (show k < 14 from hk)
      exact (C88 H3).bind fun v J HJ => Ok.ret HJ
    · exact (C87 H 4).bind fun v J HJ => Ok.ret HJ
end CL2
