/-! steps, runs and steps back, with what they throw, in both -/
/-- the result of a class's method: nothing thrown, or the exception at that place among those that it may throw -/
def rx (es : List Nat) (th : Nat) (v : Int32) : Int32 ⊕ String := if th = 0 then .inl v else .inr (aEC (es.getD (th - 1) 0))
theorem rx_0 {es : List Nat} {v : Int32} : rx es 0 v = .inl v := rfl
def bad (i a b : Int32) : Prop := i < a ∨ b < i
theorem in_nat {i : Int32} {a b : Nat} (h : ¬ bad i (Int32.ofNat a) (Int32.ofNat b)) (ha : a < 2147483648 := by decide) (hb : b < 2147483648 := by decide) : i = Int32.ofNat (nT i) ∧ a ≤ nT i ∧ nT i ≤ b := by
  have h1 : ¬ i < Int32.ofNat a := fun hh => h (Or.inl hh)
  have h2 : ¬ Int32.ofNat b < i := fun hh => h (Or.inr hh)
  have h0 : ¬ i < 0 := fun hh => h1 (by
    have e : (0 : Int32) ≤ Int32.ofNat a := (of_le (m := 0) (by decide) ha).mpr (by omega)
    grind)
  have e := of_nT h0
  have l := Int32.toInt_lt i
  have hn : nT i = i.toInt.toNat := rfl
  refine ⟨e.symm, ?_, ?_⟩
  · rw [← e] at h1
    rcases Nat.lt_or_ge (nT i) a with hh | hh
    · exact absurd ((of_lt (by omega) ha).mpr hh) h1
    · exact hh
  · rw [← e] at h2
    rcases Nat.lt_or_ge b (nT i) with hh | hh
    · exact absurd ((of_lt hb (by omega)).mpr hh) h2
    · exact hh
section SS
variable {kad : Nat → Nat} {N : Nat} {Z : AZ} {g m q s kc : Nat} {I : AI} {K B : AI} {M D : Nat → Int32} {W : Int32}
/-- a machine that runs, halted or failed is on -/
theorem tr_on0 (h : ¬ tr K B s 1 0 = 0) {X : AI} (hX : X = tr K B s) : ¬ X 1 0 = 0 := by rw [hX]; exact h
theorem C146_on (hN : 2000 ≤ N) (hg : sh10 kad Z g) (zk : ∀ j, j < 200 → Z.2.1 (g + 114) 7 (Z.2.2 (g + 114) 7 (g + (182 + 9 * j))) = g + (182 + 9 * j)) (hG : Gd q K B s kc) (h0 : ¬ tr K B s 1 0 = 0) (H : CG g K B s kc I) (i : Int32) : Ok (f146 kad N Z g i I) (fun r J => (bad i 1 100 → r = rx [0, 1] 1 0 ∧ J = I) ∧ (¬ bad i 1 100 → r = rx [0, 1] 0 (Int32.ofNat (run K B (Int32.ofInt (-1)) (nT i) s)) ∧ CG g K B (s + run K B (Int32.ofInt (-1)) (nT i) s) (min (kc + run K B (Int32.ofInt (-1)) (nT i) s) 200) J ∧ frC g I J)) := by
  unfold f146
  rw [K138, Option.bind_some]
  by_cases hb : bad i 1 100
  · rw [if_pos (show i < 1 ∨ 100 < i from hb)]
    exact Ok.ret ⟨fun _ => ⟨rfl, rfl⟩, fun h => absurd hb h⟩
  · rw [if_neg (show ¬ (i < 1 ∨ 100 < i) from hb)]
    obtain ⟨e, e1, e2⟩ := in_nat (a := 1) (b := 100) hb
    unfold xB
    dsimp only
    rw [K165 H.1, Option.bind_some, if_neg h0]
    dsimp only
    rw [e]
    refine (C166 hN hg zk hG H e2 (Int32.ofInt (-1))).bind fun v J ⟨a1, a2, a3, a4⟩ => ?_
    rw [← e]
    exact Ok.ret ⟨fun h => absurd h hb, fun _ => ⟨by rw [a1]; rfl, a2, a4⟩⟩
theorem C147_on (hN : 2000 ≤ N) (hg : sh10 kad Z g) (zk : ∀ j, j < 200 → Z.2.1 (g + 114) 7 (Z.2.2 (g + 114) 7 (g + (182 + 9 * j))) = g + (182 + 9 * j)) (hG : Gd q K B s kc) (h0 : ¬ tr K B s 1 0 = 0) (H : CG g K B s kc I) (i j : Int32) : Ok (f147 kad N Z g i j I) (fun r J => (bad i 0 255 ∨ bad j 1 100 → r = rx [0, 1] 1 0 ∧ J = I) ∧ (¬ (bad i 0 255 ∨ bad j 1 100) → r = rx [0, 1] 0 (Int32.ofNat (run K B i (nT j) s)) ∧ CG g K B (s + run K B i (nT j) s) (min (kc + run K B i (nT j) s) 200) J ∧ frC g I J)) := by
  unfold f147
  rw [K138, Option.bind_some]
  by_cases hb : bad i 0 255
  · rw [if_pos (show i < 0 ∨ 255 < i from hb)]
    exact Ok.ret ⟨fun _ => ⟨rfl, rfl⟩, fun h => absurd (Or.inl hb) h⟩
  · rw [if_neg (show ¬ (i < 0 ∨ 255 < i) from hb)]
    unfold xB
    dsimp only
    rw [K138, Option.bind_some]
    by_cases hc : bad j 1 100
    · rw [if_pos (show j < 1 ∨ 100 < j from hc)]
      exact Ok.ret ⟨fun _ => ⟨rfl, rfl⟩, fun h => absurd (Or.inr hc) h⟩
    · rw [if_neg (show ¬ (j < 1 ∨ 100 < j) from hc)]
      obtain ⟨e, e1, e2⟩ := in_nat (a := 1) (b := 100) hc
      dsimp only
      rw [K165 H.1, Option.bind_some, if_neg h0]
      dsimp only
      rw [e]
      refine (C166 hN hg zk hG H e2 i).bind fun v J ⟨a1, a2, a3, a4⟩ => ?_
      rw [← e]
      exact Ok.ret ⟨fun h => h.elim (fun h => absurd h hb) (fun h => absurd h hc), fun _ => ⟨by rw [a1]; rfl, a2, a4⟩⟩
theorem C148_on (hN : 2000 ≤ N) (hg : sh10 kad Z g) (hG : Gd q K B s kc) (h0 : ¬ tr K B s 1 0 = 0) (H : CG g K B s kc I) (i : Int32) : Ok (f148 kad N Z g i I) (fun r J => (bad i 1 200 → r = rx [0, 1] 1 0 ∧ J = I) ∧ (¬ bad i 1 200 → r = rx [0, 1] 0 (Int32.ofNat (min (nT i) kc)) ∧ CG g K B (s - min (nT i) kc) (kc - min (nT i) kc) J ∧ frC g I J)) := by
  unfold f148
  rw [K138, Option.bind_some]
  by_cases hb : bad i 1 200
  · rw [if_pos (show i < 1 ∨ 200 < i from hb)]
    exact Ok.ret ⟨fun _ => ⟨rfl, rfl⟩, fun h => absurd hb h⟩
  · rw [if_neg (show ¬ (i < 1 ∨ 200 < i) from hb)]
    obtain ⟨e, e1, e2⟩ := in_nat (a := 1) (b := 200) hb
    unfold xB
    dsimp only
    rw [K165 H.1, Option.bind_some, if_neg h0]
    dsimp only
    rw [e]
    refine (C148 hN hg hG H e2).mono fun v J ⟨a1, a2, a4⟩ => ?_
    rw [← e]
    exact ⟨fun h => absurd h hb, fun _ => ⟨a1, a2, a4⟩⟩
end SS
