/-! p53: a source: assembled just if it has no error; then its words lie in the image -/
section PSO
variable {kad : Nat → Nat} {N : Nat} {Z : AZ} {A A' B : XA} {th : Nat} {v a b c e : Int32} {es hs : List Nat} {g g' : Nat} {I : AI}
theorem CALL.oo {fn : Nat → AI → Option ((Int32 ⊕ String) × AI)} {β : Type} {Q : (β ⊕ String) → AI → Prop} {F : Int32 → AI → Option ((β ⊕ String) × AI)} (hC : CALL kad N Z es fn A 0 v A') (R : R2 kad N Z g g' A B I) (k : ∀ J, R2 kad N Z g g' A' B J → Ok (F v J) Q) : Ok ((fn g I).bind fun r => xB r F) Q := by
  obtain ⟨J, e1, R1⟩ := hC.o R
  rw [e1, Option.bind_some]
  exact k J R1
theorem H1_0 (hC : CALL kad N Z [1] (fun g I => f136 kad N Z g I) A th v A') : CALQ kad N Z (fun g I => fH1 kad N Z g 0 a b c e I) A (hv th v) A' := (hC.hr (hs := [0, 1]) (by decide)).of fun g I => by unfold fH1; rw [if_pos rfl]
theorem isSource (h : okA A) (R : R2 kad N Z g g' A A I) : ∃ A', (okA A' ∧ ∀ c, wBd c A → wBd (c + 1004) A') ∧ Ok (f190 kad N Z g g' I) (fun x J => x = .inl 1 ∧ R2 kad N Z g g' A' A' J) := by
  obtain ⟨⟨n, L⟩, W⟩ := A
  obtain ⟨x, q, ⟨⟨x1, x2⟩, xE, xI⟩, q135, h1, h2⟩ := P135 (kad := kad) (N := N) (Z := Z) h
  by_cases h0 : x = 0
  · have c0 := h1 h0
    have s248 : q 1 0 + q 1 1 ≤ 248 := (x2 h0).1.2.2.2.1
    have ev : Int32.ofNat (q 1 0) + Int32.ofNat (q 1 1) = Int32.ofNat (q 1 0 + q 1 1) := (Int32.ofNat_add _ _).symm
    rw [ev] at c0
    have hA' := c0.1.2
    refine ⟨_, ⟨hA', wBd.same rfl⟩, ?_⟩
    unfold f190
    refine (q135 _ h).oo R fun J R => ?_
    dsimp only
    refine (H1_0 c0).oo R fun J R => ?_
    dsimp only
    refine (H1_0 c0).pp R fun J R => ?_
    dsimp only
    have b120 : ∀ J, R2 kad N Z g g' ((n, L), ((1, fun k => Int32.ofNat (q 7 k)), W.2)) ((n, L), ((1, fun k => Int32.ofNat (q 7 k)), W.2)) J → Ok (f190_b120 kad N Z g g' J) (fun x J => x = .inl 1 ∧ R2 kad N Z g g' ((n, L), ((1, fun k => Int32.ofNat (q 7 k)), W.2)) ((n, L), ((1, fun k => Int32.ofNat (q 7 k)), W.2)) J) := fun J R => by
      unfold f190_b120
      refine (q135 _ hA').oo R fun J R => ?_
      dsimp only
      rw [if_neg (fun hh => hh (show Int32.ofNat x = 0 by rw [h0]; rfl))]
      unfold f190_b127 f190_b132
      rw [if_pos (Or.inr rfl)]
      exact Ok.ret ⟨rfl, R⟩
    rw [if_neg (fun hh => hh rfl), if_pos (show ¬ hv 0 (Int32.ofNat (q 1 0 + q 1 1)) = Int32.ofInt (-99999999) from ofk_ne (by omega))]
    unfold f190_b39
    rw [if_pos (show Int32.ofNat x ≤ 0 by rw [h0]; decide)]
    unfold f190_b48
    rw [if_neg (fun hh => hh rfl), if_pos (show Int32.ofNat x = 0 by rw [h0]; rfl)]
    unfold f190_b79 f190_b84
    rw [if_neg (show ¬ (1 : Int32) = 0 by decide), if_neg (show ¬ hv 0 (Int32.ofNat (q 1 0 + q 1 1)) < 0 from of_nn (by omega)), if_neg (show ¬ (248 : Int32) < hv 0 (Int32.ofNat (q 1 0 + q 1 1)) from fun hh => absurd ((of_lt (m := 248) (n := q 1 0 + q 1 1) (by decide) (by omega)).mp hh) (by omega))]
    by_cases h7 : 247 < q 1 0 + q 1 1
    · rw [if_pos (show (247 : Int32) < hv 0 (Int32.ofNat (q 1 0 + q 1 1)) from (of_lt (m := 247) (n := q 1 0 + q 1 1) (by decide) (by omega)).mpr h7)]
      exact b120 J R
    · rw [if_neg (show ¬ (247 : Int32) < hv 0 (Int32.ofNat (q 1 0 + q 1 1)) from fun hh => h7 ((of_lt (m := 247) (n := q 1 0 + q 1 1) (by decide) (by omega)).mp hh))]
      have e8 : (8 : Int32) + hv 0 (Int32.ofNat (q 1 0 + q 1 1)) = Int32.ofNat (8 + (q 1 0 + q 1 1)) := eA 8 _
      rw [e8]
      have c7 := P137 (kad := kad) (N := N) (Z := Z) (i := Int32.ofNat (8 + (q 1 0 + q 1 1))) hA'
      rw [if_neg (show ¬ (Int32.ofNat (8 + (q 1 0 + q 1 1)) < 0 ∨ 255 < Int32.ofNat (8 + (q 1 0 + q 1 1))) from by
        rintro (hh | hh)
        · exact of_nn (by omega) hh
        · exact absurd ((of_lt (m := 255) (n := 8 + (q 1 0 + q 1 1)) (by decide) (by omega)).mp hh) (by omega)), if_neg (show ¬ (1 : Int32) = 0 by decide)] at c7
      refine c7.oo R fun J R => ?_
      rw [if_neg (fun hh => hh (show Int32.ofNat (q 7 (nT (Int32.ofNat (8 + (q 1 0 + q 1 1))))) = 0 by rw [nT_of (by omega), xI h0 _ (Nat.le_refl _)]; rfl))]
      exact b120 J R
  · have c0 := h2 h0
    have xn : 100 ≤ x ∧ x < 800 ∧ x % 100 < n := xE.resolve_left h0
    have n100 : n ≤ 100 := h.1.1
    refine ⟨_, ⟨h, wBd.same rfl⟩, ?_⟩
    unfold f190
    refine (q135 _ h).oo R fun J R => ?_
    dsimp only
    refine (H1_0 c0).oo R fun J R => ?_
    dsimp only
    refine (H1_0 c0).pp R fun J R => ?_
    dsimp only
    rw [if_neg (fun hh => hh rfl), if_neg (fun hh => hh rfl)]
    unfold f190_b39
    rw [if_neg (show ¬ Int32.ofNat x ≤ 0 from fun hh => absurd ((of_le (m := x) (n := 0) (by omega) (by decide)).mp hh) (by omega))]
    unfold f190_b48
    rw [if_neg (fun hh => hh rfl), if_neg (show ¬ Int32.ofNat x = 0 from of_nz (by omega) (by omega)), if_neg (show ¬ Int32.ofNat x < 100 from fun hh => absurd ((of_lt (m := x) (n := 100) (by omega) (by decide)).mp hh) (by omega)), if_neg (show ¬ (800 : Int32) ≤ Int32.ofNat x from fun hh => absurd ((of_le (m := 800) (n := x) (by decide) (by omega)).mp hh) (by omega))]
    refine (P125 h).oo R fun J R => ?_
    dsimp only
    rw [show Int32.ofNat x - Int32.ofNat x / (100 : Int32) * (100 : Int32) = Int32.ofNat (x % 100) from eR (n := 100) (by omega) (by decide) (by decide), if_neg (show ¬ Int32.ofNat n ≤ Int32.ofNat (x % 100) from fun hh => absurd ((of_le (m := n) (n := x % 100) (by omega) (by omega)).mp hh) (by omega))]
    unfold f190_b79 f190_b84
    rw [if_neg (show ¬ (1 : Int32) = 0 by decide), if_pos (show hv 1 0 < 0 by decide)]
    unfold f190_b127 f190_b132
    rw [if_pos (Or.inr rfl)]
    exact Ok.ret ⟨rfl, R⟩
end PSO
