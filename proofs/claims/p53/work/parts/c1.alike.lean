/-! p53: two objects in the same state: the law's comparison says so, and changes neither -/
section PAL
variable {kad : Nat → Nat} {N : Nat} {Z : AZ} {A A' : XA} {th : Nat} {v : Int32} {es hs : List Nat} {g g' : Nat} {I : AI} {α : Type} {Q : α → AI → Prop}
theorem CALL.hr2 {fn : Nat → AI → Option ((Int32 ⊕ String) × AI)} (hC : CALL kad N Z es fn A th v A') (hes : ¬ th = 0 → es.getD (th - 1) 0 ∈ hs) : CALQ kad N Z (fun g I => (fn g I).bind (hRo hs)) A (hv th v) A' := by
  refine ⟨hC.1.2, fun g I hE H => ?_⟩
  obtain ⟨J, e1, e2, e3⟩ := hC.2 g I hE H
  refine ⟨J, ?_, e2, e3⟩
  show (fn g I).bind (hRo hs) = _
  rw [e1, Option.bind_some]
  unfold hRo rx hv
  by_cases h0 : th = 0
  · rw [if_pos h0, if_pos h0]
  · rw [if_neg h0, if_neg h0]
    dsimp only
    rw [if_pos (List.any_eq_true.mpr ⟨_, hes h0, decide_eq_true rfl⟩)]
theorem CALQ.both {fn : Nat → AI → Option (Int32 × AI)} {F : Int32 × AI → Int32 × AI → Option (α × AI)} (hC : CALQ kad N Z fn A v A') (R : R2 kad N Z g g' A A I) (k : ∀ J0 J, R2 kad N Z g g' A' A' J → Ok (F (v, J0) (v, J)) Q) : Ok ((fn g I).bind fun r => (fn g' r.2).bind (F r)) Q := by
  obtain ⟨J, e1, R1⟩ := hC.o R
  obtain ⟨J2, e2, R3⟩ := hC.p R1
  rw [e1, Option.bind_some]
  show Ok ((fn g' J).bind (F (v, J))) Q
  rw [e2, Option.bind_some]
  exact k J J2 R3
theorem CALL.both {fn : Nat → AI → Option ((Int32 ⊕ String) × AI)} {β : Type} {Q : (β ⊕ String) → AI → Prop} {F : Int32 → Int32 → AI → Option ((β ⊕ String) × AI)} (hC : CALL kad N Z es fn A 0 v A') (R : R2 kad N Z g g' A A I) (k : ∀ J, R2 kad N Z g g' A' A' J → Ok (F v v J) Q) : Ok ((fn g I).bind fun r => xB r fun v I => (fn g' I).bind fun r2 => xB r2 (F v)) Q := by
  obtain ⟨J, e1, R1⟩ := hC.o R
  obtain ⟨J2, e2, R3⟩ := hC.p R1
  rw [e1, Option.bind_some]
  show Ok ((fn g' J).bind fun r2 => xB r2 (F v)) Q
  rw [e2, Option.bind_some]
  exact k J2 R3
theorem alike_loop (hN : 2000 ≤ N) (h : okA A) : ∀ (r i F : Nat) (I : AI), i + r = 5 → r < F → R2 kad N Z g g' A A I → Ok (f186_b118 kad N Z F g g' 1 (Int32.ofNat i) I) (fun x J => x = .inl 1 ∧ R2 kad N Z g g' A A J) := by
  have k1 : ∀ i, i < 5 → ¬ (((255 : Int32) - Int32.ofNat i) < 0 ∨ 255 < ((255 : Int32) - Int32.ofNat i)) := by decide
  have k2 : ∀ i, i < 5 → ¬ (((1 : Int32) + Int32.ofNat i) < 1 ∨ 65535 < ((1 : Int32) + Int32.ofNat i)) := by decide
  have k3 : ∀ i, i < 5 → ¬ (5 : Int32) ≤ Int32.ofNat i := by decide
  intro r
  induction r with
  | zero =>
    intro i F I hi hF R
    obtain ⟨F, rfl⟩ : ∃ G, F = G + 1 := ⟨F - 1, by omega⟩
    obtain rfl : i = 5 := by omega
    unfold f186_b118
    rw [if_pos (show (5 : Int32) ≤ Int32.ofNat 5 by decide)]
    unfold f186_b190
    rw [if_pos (Or.inr rfl)]
    exact Ok.ret ⟨rfl, R⟩
  | succ r ih =>
    intro i F I hi hF R
    have hi5 : i < 5 := by omega
    obtain ⟨F, rfl⟩ : ∃ G, F = G + 1 := ⟨F - 1, by omega⟩
    unfold f186_b118
    rw [if_neg (k3 i hi5), if_neg (show ¬ (1 : Int32) = 0 by decide)]
    have c1 : CALQ kad N Z (fun g I => fH2 kad N Z g (Int32.ofNat i) I) A _ A := (P181 (kad := kad) (N := N) (Z := Z) (i := Int32.ofNat i) h).hr (hs := [2]) (by decide)
    refine c1.both R fun _ J R => ?_
    dsimp only
    rw [if_neg (fun hh => hh rfl)]
    have c2 := P160 (kad := kad) (N := N) (Z := Z) (i := (255 : Int32) - Int32.ofNat i) h
    rw [if_neg (k1 i hi5)] at c2
    refine c2.both R fun J R => ?_
    rw [if_neg (fun hh => hh rfl)]
    have c3 : CALQ kad N Z (fun g I => fH3 kad N Z g ((1 : Int32) + Int32.ofNat i) I) A _ A := (P171 (kad := kad) (N := N) (Z := Z) (i := (1 : Int32) + Int32.ofNat i) h).hr2 (hs := [3]) (by
      rw [if_neg (k2 i hi5)]
      split
      · exact fun hh => absurd rfl hh
      · exact fun _ => by decide)
    refine c3.both R fun _ J R => ?_
    dsimp only
    rw [if_neg (fun hh => hh rfl)]
    unfold f186_b183
    rw [of_s]
    exact ih (i + 1) F J (by omega) (by omega) R
theorem alike (hN : 2000 ≤ N) (h : okA A) (R : R2 kad N Z g g' A A I) : Ok (f186 kad N Z g g' I) (fun x J => x = .inl 1 ∧ R2 kad N Z g g' A A J) := by
  obtain ⟨⟨n, L⟩, W⟩ := A
  obtain ⟨x, q, -, q135, -, -⟩ := P135 (kad := kad) (N := N) (Z := Z) h
  obtain ⟨w, -, q174⟩ := P174 (kad := kad) (N := N) (Z := Z) h
  unfold f186
  refine (P125 h).both R fun _ J R => ?_
  dsimp only
  rw [if_neg (fun hh => hh rfl)]
  refine (q135 _ h).both R fun _ J R => ?_
  dsimp only
  rw [if_neg (fun hh => hh rfl)]
  refine (P163 h).both R fun _ J R => ?_
  dsimp only
  rw [if_neg (fun hh => hh rfl)]
  refine (P153 h).both R fun _ J R => ?_
  dsimp only
  rw [if_neg (fun hh => hh rfl)]
  refine (P168 h).both R fun _ J R => ?_
  dsimp only
  rw [if_neg (fun hh => hh rfl)]
  refine (P170 h).both R fun _ J R => ?_
  dsimp only
  rw [if_neg (fun hh => hh rfl)]
  refine (P173 h).both R fun _ J R => ?_
  dsimp only
  rw [if_neg (fun hh => hh rfl)]
  refine q174.both R fun _ J R => ?_
  dsimp only
  rw [if_neg (fun hh => hh rfl)]
  refine (P179 h).both R fun _ J R => ?_
  dsimp only
  rw [if_neg (fun hh => hh rfl)]
  refine (P182 h).both R fun _ J R => ?_
  dsimp only
  rw [if_neg (fun hh => hh rfl)]
  exact alike_loop hN h 5 0 N J rfl (by omega) R
/-- the same call on both -/
theorem DETc.both {fn : Nat → AI → Option (Int32 × AI)} (h : DETc kad N Z fn A) (R : R2 kad N Z g g' A A I) : ∃ v A' J J', fn g I = some (v, J) ∧ fn g' J = some (v, J') ∧ okA A' ∧ R2 kad N Z g g' A' A' J' ∧ (v = Int32.ofInt (-99999999) → A' = A) ∧ (∀ c, wBd c A → wBd (c + 1004) A') := by
  obtain ⟨v, A', hC, hx⟩ := h
  obtain ⟨J, e1, R1⟩ := hC.o R
  obtain ⟨J2, e2, R3⟩ := hC.p R1
  exact ⟨v, A', J, J2, e1, e2, hC.1, R3, hx⟩
end PAL
