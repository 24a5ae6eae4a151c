/-! p53: the tests' calls but the submission -/
section PT
variable {kad : Nat → Nat} {N : Nat} {Z : AZ} {S : Nat × AI} {im : Int32 × (Nat → Int32)} {m : Bool × XM} {n n' : Nat} {T T' : AI} {i a b c d v : Int32} {A : XA} {es : List Nat}
theorem CALL.got {fn : Nat → AI → Option ((Int32 ⊕ String) × AI)} (h : okA A) (hT : TI n' T') (e : ∀ g I, envG kad N Z g → CI g A I → Ok (fn g I) (fun x J => x = rx es 0 v ∧ CT g T' J ∧ frCT g I J)) : CALL kad N Z es fn A 0 v (A.1, (A.2.1, (A.2.2.1, (n', T')))) := by
  refine ⟨⟨Nat.zero_le _, h.1, h.2.1, h.2.2.1, hT⟩, fun g I hE H => ?_⟩
  obtain ⟨x, J, e1, rfl, e2, e3⟩ := e g I hE H
  exact ⟨J, e1, H.test e3 e2, e3.h⟩
theorem P176 (h : okA (S, (im, (m, (n, T))))) : ∃ th v T', CALL kad N Z [0, 1] (fun g I => f176 kad N Z g i I) (S, (im, (m, (n, T)))) th v (S, (im, (m, (n, T')))) ∧ (¬ th = 0 → T' = T) ∧ (th = 0 → ∃ k, k ≤ 1000 ∧ v = Int32.ofNat k) := by
  by_cases hb : bad i 0 65535
  · exact ⟨1, 0, T, CALL.no h (by decide) fun g I hE H => (K176 (kad := kad) (N := N) (Z := Z) h.2.2.2 H.2.2.2 i).mono fun x J hx => hx.1 hb, fun _ => rfl, fun hh => absurd hh (by decide)⟩
  · by_cases h6 : T 9 1 = 6
    · exact ⟨2, 0, T, CALL.no h (by decide) fun g I hE H => (K176 (kad := kad) (N := N) (Z := Z) h.2.2.2 H.2.2.2 i).mono fun x J hx => (hx.2 hb).1 h6, fun _ => rfl, fun hh => absurd hh (by decide)⟩
    · obtain ⟨k, k1, k2⟩ := h.2.2.2.2.1.1
      refine ⟨0, T 9 1 + 1, tKey T i, CALL.got (n' := n) h (h.2.2.2.key h6 (wd_bad hb)) fun g I hE H => (K176 (kad := kad) (N := N) (Z := Z) h.2.2.2 H.2.2.2 i).mono fun x J hx => (hx.2 hb).2 h6, fun hh => absurd rfl hh, fun _ => ⟨k + 1, by omega, ?_⟩⟩
      have k1' : T 9 1 = Int32.ofNat k := k1
      rw [k1', of_s]
theorem P177 (h : okA (S, (im, (m, (n, T))))) : ∃ th v T', CALL kad N Z [0, 1] (fun g I => f177 kad N Z g i I) (S, (im, (m, (n, T)))) th v (S, (im, (m, (n, T')))) ∧ (¬ th = 0 → T' = T) ∧ (th = 0 → ∃ k, k ≤ 1000 ∧ v = Int32.ofNat k) := by
  by_cases hb : bad i 0 65535
  · exact ⟨1, 0, T, CALL.no h (by decide) fun g I hE H => (K177 (kad := kad) (N := N) (Z := Z) h.2.2.2 H.2.2.2 i).mono fun x J hx => hx.1 hb, fun _ => rfl, fun hh => absurd hh (by decide)⟩
  · by_cases h6 : T 9 2 = 6
    · exact ⟨2, 0, T, CALL.no h (by decide) fun g I hE H => (K177 (kad := kad) (N := N) (Z := Z) h.2.2.2 H.2.2.2 i).mono fun x J hx => (hx.2 hb).1 h6, fun _ => rfl, fun hh => absurd hh (by decide)⟩
    · obtain ⟨k, k1, k2⟩ := h.2.2.2.2.1.2
      refine ⟨0, T 9 2 + 1, tWord T i, CALL.got (n' := n) h (h.2.2.2.word h6 (wd_bad hb)) fun g I hE H => (K177 (kad := kad) (N := N) (Z := Z) h.2.2.2 H.2.2.2 i).mono fun x J hx => (hx.2 hb).2 h6, fun hh => absurd rfl hh, fun _ => ⟨k + 1, by omega, ?_⟩⟩
      have k1' : T 9 2 = Int32.ofNat k := k1
      rw [k1', of_s]
theorem upto_bad {lo hi : Nat} (h : ¬ bad i (Int32.ofNat lo) (Int32.ofNat hi)) (h1 : lo < 2147483648 := by decide) (h2 : hi < 2147483648 := by decide) : upto hi i := by
  obtain ⟨k, e, e1, e2, e3⟩ := bad_nat h h1 h2
  exact ⟨k, e, e3⟩
theorem P178 (h : okA (S, (im, (m, (n, T))))) : ∃ th v n' T', CALL kad N Z [0, 1] (fun g I => f178 kad N Z g a b c d I) (S, (im, (m, (n, T)))) th v (S, (im, (m, (n', T')))) ∧ (¬ th = 0 → n' = n ∧ T' = T) ∧ (th = 0 → ∃ k, k ≤ 1000 ∧ v = Int32.ofNat k) := by
  by_cases hb : bad4 a b c d
  · exact ⟨1, 0, n, T, CALL.no h (by decide) fun g I hE H => (K178 (kad := kad) (N := N) (Z := Z) h.2.2.2 H.2.2.2 a b c d).mono fun x J hx => hx.1 hb, fun _ => ⟨rfl, rfl⟩, fun hh => absurd hh (by decide)⟩
  · by_cases h5 : n = 5
    · exact ⟨2, 0, n, T, CALL.no h (by decide) fun g I hE H => (K178 (kad := kad) (N := N) (Z := Z) h.2.2.2 H.2.2.2 a b c d).mono fun x J hx => (hx.2 hb).1 h5, fun _ => ⟨rfl, rfl⟩, fun hh => absurd hh (by decide)⟩
    · have hn5 : n < 5 := by have h6 : n ≤ 5 := h.2.2.2.1.2; omega
      exact ⟨0, Int32.ofNat n, n + 1, _, CALL.got (n' := n + 1) h (h.2.2.2.add hn5 (upto_bad (lo := 1) (hi := 500) (fun hh => hb (Or.inl hh))) (upto_bad (lo := 0) (hi := 100) (fun hh => hb (Or.inr (Or.inl hh)))) (upto_bad (lo := 1) (hi := 20) (fun hh => hb (Or.inr (Or.inr (Or.inl hh))))) (upto_bad (lo := 0) (hi := 500) (fun hh => hb (Or.inr (Or.inr (Or.inr hh)))))) fun g I hE H => (K178 (kad := kad) (N := N) (Z := Z) h.2.2.2 H.2.2.2 a b c d).mono fun x J hx => (hx.2 hb).2 hn5, fun hh => absurd rfl hh, fun _ => ⟨n, by omega, rfl⟩⟩
theorem P179 (h : okA A) : CALQ kad N Z (fun g I => f179 kad N Z g I) A (A.2.2.2.2 9 0) A := CALQ.q h fun _ _ _ H => K179 H.2.2.2
theorem P181 (h : okA A) : CALL kad N Z [2] (fun g I => f181 kad N Z g i I) A (if i < 0 ∨ A.2.2.2.2 9 0 ≤ i then 1 else 0) (A.2.2.2.2 7 (nT i)) A := CALL.q h (by split <;> decide) fun _ _ _ H => K181 h.2.2.2 H.2.2.2 i
theorem P182 (h : okA A) : CALQ kad N Z (fun g I => f182 kad N Z g I) A (mark A.2.2.2.2 A.2.2.2.1) A := CALQ.q h fun _ _ hE H => K182 hE.1 h.2.2.2 H.2.2.2
end PT
