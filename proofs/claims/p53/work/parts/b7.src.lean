/-! p53: the source's calls -/
section PS
variable {kad : Nat → Nat} {N : Nat} {Z : AZ} {n n' : Nat} {L L' : AI} {R : (Int32 × (Nat → Int32)) × ((Bool × XM) × (Nat × AI))} {a b c d e v i : Int32} {es : List Nat} {th : Nat} {A A' : XA}
theorem CALL.of {fn fn' : Nat → AI → Option ((Int32 ⊕ String) × AI)} (h : CALL kad N Z es fn A th v A') (e : ∀ g I, fn' g I = fn g I) : CALL kad N Z es fn' A th v A' := by
  have : fn' = fn := funext fun g => funext fun I => e g I
  rw [this]
  exact h
/-- lines and answer behind a call that adds a line, or refuses -/
def ADDp (kad : Nat → Nat) (N : Nat) (Z : AZ) (es : List Nat) (fn : Nat → AI → Option ((Int32 ⊕ String) × AI)) (n : Nat) (L : AI) (R : (Int32 × (Nat → Int32)) × ((Bool × XM) × (Nat × AI))) : Prop := ∃ th v n' L', CALL kad N Z es fn ((n, L), R) th v ((n', L'), R) ∧ (¬ th = 0 → n' = n ∧ L' = L) ∧ (th = 0 → ∃ k, k ≤ 1000 ∧ v = Int32.ofNat k)
theorem ADDp.of {fn fn' : Nat → AI → Option ((Int32 ⊕ String) × AI)} (h : ADDp kad N Z es fn n L R) (e : ∀ g I, fn' g I = fn g I) : ADDp kad N Z es fn' n L R := by
  obtain ⟨th, v, n', L', h, h2⟩ := h
  exact ⟨th, v, n', L', h.of e, h2⟩
theorem ADDp.no {fn : Nat → AI → Option ((Int32 ⊕ String) × AI)} (h : okA ((n, L), R)) (ht : th ≤ es.length) (e : ∀ g I, fn g I = some (rx es th v, I)) (h0 : ¬ th = 0 := by decide) : ADDp kad N Z es fn n L R := ⟨th, v, n, L, CALL.q h ht fun g I _ _ => e g I, fun _ => ⟨rfl, rfl⟩, fun hh => absurd hh h0⟩
theorem addp_go (h : okA ((n, L), R)) {j : Nat} (hj : j < 9) (hv : LV (lAdd L n (Int32.ofNat j) a b d 0 0) n) (h1 : 1 ≤ es.length) (e1 : es.getD (es.length - 1) 0 = 1) : ADDp kad N Z es (fun g I => f142 kad N Z g (kad j) a b d I) n L R := by
  by_cases h100 : n = 100
  · refine ⟨es.length, 0, n, L, CALL.q h (Nat.le_refl _) fun g I hE H => ?_, fun _ => ⟨rfl, rfl⟩, fun hh => absurd hh (by omega)⟩
    obtain ⟨q0, -⟩ := K142 (N := N) (a := a) (b := b) (c := d) hE.2.1 h.1.1 H.1.1.1 hj
    rw [q0 h100]
    unfold rx
    rw [if_neg (by omega), e1]
  · have hn : n < 100 := by have := h.1.1; have : n ≤ 100 := this; omega
    refine ⟨0, Int32.ofNat (n + 1), n + 1, lAdd L n (Int32.ofNat j) a b d 0 0, ⟨⟨Nat.zero_le _, h.1.add hn hv, h.2⟩, fun g I hE H => ?_⟩, fun hh => absurd rfl hh, fun _ => ⟨n + 1, by omega, rfl⟩⟩
    obtain ⟨-, q1⟩ := K142 (N := N) (a := a) (b := b) (c := d) hE.2.1 h.1.1 H.1.1.1 hj
    obtain ⟨J, e2, e3, e4⟩ := q1 hn
    exact ⟨J, e2, CI.src H e4 e3 (by omega), e4.h⟩
theorem P124 (h : okA ((n, L), R)) : CALQ kad N Z (fun g I => f124 kad N Z g I) ((n, L), R) (Int32.ofNat n) ((0, L), R) := by
  refine ⟨⟨⟨Nat.zero_le _, fun i hi => absurd hi (Nat.not_lt_zero _)⟩, h.2⟩, fun g I hE H => ⟨up2 I (g + 1) 0 0, ?_, CI.src H (fun b hb => up2_b (by omega)) ⟨up2_eq, fun i hi => absurd hi (Nat.not_lt_zero _)⟩ (by omega), frG.up (by omega)⟩⟩
  show f124 kad N Z g I = _
  unfold f124 f1
  rw [wI_ok, Option.bind_some, Option.bind_some, H.1.1.1.1]
theorem P125 (h : okA ((n, L), R)) : CALQ kad N Z (fun g I => f125 kad N Z g I) ((n, L), R) (Int32.ofNat n) ((n, L), R) := CALQ.q h fun g I hE H => by
  unfold f125
  rw [H.1.1.1.1]
theorem P126 (h : okA ((n, L), R)) : ADDp kad N Z [0, 1] (fun g I => f126 kad N Z g a I) n L R := by
  by_cases h1 : a < 0 ∨ 1 < a
  · refine ADDp.no (th := 1) (v := 0) h (by decide) fun g I => ?_
    unfold f126
    simp only [K138, Option.bind_some, K141, xB_id, bindE, if_pos h1, xB_r]
    rfl
  · refine (addp_go (kad := kad) (N := N) (Z := Z) (es := [0, 1]) (a := a) (b := 0) (d := 0) h (j := 0) (by decide) (LV_n.mpr (Or.inl ⟨rfl, h1⟩)) (by decide) rfl).of fun g I => ?_
    unfold f126
    simp only [K138, Option.bind_some, K141, xB_id, bindE, if_neg h1, xB_l]
theorem P127 (h : okA ((n, L), R)) : ADDp kad N Z [0, 1] (fun g I => f127 kad N Z g a I) n L R := by
  by_cases h1 : a < 0 ∨ 19 < a
  · refine ADDp.no (th := 1) (v := 0) h (by decide) fun g I => ?_
    unfold f127
    simp only [K138, Option.bind_some, K141, xB_id, bindE, if_pos h1, xB_r]
    rfl
  · refine (addp_go (kad := kad) (N := N) (Z := Z) (es := [0, 1]) (a := a) (b := 0) (d := 0) h (j := 1) (by decide) (LV_n.mpr (Or.inr (Or.inl ⟨rfl, h1⟩))) (by decide) rfl).of fun g I => ?_
    unfold f127
    simp only [K138, Option.bind_some, K141, xB_id, bindE, if_neg h1, xB_l]
theorem P130 (h : okA ((n, L), R)) : ADDp kad N Z [0, 1] (fun g I => f130 kad N Z g a I) n L R := by
  by_cases h1 : a < 1 ∨ 32 < a
  · refine ADDp.no (th := 1) (v := 0) h (by decide) fun g I => ?_
    unfold f130
    simp only [K138, Option.bind_some, K141, xB_id, bindE, if_pos h1, xB_r]
    rfl
  · refine (addp_go (kad := kad) (N := N) (Z := Z) (es := [0, 1]) (a := a) (b := 0) (d := 0) h (j := 4) (by decide) (LV_n.mpr (by right; right; right; right; exact Or.inl ⟨rfl, h1⟩)) (by decide) rfl).of fun g I => ?_
    unfold f130
    simp only [K138, Option.bind_some, K141, xB_id, bindE, if_neg h1, xB_l]
theorem P132 (h : okA ((n, L), R)) : ADDp kad N Z [0, 1] (fun g I => f132 kad N Z g a I) n L R := by
  by_cases h1 : a < 0 ∨ 4 < a
  · refine ADDp.no (th := 1) (v := 0) h (by decide) fun g I => ?_
    unfold f132
    simp only [K138, Option.bind_some, K141, xB_id, bindE, if_pos h1, xB_r]
    rfl
  · refine (addp_go (kad := kad) (N := N) (Z := Z) (es := [0, 1]) (a := a) (b := 0) (d := 0) h (j := 6) (by decide) (LV_n.mpr (by right; right; right; right; right; right; exact Or.inl ⟨rfl, h1⟩)) (by decide) rfl).of fun g I => ?_
    unfold f132
    simp only [K138, Option.bind_some, K141, xB_id, bindE, if_neg h1, xB_l]
theorem P133 (h : okA ((n, L), R)) : ADDp kad N Z [1] (fun g I => f133 kad N Z g I) n L R := by
  refine (addp_go (kad := kad) (N := N) (Z := Z) (es := [1]) (a := 0) (b := 0) (d := 0) h (j := 7) (by decide) (LV_n.mpr (by right; right; right; right; right; right; right; exact Or.inl rfl)) (by decide) rfl).of fun g I => ?_
  unfold f133
  simp only [xB_id, bindE, K141]
theorem P129 (h : okA ((n, L), R)) : ADDp kad N Z [0, 1] (fun g I => f129 kad N Z g a b I) n L R := by
  by_cases h1 : opOK a b
  · refine (addp_go (kad := kad) (N := N) (Z := Z) (es := [0, 1]) (a := 0) (b := a) (d := b) h (j := 3) (by decide) (LV_n.mpr (by right; right; right; exact Or.inl ⟨rfl, h1⟩)) (by decide) rfl).of fun g I => ?_
    unfold f129
    simp only [xB_id, bindE, K139_y h1, Option.bind_some, xB_l]
  · refine ADDp.no (th := 1) (v := 0) h (by decide) fun g I => ?_
    unfold f129
    simp only [xB_id, bindE, K139_n h1, Option.bind_some, xB_r]
    rfl
theorem P131 (h : okA ((n, L), R)) : ADDp kad N Z [0, 1] (fun g I => f131 kad N Z g a b c I) n L R := by
  by_cases h1 : a < 0 ∨ 1 < a
  · refine ADDp.no (th := 1) (v := 0) h (by decide) fun g I => ?_
    unfold f131
    simp only [K138, Option.bind_some, xB_id, bindE, if_pos h1, xB_r]
    rfl
  by_cases h2 : opOK b c
  · refine (addp_go (kad := kad) (N := N) (Z := Z) (es := [0, 1]) (a := a) (b := b) (d := c) h (j := 5) (by decide) (LV_n.mpr (by right; right; right; right; right; exact Or.inl ⟨rfl, h1, h2⟩)) (by decide) rfl).of fun g I => ?_
    unfold f131
    simp only [K138, Option.bind_some, xB_id, bindE, if_neg h1, K139_y h2, xB_l]
  · refine ADDp.no (th := 1) (v := 0) h (by decide) fun g I => ?_
    unfold f131
    simp only [K138, Option.bind_some, xB_id, bindE, if_neg h1, K139_n h2, xB_l, xB_r]
    rfl
theorem P128 (h : okA ((n, L), R)) : ADDp kad N Z [0, 1] (fun g I => f128 kad N Z g a b c d e I) n L R := by
  by_cases h1 : a < 0 ∨ 26 < a
  · refine ADDp.no (th := 1) (v := 0) h (by decide) fun g I => ?_
    unfold f128
    simp only [K138, Option.bind_some, xB_id, bindE, if_pos h1, xB_r]
    rfl
  by_cases h2 : b < 0 ∨ 3 < b
  · refine ADDp.no (th := 1) (v := 0) h (by decide) fun g I => ?_
    unfold f128
    simp only [K138, Option.bind_some, xB_id, bindE, if_neg h1, if_pos h2, xB_l, xB_r]
    rfl
  by_cases h3 : c < 0 ∨ 3 < c
  · refine ADDp.no (th := 1) (v := 0) h (by decide) fun g I => ?_
    unfold f128
    simp only [K138, Option.bind_some, xB_id, bindE, if_neg h1, if_neg h2, if_pos h3, xB_l, xB_r]
    rfl
  by_cases h4 : opOK d e
  · refine (addp_go (kad := kad) (N := N) (Z := Z) (es := [0, 1]) (a := 16 * a + 4 * b + c) (b := d) (d := e) h (j := 2) (by decide) (LV_n.mpr (by right; right; exact Or.inl ⟨rfl, code_in h1 h2 h3, h4⟩)) (by decide) rfl).of fun g I => ?_
    unfold f128
    simp only [K138, Option.bind_some, xB_id, bindE, if_neg h1, if_neg h2, if_neg h3, K139_y h4, xB_l]
  · refine ADDp.no (th := 1) (v := 0) h (by decide) fun g I => ?_
    unfold f128
    simp only [K138, Option.bind_some, xB_id, bindE, if_neg h1, if_neg h2, if_neg h3, K139_n h4, xB_l, xB_r]
    rfl
theorem P134 {i1 i2 i3 i4 i5 : Int32} (h : okA ((n, L), R)) : ADDp kad N Z [0, 1] (fun g I => f134 kad N Z g i1 i2 i3 i4 i5 I) n L R := by
  by_cases h1 : i1 < 0 ∨ 4 < i1
  · refine ADDp.no (th := 1) (v := 0) h (by decide) fun g I => ?_
    unfold f134
    simp only [K138, Option.bind_some, if_pos h1, xB_r]
    rfl
  by_cases h2 : ¬ opOK i2 i3
  · refine ADDp.no (th := 1) (v := 0) h (by decide) fun g I => ?_
    unfold f134
    simp only [K138, Option.bind_some, if_neg h1, K139_n h2, xB_l, xB_r]
    rfl
  have h2 := Classical.not_not.mp h2
  by_cases h3 : ¬ opOK i4 i5
  · refine ADDp.no (th := 1) (v := 0) h (by decide) fun g I => ?_
    unfold f134
    simp only [K138, Option.bind_some, if_neg h1, K139_y h2, K139_n h3, xB_l, xB_r]
    rfl
  have h3 := Classical.not_not.mp h3
  by_cases hh : n = 100
  · refine ⟨2, 0, n, L, CALL.q h (by decide) fun g I hE H => ?_, fun _ => ⟨rfl, rfl⟩, fun hh => absurd hh (by decide)⟩
    obtain ⟨q0, -⟩ := K142 (N := N) (a := i1) (b := i2) (c := i3) hE.2.1 h.1.1 H.1.1.1 (j := 8) (by decide)
    unfold f134
    simp only [K138, Option.bind_some, if_neg h1, K139_y h2, K139_y h3, xB_l]
    rw [q0 hh, Option.bind_some, xB_r]
    rfl
  · have hn : n < 100 := by have := h.1.1; have : n ≤ 100 := this; omega
    refine ⟨0, Int32.ofNat (n + 1), n + 1, lAdd L n 8 i1 i2 i3 i4 i5, ⟨⟨Nat.zero_le _, h.1.add hn (LV_n.mpr (by right; right; right; right; right; right; right; right; exact ⟨rfl, h1, h2, h3⟩)), h.2⟩, fun g I hE H => ?_⟩, fun hh => absurd rfl hh, fun _ => ⟨n + 1, by omega, rfl⟩⟩
    obtain ⟨-, q1⟩ := K142 (N := N) (a := i1) (b := i2) (c := i3) hE.2.1 h.1.1 H.1.1.1 (j := 8) (by decide)
    obtain ⟨I', e1, e2, e3⟩ := q1 hn
    obtain ⟨e4, e5⟩ := K3 (kad := kad) (N := N) (Z := Z) (e := i4) (f := i5) hn e2
    have fr : frCL g I (up2 (up2 I' (g + 1 + (12 + n)) 4 i4) (g + 1 + (12 + n)) 5 i5) := fun x hx => by
      rw [up2_b (by omega), up2_b (by omega)]
      exact e3 x hx
    refine ⟨_, ?_, CI.src H fr e5 (by omega), fr.h⟩
    show f134 kad N Z g i1 i2 i3 i4 i5 I = _
    unfold f134
    simp only [K138, Option.bind_some, if_neg h1, K139_y h2, K139_y h3, xB_l]
    rw [e1, Option.bind_some, xB_l, e4, Option.bind_some]
    rfl
/-- the assembler: what comes of it hangs on the lines alone -/
theorem ASMp (hI : LI n L) : ∃ (x : Nat) (q : PN), ((x ≤ 1000 ∧ (x = 0 → asW n L 1 q)) ∧ eN n x ∧ (x = 0 → ∀ k, 8 + (q 1 0 + q 1 1) ≤ k → q 7 k = 0)) ∧ ∀ g I, envG kad N Z g → CSr n (g + 1) L I → miB g I → ∃ I', f5 kad N Z (g + 1) I = some (Int32.ofNat x, I') ∧ asH (g + 1) I I' ∧ (x = 0 → asK (g + 1) 1 [] q I') := by
  obtain ⟨hn, hv⟩ := hI
  obtain ⟨r, hr, hr1, hr2, hr3⟩ := as_ends2 hv hn
  by_cases h0 : r.1 = 0
  · obtain ⟨W, q, hq, hq1, hq2, hq3⟩ := hr3 h0
    refine ⟨q.1, q.2, ⟨⟨hq1, fun h => (hq3 h).1⟩, hq2, fun h => (hq3 h).2⟩, fun g I hE HC hb => ?_⟩
    obtain ⟨I', e1, e2, e3⟩ := K5 (q := q) hE.1 (sh10_s0 hE.2.1) hE.2.2.1 ⟨hn, hv⟩ HC hb hr hr1 (fun _ => ⟨W, hq⟩)
    rw [if_pos h0] at e1
    exact ⟨I', e1, e2, fun h => e3 h0 h⟩
  · refine ⟨r.1, r.2, ⟨⟨hr1, fun h => absurd h h0⟩, hr2, fun h => absurd h h0⟩, fun g I hE HC hb => ?_⟩
    obtain ⟨I', e1, e2, -⟩ := K5 (q := r) hE.1 (sh10_s0 hE.2.1) hE.2.2.1 ⟨hn, hv⟩ HC hb hr hr1 (fun h => absurd h h0)
    rw [if_neg h0] at e1
    exact ⟨I', e1, e2, fun h => absurd h h0⟩
theorem nz_x {x : Nat} (hx : x ≤ 1000) : Int32.ofNat x = 0 ↔ x = 0 := of_inj (n := 0) (by omega) (by decide)
/-- error and assemble, together: the same number of an error; with none, the words and the image -/
theorem P135 (h : okA ((n, L), R)) : ∃ (x : Nat) (q : PN), ((x ≤ 1000 ∧ (x = 0 → asW n L 1 q)) ∧ eN n x ∧ (x = 0 → ∀ k, 8 + (q 1 0 + q 1 1) ≤ k → q 7 k = 0)) ∧ (∀ R, okA ((n, L), R) → CALQ kad N Z (fun g I => f135 kad N Z g I) ((n, L), R) (Int32.ofNat x) ((n, L), R)) ∧
    (x = 0 → CALL kad N Z [1] (fun g I => f136 kad N Z g I) ((n, L), R) 0 (Int32.ofNat (q 1 0) + Int32.ofNat (q 1 1)) ((n, L), ((1, fun k => Int32.ofNat (q 7 k)), R.2))) ∧ (¬ x = 0 → CALL kad N Z [1] (fun g I => f136 kad N Z g I) ((n, L), R) 1 0 ((n, L), R)) := by
  obtain ⟨x, q, ⟨⟨x1, x2⟩, x3⟩, hx⟩ := ASMp (kad := kad) (N := N) (Z := Z) h.1
  refine ⟨x, q, ⟨⟨x1, x2⟩, x3⟩, fun R h' => ⟨h', fun g I hE H => ?_⟩, fun h0 => ⟨⟨Nat.zero_le _, h.1, ⟨Or.inr rfl, fun k hk => wd_nat ((x2 h0).2.2 k).2.2⟩, h.2.2⟩, fun g I hE H => ?_⟩, fun h0 => ⟨⟨by decide, h⟩, fun g I hE H => ?_⟩⟩
  · obtain ⟨I', e1, e2, -⟩ := hx g I hE H.1.1.1 H.1.2
    refine ⟨I', ?_, H.asm e2, fun b hb => e2.1 b (by omega)⟩
    show f135 kad N Z g I = _
    unfold f135
    rw [e1, Option.bind_some]
  · obtain ⟨I1, e1, e2, e3⟩ := hx g I hE H.1.1.1 H.1.2
    have k1 := e3 h0
    have hcp : cA I1 (g + 2) 256 (0 : Int32) (g + 113) 256 (0 : Int32) (256 : Int32) = some (cpI I1 (g + 2) (g + 113) 0 0 256) := cA_ok (s := 0) (d := 0) (n := 256) (by decide) (by decide)
    have s1 : ∀ k, k < 2 → up2 (cpI I1 (g + 2) (g + 113) 0 0 256) g 2 1 (g + 1 + 10) k = Int32.ofNat (q 1 k) := fun k hk => by
      rw [up2_b (by omega), cpI_b (by omega)]; exact k1.2.1 k hk
    refine ⟨up2 (cpI I1 (g + 2) (g + 113) 0 0 256) g 2 1, ?_, (H.asm e2).img (fun b h1 h2 => by rw [up2_b h1, cpI_b h2]) (fun j hj => by rw [up2_ne (by omega), cpI_b (by omega)]) up2_eq (fun k hk => ?_), fun b hb => ?_⟩
    · show f136 kad N Z g I = _
      unfold f136
      rw [e1, Option.bind_some]
      try dsimp only
      rw [if_pos ((nz_x x1).mpr h0), hcp, Option.bind_some, wI_ok, Option.bind_some]
      unfold f4
      rw [show ixA 2 (0 : Int32) = some 0 from ixA_of (i := 0) (by decide), Option.bind_some, show ixA 2 (1 : Int32) = some 1 from ixA_of (i := 1) (by decide), Option.bind_some, Option.bind_some]
      try dsimp only
      rw [s1 0 (by decide), s1 1 (by decide)]
      rfl
    · rw [up2_b (by omega), cpI_at (by omega), show 0 + (k - 0) = k by omega]
      exact (k1.2.2.2.2.2 rfl).2.1 k hk
    · rw [up2_b (by omega), cpI_b (by omega)]
      exact e2.1 b (by omega)
  · obtain ⟨I', e1, e2, -⟩ := hx g I hE H.1.1.1 H.1.2
    refine ⟨I', ?_, H.asm e2, fun b hb => e2.1 b (by omega)⟩
    show f136 kad N Z g I = _
    unfold f136
    rw [e1, Option.bind_some]
    try dsimp only
    rw [if_neg (fun hh => h0 ((nz_x x1).mp hh))]
    rfl
theorem P137 (h : okA A) : CALL kad N Z [0, 1] (fun g I => f137 kad N Z g i I) A (if i < 0 ∨ 255 < i then 1 else if A.2.1.1 = 0 then 2 else 0) (A.2.1.2 (nT i)) A := CALL.q h (by split; decide; split <;> decide) fun g I hE H => by
  unfold f137 f140
  rw [K138, Option.bind_some]
  by_cases hi : i < 0 ∨ 255 < i
  · rw [if_pos hi, xB_r, if_pos hi]
    rfl
  · rw [if_neg hi, xB_l, if_neg hi]
    try dsimp only
    obtain ⟨e, e2⟩ := ix_in (b := 255) (n := 256) hi (by decide) (by decide)
    by_cases h2 : A.2.1.1 = 0
    · rw [if_neg (fun hh => hh (H.2.1.1.trans h2)), Option.bind_some, xB_r, if_pos h2]
      rfl
    · rw [if_pos (fun hh => h2 (H.2.1.1.symm.trans hh)), if_neg h2, Option.bind_some, xB_l]
      try dsimp only
      rw [e, Option.bind_some, H.2.1.2 _ (Nat.lt_succ_of_le e2)]
      rfl
end PS
