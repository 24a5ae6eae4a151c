/-! the class goes through a line the second time -/
section AN
variable {kad : Nat → Nat} {N : Nat} {Z : AZ} {S n i use : Nat} {st : List Nat} {C : PN} {L I : AI} {r : Nat × PN} {k x : Int32}
theorem op_nat (h : opOK k x) : ∃ a, x = Int32.ofNat a ∧ nT x = a ∧ a ≤ 65535 ∧ (k = 1 → a ≤ 19) := by
  obtain ⟨h1, h2⟩ := h
  by_cases hk : k = 1
  · rw [if_pos hk] at h2
    obtain ⟨a, e, e1, e2, e3⟩ := bad_nat (a := 0) (b := 19) h2
    exact ⟨a, e, e1, by omega, fun _ => e3⟩
  · rw [if_neg hk] at h2
    obtain ⟨a, e, e1, e2, e3⟩ := bad_nat (a := 0) (b := 65535) h2
    exact ⟨a, e, e1, e3, fun hh => absurd hh hk⟩
theorem op_kind (h : opOK k x) : k = 0 ∨ k = 1 ∨ k = 2 ∨ k = 3 := by
  obtain ⟨a, e, e1, e2, e3⟩ := bad_nat (a := 0) (b := 3) h.1
  have : a = 0 ∨ a = 1 ∨ a = 2 ∨ a = 3 := by omega
  rcases this with h | h | h | h
  · exact Or.inl (by rw [e, h]; rfl)
  · exact Or.inr (Or.inl (by rw [e, h]; rfl))
  · exact Or.inr (Or.inr (Or.inl (by rw [e, h]; rfl)))
  · exact Or.inr (Or.inr (Or.inr (by rw [e, h]; rfl)))
theorem opV_lt {v : Nat} (h : opOK k x) (W : asW n L 1 C) (hv : opV k x use C = some v) : v ≤ 65535 := by
  obtain ⟨⟨-, -, -, -, w4⟩, -, ws⟩ := W
  obtain ⟨a, e, e1, e2, e3⟩ := op_nat h
  unfold opV at hv
  split at hv
  · cases hv; omega
  · split at hv
    · split at hv
      · cases hv
      · cases hv
        have := (ws (slN (nT x) use)).1.1
        split <;> omega
    · split at hv
      · cases hv
      · cases hv
        have := Nat.mod_lt ((if k = 2 then C 5 use - 1 else C 6 use - 1) + nT x) (show 0 < 65536 by decide)
        omega
theorem K21 {s : Nat} (K : asK S 1 st C I) (hs : s < 1220) (hb : C 4 s ≤ 249) (hb2 : C 11 s ≤ 1) : f21 kad N Z S (Int32.ofNat s) I = some (if C 4 s = 0 then Int32.ofInt (-1) else Int32.ofNat ((if C 11 s = 0 then 8 else C 8 0) + (C 4 s - 1)), I) := by
  obtain ⟨h1, h2⟩ := K.2.2.2.2.1 s hs
  obtain ⟨-, -, b0, b1⟩ := K.2.2.2.2.2 rfl
  unfold f21 f21_b23 f21_b49
  rw [if_neg (of_nn (by omega)), if_neg (fun hh => by have := (of_le (m := 1220) (by decide) (by omega)).mp hh; omega), ixA_of hs, Option.bind_some]
  by_cases h : C 4 s = 0
  · rw [if_neg (fun hh => hh (h1 h)), if_pos h]
  · obtain ⟨e1, e2⟩ := h2 h
    rw [if_pos (fun hh => h ((lab_m1 K hs hb).mp hh)), if_neg h, Option.bind_some, e2]
    by_cases h3 : C 11 s = 0
    · rw [if_neg (fun hh => hh (by rw [h3]; rfl)), if_pos h3, show ixA 2 (0 : Int32) = some 0 from ixA_of (i := 0) (by decide), Option.bind_some, Option.bind_some, b0, e1, show (8 : Int32) = Int32.ofNat 8 from rfl, eA]
    · rw [if_pos (show ¬ Int32.ofNat (C 11 s) = 0 from fun hh => h3 ((of_inj (n := 0) (by omega) (by decide)).mp hh)), if_neg h3, show ixA 2 (1 : Int32) = some 1 from ixA_of (i := 1) (by decide), Option.bind_some, Option.bind_some, b1, e1, eA]
theorem and65 {a : Nat} (h : a < 2147483648) : (Int32.ofNat a) &&& 65535 = Int32.ofNat (a % 65536) := by
  rw [and_m (x := Int32.ofNat a) (mm := 65535) (of_nn h) (k := 16) (by decide) (by decide), nT_of h]
theorem K19 (K : asK S 1 st C I) (W : asW n L 1 C) (h : opOK k x) (hu : use ≤ 300) (hu2 : 0 < use → ¬ C 5 use = 0 ∧ ¬ C 6 use = 0) : f19 kad N Z S k x (Int32.ofNat use) I = some (match opV k x use C with | none => Int32.ofInt (-1) | some v => Int32.ofNat v, I) := by
  obtain ⟨⟨-, -, -, -, w4⟩, -, ws⟩ := W
  obtain ⟨a, e, e1, e2, e3⟩ := op_nat h
  unfold f19 f19_b32 f19_b54 opV
  rw [e1]
  rcases op_kind h with hk | hk | hk | hk
  · subst hk
    rw [if_neg (fun hh => hh rfl), if_pos rfl, e]
  · subst hk
    rw [if_pos z10, if_neg (fun hh => hh rfl), if_neg z10, if_pos rfl, e, K13 (e3 rfl), Option.bind_some]
    dsimp only
    rw [K21 K (slN_lt (e3 rfl) hu) (ws _).1.1 (ws _).1.2, Option.bind_some]
    by_cases h4 : C 4 (slN a use) = 0
    · rw [if_pos h4, if_pos h4]
    · rw [if_neg h4, if_neg h4]
  · subst hk
    rw [if_pos (show ¬ (2 : Int32) = 0 by decide), if_pos (show ¬ (2 : Int32) = 1 by decide), if_neg (show ¬ (2 : Int32) = 0 by decide), if_neg (show ¬ (2 : Int32) = 1 by decide)]
    by_cases h0 : use = 0
    · rw [if_pos (show Int32.ofNat use ≤ 0 from (of_le (n := 0) (by omega) (by decide)).mpr (by omega)), if_pos h0]
    · rw [if_neg (show ¬ Int32.ofNat use ≤ 0 from fun hh => by have := (of_le (n := 0) (by omega) (by decide)).mp hh; omega), if_neg h0, if_pos (show Int32.ofNat use ≤ 300 from (of_le (n := 300) (by omega) (by decide)).mpr hu), if_neg (fun hh => hh rfl), ixA_of (show use < 301 by omega), Option.bind_some, ((K.2.2.2.2.2 rfl).1 use (by omega)).1 (hu2 (by omega)).1, if_pos rfl, e, eA, and65 (by have := (ws use).2.1.1; omega)]
  · subst hk
    rw [if_pos (show ¬ (3 : Int32) = 0 by decide), if_pos (show ¬ (3 : Int32) = 1 by decide), if_neg (show ¬ (3 : Int32) = 0 by decide), if_neg (show ¬ (3 : Int32) = 1 by decide)]
    by_cases h0 : use = 0
    · rw [if_pos (show Int32.ofNat use ≤ 0 from (of_le (n := 0) (by omega) (by decide)).mpr (by omega)), if_pos h0]
    · rw [if_neg (show ¬ Int32.ofNat use ≤ 0 from fun hh => by have := (of_le (n := 0) (by omega) (by decide)).mp hh; omega), if_neg h0, if_pos (show Int32.ofNat use ≤ 300 from (of_le (n := 300) (by omega) (by decide)).mpr hu), if_pos (by decide), ixA_of (show use < 301 by omega), Option.bind_some, ((K.2.2.2.2.2 rfl).1 use (by omega)).2 (hu2 (by omega)).2, if_neg (by decide), e, eA, and65 (by have := (ws use).2.1.2; omega)]
theorem K20_n : f20 kad N Z k (Int32.ofInt (-1)) I = some (Int32.ofNat (oe k), I) := by
  unfold f20 f20_b21 oe
  rw [if_pos rfl]
  by_cases h : k = 1
  · rw [if_neg (fun hh => hh h), if_pos h]; rfl
  · rw [if_pos h, if_neg h]; rfl
theorem K20_s {v : Nat} (hv : v ≤ 65535) : f20 kad N Z k (Int32.ofNat v) I = some (0, I) := by
  unfold f20 f20_b21
  rw [if_neg (m1_ne (by omega))]
theorem K24 {a w : Nat} (ha : a < 256) : f24 kad N Z S (Int32.ofNat a) (Int32.ofNat w) I = some ((), up2 I (S + 1) a (Int32.ofNat w)) := by
  unfold f24 f24_b18
  rw [if_neg (of_nn (by omega)), if_neg (fun hh => by have := (of_le (m := 256) (by decide) (by omega)).mp hh; omega), ixA_of ha, Option.bind_some, wI_ok, Option.bind_some]
theorem K23 {w : Nat} (K : asK S 1 st C I) (hp : C 0 0 ≤ 1) (ha : (if C 0 0 = 0 then 8 else C 8 0) + C 1 (C 0 0) < 256) : ∃ I', f23 kad N Z S (Int32.ofNat w) I = some ((), I') ∧ asF S I I' ∧ I' (S + 5) = I (S + 5) ∧ asK S 1 st (putN w C) I' := by
  obtain ⟨q1, q2, q3⟩ := pr2 K hp
  obtain ⟨-, -, b0, b1⟩ := K.2.2.2.2.2 rfl
  have eb : I (S + 11) (C 0 0) = Int32.ofNat (if C 0 0 = 0 then 8 else C 8 0) := by
    by_cases h : C 0 0 = 0
    · rw [if_pos h, h, b0]; rfl
    · rw [if_neg h, show C 0 0 = 1 by omega, b1]
  have K2 := K.im (w := (if C 0 0 = 0 then 8 else C 8 0) + C 1 (C 0 0)) (v := w)
  obtain ⟨I1, hI1⟩ : ∃ I1, I1 = up2 I (S + 1) ((if C 0 0 = 0 then 8 else C 8 0) + C 1 (C 0 0)) (Int32.ofNat w) := ⟨_, rfl⟩
  rw [← hI1] at K2
  obtain ⟨-, -, p3⟩ := pr2 K2 hp
  unfold f23 f23_b56
  rw [if_neg q1, if_neg q2, q3, Option.bind_some, Option.bind_some, eb, K.2.1 _ (by omega), eA, K24 ha, Option.bind_some, ← hI1]
  dsimp only
  have e1 : I1 (S + 10) (C 0 0) = Int32.ofNat (C 1 (C 0 0)) := K2.2.1 (C 0 0) (by omega)
  rw [show ixA 2 (I1 S 15) = some (C 0 0) from p3, Option.bind_some, Option.bind_some, wI_ok, Option.bind_some, e1, of_s]
  refine ⟨_, rfl, ?_, ?_, K2.sz (w := C 0 0) (v := C 1 (C 0 0) + 1)⟩
  · rw [hI1]; exact asF.up2' (by omega) (by omega)
  · rw [hI1, up2_b (by omega), up2_b (by omega)]
theorem K22 {u : Nat} {v w : Int32} (hu : 0 < u) (hu2 : u ≤ 300) : f22 kad N Z S (Int32.ofNat u) v w I = some ((), up2 (up2 I (S + 8) u v) (S + 9) u w) := by
  unfold f22 f22_b25
  rw [if_neg (show ¬ Int32.ofNat u ≤ 0 from fun hh => by have := (of_le (n := 0) (by omega) (by decide)).mp hh; omega), if_neg (show ¬ (300 : Int32) < Int32.ofNat u from fun hh => by have := (of_lt (m := 300) (by decide) (by omega)).mp hh; omega), ixA_of (show u < 301 by omega), Option.bind_some, wI_ok, Option.bind_some, Option.bind_some, wI_ok, Option.bind_some]
theorem oe_ne : ¬ Int32.ofNat (oe k) = 0 := by
  unfold oe
  split <;> decide
theorem oe_le : 6 ≤ oe k ∧ oe k ≤ 7 := by
  unfold oe
  split <;> decide
/-- the operands' line, behind its kind -/
theorem K18 (hs : sh0 kad Z S) (hn : n ≤ 100) (hv : ∀ j, j < n → LV L j) (hi : i < n) (HC : CSr n S L I) (K : asK S 1 st C I) (W : asW n L 1 C) (hu : use ≤ C 0 2) (hu2 : 0 < use → ¬ C 5 use = 0 ∧ ¬ C 6 use = 0) (hg : ¬ 300 < C 0 1 + 1)
    (hk : L 1 i = 2 ∨ L 1 i = 3 ∨ L 1 i = 5 ∨ L 1 i = 8) (hb : ¬ ((L 1 i = 2 ∨ L 1 i = 3 ∨ L 1 i = 4) ∧ ¬ (C 1 0 + C 1 1 + wl L i ≤ 248 ∧ (C 0 0 = 1 → C 8 0 + C 1 1 + wl L i ≤ 256))))
    (hl : (match opV (L 3 i) (L 4 i) use C with
    | none => some (100 * oe (L 3 i) + i, un C 0 1 (C 0 1 + 1))
    | some v => if L 1 i = 5 then some (0, un (un C 0 1 (C 0 1 + 1)) 7 (nT (L 2 i)) v)
      else if L 1 i = 2 then some (0, putN v (putN (nT (L 2 i)) (un C 0 1 (C 0 1 + 1))))
      else if L 1 i = 3 then some (0, putN v (un C 0 1 (C 0 1 + 1)))
      else match opV (L 5 i) (L 6 i) use C with
        | none => some (100 * oe (L 5 i) + i, un C 0 1 (C 0 1 + 1))
        | some w => some (0, un (un (un C 0 1 (C 0 1 + 1)) 5 (C 0 2 + 1) (v + 1)) 6 (C 0 2 + 1) (w + 1))) = some r) :
    ∃ I', f18 kad N Z S (S + (12 + i)) (Int32.ofNat i) (Int32.ofNat use) I = some (Int32.ofNat r.1, I') ∧ asF S I I' ∧ I' (S + 5) = I (S + 5) ∧ (r.1 = 0 → asK S 1 st r.2 I') := by
  have w0 := W.1.1
  have hkd := sh0_f2 hs i (by omega)
  have hvi := hv i hi
  obtain ⟨⟨c0, c1⟩, ⟨c2, c3⟩, c4, c5⟩ := HC.at hi
  obtain ⟨o1, o2⟩ := hvi.op hk
  have K1 : asK S 1 st (un C 0 1 (C 0 1 + 1)) I := K.g1 rfl
  have hu3 : use ≤ 300 := by have := W.1.2.1; have := W.1.2.2.1; omega
  unfold f18
  rw [c2, c3, K19 K W o1 hu3 hu2, Option.bind_some]
  dsimp only
  rw [c2]
  cases ho : opV (L 3 i) (L 4 i) use C with
  | none =>
    rw [ho] at hl
    dsimp only at hl ⊢
    cases hl
    rw [K20_n, Option.bind_some, if_pos oe_ne]
    unfold f18_b81
    rw [if_neg oe_ne, K7, Option.bind_some]
    exact ⟨I, rfl, asF.refl, rfl, fun h => absurd h (by have := oe_le (k := L 3 i); first | omega | (dsimp only; omega))⟩
  | some v =>
    have hv1 := opV_lt o1 W ho
    rw [ho] at hl
    dsimp only at hl ⊢
    have kq : ∀ j, j < 9 → (kad (dzo (I (S + (12 + i)) 0)) = kad j ↔ L 1 i = Int32.ofNat j) := fun j hj => by
      rw [c0]
      exact kd_iff hkd hvi hj
    rw [K20_s hv1, Option.bind_some, if_neg z00]
    dsimp only
    by_cases h8 : L 1 i = 8
    · rw [if_neg (by rw [h8]; decide), if_neg (by rw [h8]; decide), if_neg (by rw [h8]; decide)] at hl
      rw [if_neg (fun hh => hh ((kq 8 (by decide)).mpr h8)), c4, c5, K19 K W (o2 h8) hu3 hu2, Option.bind_some]
      dsimp only
      rw [c4]
      have eu : I S 14 + 1 = Int32.ofNat (C 0 2 + 1) := by rw [K.1.2.1, of_s]
      have hue : C 0 2 + 1 ≤ 300 := by have := W.1.2.1; omega
      cases ho2 : opV (L 5 i) (L 6 i) use C with
      | none =>
        rw [ho2] at hl
        dsimp only at hl ⊢
        cases hl
        rw [K20_n, Option.bind_some, eu, K22 (by omega) hue, Option.bind_some]
        unfold f18_b81
        dsimp only
        rw [if_neg oe_ne, K7, Option.bind_some]
        exact ⟨_, rfl, asF.up2' (by omega) (by omega), by dsimp only; rw [up2_b (by omega), up2_b (by omega)], fun h => absurd h (by have := oe_le (k := L 5 i); first | omega | (dsimp only; omega))⟩
      | some w =>
        have hw1 := opV_lt (o2 h8) W ho2
        rw [ho2] at hl
        dsimp only at hl ⊢
        cases hl
        rw [K20_s hw1, Option.bind_some, eu, K22 (by omega) hue, Option.bind_some]
        unfold f18_b81 f18_b113 f18_b131 f18_b157
        dsimp only
        have e0 : up2 (up2 I (S + 8) (C 0 2 + 1) (Int32.ofNat v)) (S + 9) (C 0 2 + 1) (Int32.ofNat w) (S + (12 + i)) 0 = L 1 i := by rw [up2_b (by omega), up2_b (by omega), c0]
        have kr : ∀ j, j < 9 → (kad (dzo (up2 (up2 I (S + 8) (C 0 2 + 1) (Int32.ofNat v)) (S + 9) (C 0 2 + 1) (Int32.ofNat w) (S + (12 + i)) 0)) = kad j ↔ L 1 i = Int32.ofNat j) := fun j hj => by
          rw [e0]
          exact kd_iff hkd hvi hj
        rw [if_pos rfl, if_pos (fun hh => by have := (kr 5 (by decide)).mp hh; rw [h8] at this; exact absurd this (by decide)), if_pos (fun hh => by have := (kr 2 (by decide)).mp hh; rw [h8] at this; exact absurd this (by decide)), if_neg (fun hh => by have := (kr 2 (by decide)).mp hh; rw [h8] at this; exact absurd this (by decide)), if_pos (fun hh => by have := (kr 3 (by decide)).mp hh; rw [h8] at this; exact absurd this (by decide))]
        exact ⟨_, rfl, asF.up2' (by omega) (by omega), by rw [up2_b (by omega), up2_b (by omega)], fun _ => K1.ar⟩
    · rw [if_pos (fun hh => h8 ((kq 8 (by decide)).mp hh))]
      unfold f18_b81
      rw [if_pos rfl, c0, c1]
      by_cases h5 : L 1 i = 5
      · rw [if_pos h5] at hl
        cases hl
        obtain ⟨n1, n2, -, -, -, n3, -⟩ := hvi.nn (by rw [h5]; decide) (by rw [h5]; decide)
        have n3 := n3 h5
        have e24 := K24 (kad := kad) (N := N) (Z := Z) (S := S) (I := I) (a := nT (L 2 i)) (w := v) (by omega)
        rw [← n1] at e24
        rw [if_neg (fun hh => hh ((kd_iff hkd hvi (j := 5) (by decide)).mpr h5)), e24, Option.bind_some]
        unfold f18_b113 f18_b131 f18_b157
        dsimp only
        have e0 : up2 I (S + 1) (nT (L 2 i)) (Int32.ofNat v) (S + (12 + i)) 0 = L 1 i := by rw [up2_b (by omega), c0]
        have kr : ∀ j, j < 9 → (kad (dzo (up2 I (S + 1) (nT (L 2 i)) (Int32.ofNat v) (S + (12 + i)) 0)) = kad j ↔ L 1 i = Int32.ofNat j) := fun j hj => by
          rw [e0]
          exact kd_iff hkd hvi hj
        rw [if_pos (fun hh => by have := (kr 2 (by decide)).mp hh; rw [h5] at this; exact absurd this (by decide)), if_neg (fun hh => by have := (kr 2 (by decide)).mp hh; rw [h5] at this; exact absurd this (by decide)), if_pos (fun hh => by have := (kr 3 (by decide)).mp hh; rw [h5] at this; exact absurd this (by decide))]
        exact ⟨_, rfl, asF.up (by omega), by rw [up2_b (by omega)], fun _ => K1.im⟩
      · rw [if_neg h5] at hl
        rw [if_pos (fun hh => h5 ((kd_iff hkd hvi (j := 5) (by decide)).mp hh))]
        have h23 : L 1 i = 2 ∨ L 1 i = 3 := by rcases hk with h | h | h | h; exact Or.inl h; exact Or.inr h; exact absurd h h5; exact absurd h h8
        have hbb : C 1 0 + C 1 1 + wl L i ≤ 248 ∧ (C 0 0 = 1 → C 8 0 + C 1 1 + wl L i ≤ 256) := by
          by_cases hx : C 1 0 + C 1 1 + wl L i ≤ 248 ∧ (C 0 0 = 1 → C 8 0 + C 1 1 + wl L i ≤ 256)
          · exact hx
          · exact absurd ⟨h23.imp id Or.inl, hx⟩ hb
        have had : (if C 0 0 = 0 then 8 else C 8 0) + C 1 (C 0 0) + wl L i ≤ 256 := by
          by_cases h : C 0 0 = 0
          · rw [if_pos h, h]; omega
          · have h1 : C 0 0 = 1 := by omega
            rw [if_neg h, h1]
            exact hbb.2 h1
        unfold f18_b113
        rw [c0, c1]
        by_cases h2 : L 1 i = 2
        · rw [if_pos h2] at hl
          cases hl
          have hwl : wl L i = 2 := by unfold wl; rw [if_pos h2]
          obtain ⟨n1, n2, -⟩ := hvi.nn (by rw [h2]; decide) (by rw [h2]; decide)
          obtain ⟨I1, e1, f1, b1, k1⟩ := K23 (kad := kad) (N := N) (Z := Z) (w := nT (L 2 i)) K1 (by exact w0) (by show (if C 0 0 = 0 then 8 else C 8 0) + C 1 (C 0 0) < 256; omega)
          rw [← n1] at e1
          rw [if_neg (fun hh => hh ((kd_iff hkd hvi (j := 2) (by decide)).mpr h2)), e1, Option.bind_some]
          unfold f18_b131 f18_b151 f18_b157
          dsimp only
          rw [if_pos (show kad (dzo (I1 (S + (12 + i)) 0)) = kad 2 from by rw [f1.1 _ (by omega), c0]; exact (kd_iff hkd hvi (j := 2) (by decide)).mpr h2)]
          have hz1 : putN (nT (L 2 i)) (un C 0 1 (C 0 1 + 1)) 1 (C 0 0) = C 1 (C 0 0) + 1 := by
            unfold putN
            exact un_eq
          obtain ⟨I2, e2, f2, b2, k2⟩ := K23 (kad := kad) (N := N) (Z := Z) (w := v) k1 (by exact w0) (by
            show (if C 0 0 = 0 then 8 else C 8 0) + putN (nT (L 2 i)) (un C 0 1 (C 0 1 + 1)) 1 (C 0 0) < 256
            rw [hz1]; omega)
          rw [e2, Option.bind_some]
          exact ⟨I2, rfl, f1.trans f2, b2.trans b1, fun _ => k2⟩
        · have h3 : L 1 i = 3 := by rcases h23 with h | h; exact absurd h h2; exact h
          have hwl : wl L i = 1 := by unfold wl; rw [if_neg h2, if_pos h3]
          rw [if_neg h2, if_pos h3] at hl
          cases hl
          rw [if_pos (fun hh => h2 ((kd_iff hkd hvi (j := 2) (by decide)).mp hh))]
          unfold f18_b131 f18_b151 f18_b157
          obtain ⟨I1, e1, f1, b1, k1⟩ := K23 (kad := kad) (N := N) (Z := Z) (w := v) K1 (by exact w0) (by show (if C 0 0 = 0 then 8 else C 8 0) + C 1 (C 0 0) < 256; omega)
          rw [c0, if_neg (fun hh => h2 ((kd_iff hkd hvi (j := 2) (by decide)).mp hh)), if_neg (fun hh => hh ((kd_iff hkd hvi (j := 3) (by decide)).mpr h3)), e1, Option.bind_some]
          exact ⟨I1, rfl, f1, b1, fun _ => k1⟩
theorem asK2 (hs : sh0 kad Z S) (hz : Z.1 (kad 9) = none) (hn : n ≤ 100) (hv : ∀ j, j < n → LV L j) (hi : i < n) (HC : CSr n S L I) (K : asK S 1 st C I) (W : asW n L 1 C) (hu : use ≤ C 0 2) (hu2 : 0 < use → ¬ C 5 use = 0 ∧ ¬ C 6 use = 0) (hl : l2 n L i use st C = some r) :
    ∃ I', f17 kad N Z S (S + (12 + i)) (Int32.ofNat i) (Int32.ofNat use) I = some (Int32.ofNat r.1, I') ∧ asF S I I' ∧ I' (S + 5) = I (S + 5) ∧ (r.1 = 0 → asK S 1 st r.2 I') := by
  have hk := sh0_f2 hs i (by omega)
  have hvi := hv i hi
  have K1 : asK S 1 st (un C 0 1 (C 0 1 + 1)) I := K.g1 rfl
  obtain ⟨⟨c0, c1⟩, -⟩ := HC.at hi
  unfold l2 at hl
  by_cases hg : 300 < C 0 1 + 1
  · rw [if_pos hg] at hl; cases hl
  rw [if_neg hg] at hl
  obtain ⟨c, hc, ec⟩ := LVk hvi
  unfold f17
  rw [c0, ec, dzo_of hc, or_ok hk hc, Option.bind_some, sw_ok hz hc, Option.bind_some, c1]
  have hc9 : c = 0 ∨ c = 1 ∨ c = 2 ∨ c = 3 ∨ c = 4 ∨ c = 5 ∨ c = 6 ∨ c = 7 ∨ c = 8 := by omega
  rcases hc9 with h | h | h | h | h | h | h | h | h
  · subst h
    have ec : L 1 i = 0 := ec
    rw [if_pos ec] at hl
    cases hl
    obtain ⟨n1, -⟩ := hvi.nn (by rw [ec]; decide) (by rw [ec]; decide)
    have e : up2 I S 15 (L 2 i) = up2 I S 15 (Int32.ofNat (nT (L 2 i))) := by rw [← n1]
    rw [if_pos (show aSm 0 = 1 from rfl), wI_ok, Option.bind_some, e]
    exact ⟨_, rfl, asF.upS (by decide), up2_b (by omega), fun _ => K1.pr⟩
  · subst h
    have ec : L 1 i = 1 := ec
    rw [if_neg (by rw [ec]; decide), if_pos ec] at hl
    cases hl
    rw [if_neg (by decide), if_pos (show aSm 1 = 2 from rfl)]
    unfold f17_b89
    exact ⟨_, rfl, asF.refl, rfl, fun _ => K1⟩
  · subst h
    have ec : L 1 i = 2 := ec
    rw [if_neg (by rw [ec]; decide), if_neg (by rw [ec]; decide)] at hl
    by_cases hb : (L 1 i = 2 ∨ L 1 i = 3 ∨ L 1 i = 4) ∧ ¬ (C 1 0 + C 1 1 + wl L i ≤ 248 ∧ (C 0 0 = 1 → C 8 0 + C 1 1 + wl L i ≤ 256))
    · rw [if_pos hb] at hl; cases hl
    rw [if_neg hb, if_neg (by rw [ec]; decide), if_neg (by rw [ec]; decide), if_neg (by rw [ec]; decide), if_neg (fun hh => absurd (ec.symm.trans hh.1) (by decide))] at hl
    rw [if_neg (by decide), if_neg (by decide), if_pos (show aSm 2 = 3 from rfl)]
    unfold f17_b81
    rw [bindE]
    exact K18 hs hn hv hi HC K W hu hu2 hg (Or.inl ec) hb hl
  · subst h
    have ec : L 1 i = 3 := ec
    rw [if_neg (by rw [ec]; decide), if_neg (by rw [ec]; decide)] at hl
    by_cases hb : (L 1 i = 2 ∨ L 1 i = 3 ∨ L 1 i = 4) ∧ ¬ (C 1 0 + C 1 1 + wl L i ≤ 248 ∧ (C 0 0 = 1 → C 8 0 + C 1 1 + wl L i ≤ 256))
    · rw [if_pos hb] at hl; cases hl
    rw [if_neg hb, if_neg (by rw [ec]; decide), if_neg (by rw [ec]; decide), if_neg (by rw [ec]; decide), if_neg (fun hh => absurd (ec.symm.trans hh.1) (by decide))] at hl
    rw [if_neg (by decide), if_neg (by decide), if_neg (by decide), if_pos (show aSm 3 = 4 from rfl)]
    unfold f17_b81
    rw [bindE]
    exact K18 hs hn hv hi HC K W hu hu2 hg (Or.inr (Or.inl ec)) hb hl
  · subst h
    have ec : L 1 i = 4 := ec
    rw [if_neg (by rw [ec]; decide), if_neg (by rw [ec]; decide)] at hl
    by_cases hb : (L 1 i = 2 ∨ L 1 i = 3 ∨ L 1 i = 4) ∧ ¬ (C 1 0 + C 1 1 + wl L i ≤ 248 ∧ (C 0 0 = 1 → C 8 0 + C 1 1 + wl L i ≤ 256))
    · rw [if_pos hb] at hl; cases hl
    rw [if_neg hb, if_pos ec] at hl
    cases hl
    obtain ⟨n1, -, -, -, n3, -⟩ := hvi.nn (by rw [ec]; decide) (by rw [ec]; decide)
    have n3 := n3 ec
    have e12 := K12 (kad := kad) (N := N) (Z := Z) K1 (by exact W.1.1) (by exact W.1.2.2.2.1) n3.2
    rw [← n1] at e12
    rw [if_neg (by decide), if_neg (by decide), if_neg (by decide), if_neg (by decide), if_pos (show aSm 4 = 5 from rfl), e12, Option.bind_some]
    exact ⟨_, rfl, asF.up (by omega), up2_b (by omega), fun _ => K1.sz⟩
  · subst h
    have ec : L 1 i = 5 := ec
    rw [if_neg (by rw [ec]; decide), if_neg (by rw [ec]; decide)] at hl
    by_cases hb : (L 1 i = 2 ∨ L 1 i = 3 ∨ L 1 i = 4) ∧ ¬ (C 1 0 + C 1 1 + wl L i ≤ 248 ∧ (C 0 0 = 1 → C 8 0 + C 1 1 + wl L i ≤ 256))
    · rw [if_pos hb] at hl; cases hl
    rw [if_neg hb, if_neg (by rw [ec]; decide), if_neg (by rw [ec]; decide), if_neg (by rw [ec]; decide), if_neg (fun hh => absurd (ec.symm.trans hh.1) (by decide))] at hl
    rw [if_neg (by decide), if_neg (by decide), if_neg (by decide), if_neg (by decide), if_neg (by decide), if_neg (by decide), if_neg (by decide), if_neg (by decide), if_pos (show aSm 5 = 9 from rfl)]
    unfold f17_b81
    rw [bindE]
    exact K18 hs hn hv hi HC K W hu hu2 hg (Or.inr (Or.inr (Or.inl ec))) hb hl
  · subst h
    have ec : L 1 i = 6 := ec
    rw [if_neg (by rw [ec]; decide), if_neg (by rw [ec]; decide)] at hl
    by_cases hb : (L 1 i = 2 ∨ L 1 i = 3 ∨ L 1 i = 4) ∧ ¬ (C 1 0 + C 1 1 + wl L i ≤ 248 ∧ (C 0 0 = 1 → C 8 0 + C 1 1 + wl L i ≤ 256))
    · rw [if_pos hb] at hl; cases hl
    rw [if_neg hb, if_neg (by rw [ec]; decide), if_pos ec] at hl
    rw [if_neg (by decide), if_neg (by decide), if_neg (by decide), if_neg (by decide), if_neg (by decide), if_pos (show aSm 6 = 6 from rfl)]
    unfold f17_b89
    by_cases hm : C 2 (nT (L 2 i)) = 0 ∧ C 9 (nT (L 2 i)) = i + 1 ∧ C 10 (nT (L 2 i)) = nx n L i ∧ nx n L i < n ∧ ¬ L 1 (nx n L i) = 6
    · rw [if_pos hm] at hl
      cases hl
      exact ⟨_, rfl, asF.refl, rfl, fun _ => K1.m2.m3⟩
    · rw [if_neg hm] at hl; cases hl
  · subst h
    have ec : L 1 i = 7 := ec
    rw [if_neg (by rw [ec]; decide), if_neg (by rw [ec]; decide)] at hl
    by_cases hb : (L 1 i = 2 ∨ L 1 i = 3 ∨ L 1 i = 4) ∧ ¬ (C 1 0 + C 1 1 + wl L i ≤ 248 ∧ (C 0 0 = 1 → C 8 0 + C 1 1 + wl L i ≤ 256))
    · rw [if_pos hb] at hl; cases hl
    rw [if_neg hb, if_neg (by rw [ec]; decide), if_neg (by rw [ec]; decide), if_pos ec] at hl
    cases hl
  · subst h
    have ec : L 1 i = 8 := ec
    rw [if_neg (by rw [ec]; decide), if_neg (by rw [ec]; decide)] at hl
    by_cases hb : (L 1 i = 2 ∨ L 1 i = 3 ∨ L 1 i = 4) ∧ ¬ (C 1 0 + C 1 1 + wl L i ≤ 248 ∧ (C 0 0 = 1 → C 8 0 + C 1 1 + wl L i ≤ 256))
    · rw [if_pos hb] at hl; cases hl
    rw [if_neg hb, if_neg (by rw [ec]; decide), if_neg (by rw [ec]; decide), if_neg (by rw [ec]; decide)] at hl
    by_cases hq : L 1 i = 8 ∧ (C 2 (nT (L 2 i)) = 0 ∨ nT (L 2 i) ∈ st)
    · rw [if_pos hq] at hl; cases hl
    rw [if_neg hq] at hl
    rw [if_neg (by decide), if_neg (by decide), if_neg (by decide), if_neg (by decide), if_neg (by decide), if_neg (by decide), if_neg (by decide), if_pos (show aSm 8 = 8 from rfl)]
    unfold f17_b81
    rw [bindE]
    exact K18 hs hn hv hi HC K W hu hu2 hg (Or.inr (Or.inr (Or.inr ec))) hb hl
end AN
