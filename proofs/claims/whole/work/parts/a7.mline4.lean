/-! the model goes through a line the second time -/
section AS
variable {kad : Nat → Nat} {N : Nat} {Z : AZ} {m n p i e use : Nat} {st : List Nat} {C : PN} {L J : AI} {r : Nat × PN}
theorem ml3 (HM : MSr n m L J) (hi : i < n) (h : L 1 i = 2 ∨ L 1 i = 3 ∨ L 1 i = 5 ∨ L 1 i = 8) : J (m + 2) (5 * i) = L 3 i ∧ J (m + 2) (5 * i + 1) = L 4 i ∧ ((L 1 i = 2 ∨ L 1 i = 5) → J (m + 2) (5 * i + 2) = L 2 i) := by
  obtain ⟨-, -, l3, l4, -⟩ := HM.2 i hi
  exact ⟨(l3 h).1, (l3 h).2, l4⟩
theorem e100m (a b : Nat) : (100 : Int32) * Int32.ofNat a + Int32.ofNat b = Int32.ofNat (100 * a + b) := by
  rw [show (100 : Int32) = Int32.ofNat 100 from rfl, eM, eA]
/-- the operands' line -/
theorem M209_b (hn : n ≤ 100) (hv : ∀ j, j < n → LV L j) (hi : i < n) (HM : MSr n m L J) (T : asT m 1 (i + 1) e use st (un C 0 1 (C 0 1 + 1)) J) (h5 : st.length ≤ 5) (W : asW n L 1 C) (hu : use ≤ 300) (hu2 : 0 < use → ¬ C 5 use = 0 ∧ ¬ C 6 use = 0) (hg : ¬ 300 < C 0 1 + 1)
    (hk : L 1 i = 2 ∨ L 1 i = 3 ∨ L 1 i = 5) (hb : ¬ ((L 1 i = 2 ∨ L 1 i = 3 ∨ L 1 i = 4) ∧ ¬ (C 1 0 + C 1 1 + wl L i ≤ 248 ∧ (C 0 0 = 1 → C 8 0 + C 1 1 + wl L i ≤ 256))))
    (hl : (match opV (L 3 i) (L 4 i) use C with
    | none => some (100 * oe (L 3 i) + i, un C 0 1 (C 0 1 + 1))
    | some v => if L 1 i = 5 then some (0, un (un C 0 1 (C 0 1 + 1)) 7 (nT (L 2 i)) v)
      else if L 1 i = 2 then some (0, putN v (putN (nT (L 2 i)) (un C 0 1 (C 0 1 + 1))))
      else if L 1 i = 3 then some (0, putN v (un C 0 1 (C 0 1 + 1)))
      else match opV (L 5 i) (L 6 i) use C with
        | none => some (100 * oe (L 5 i) + i, un C 0 1 (C 0 1 + 1))
        | some w => some (0, un (un (un C 0 1 (C 0 1 + 1)) 5 (C 0 2 + 1) (v + 1)) 6 (C 0 2 + 1) (w + 1))) = some r) :
    ∃ J', f209_b53 kad N Z m (Int32.ofNat i) ((5 : Int32) * Int32.ofNat i) (L 1 i) J = some (Int32.ofNat r.1, J') ∧ asG m st.length J J' ∧ (r.1 = 0 → asT m 1 (i + 1) e use st r.2 J') := by
  have w0 := W.1.1
  have hvi := hv i hi
  have hk4 : L 1 i = 2 ∨ L 1 i = 3 ∨ L 1 i = 5 ∨ L 1 i = 8 := by rcases hk with h | h | h; exact Or.inl h; exact Or.inr (Or.inl h); exact Or.inr (Or.inr (Or.inl h))
  obtain ⟨o1, -⟩ := hvi.op hk4
  obtain ⟨a1, a2, a3⟩ := ml3 HM hi hk4
  have WG : asW n L 1 (un C 0 1 (C 0 1 + 1)) := W.gone (by omega)
  obtain ⟨J2, e2, z2, f2⟩ := M205 (kad := kad) (N := N) (Z := Z) T h5 WG o1 hu hu2
  have eop : opV (L 3 i) (L 4 i) use (un C 0 1 (C 0 1 + 1)) = opV (L 3 i) (L 4 i) use C := rfl
  rw [eop] at e2 z2
  have T2 := T.n19 f2
  unfold f209_b53
  rw [ml2 HM hi hn, Option.bind_some, show ixA 500 ((5 : Int32) * Int32.ofNat i + 1) = some (5 * i + 1) from m5k hn hi (by decide), Option.bind_some, a1, a2, e2, Option.bind_some]
  have HM2 := HM.g (f2.g (d := 0))
  cases ho : opV (L 3 i) (L 4 i) use C with
  | none =>
    rw [ho] at hl z2
    dsimp only at hl z2 ⊢
    cases hl
    rw [if_neg (fun hh => oe_ne (z2.symm.trans hh)), z2, e100m]
    exact ⟨J2, rfl, f2.g, fun hh => absurd hh (by have := oe_le (k := L 3 i); first | omega | (dsimp only; omega))⟩
  | some v =>
    rw [ho] at hl z2
    dsimp only at hl z2 ⊢
    have hv1 := opV_lt o1 W ho
    rw [if_pos z2]
    by_cases k5 : L 1 i = 5
    · rw [if_pos k5] at hl
      cases hl
      obtain ⟨n1, n2, -, -, -, n3, -⟩ := hvi.nn (by rw [k5]; decide) (by rw [k5]; decide)
      have n3 := n3 k5
      rw [if_neg (fun hh => hh k5), show ixA 500 ((5 : Int32) * Int32.ofNat i + 2) = some (5 * i + 2) from m5k hn hi (by decide), Option.bind_some, show J2 (m + 2) (5 * i + 2) = L 2 i from (ml3 HM2 hi hk4).2.2 (Or.inr k5), (congrArg (ixA 256) n1).trans (ixA_of (show nT (L 2 i) < 256 by omega)), Option.bind_some, wI_ok, Option.bind_some]
      exact ⟨_, rfl, f2.g.trans (asG.up (by omega)) (Nat.le_refl _), fun _ => T2.up T2.1.im (congrFun (up2_b (by omega)) _) (fun b h1 h2 => up2_b (by omega)) ⟨rfl, rfl⟩⟩
    rw [if_neg k5] at hl
    rw [if_pos k5]
    have h23 : L 1 i = 2 ∨ L 1 i = 3 := by rcases hk with h | h | h; exact Or.inl h; exact Or.inr h; exact absurd h k5
    have hbb : C 1 0 + C 1 1 + wl L i ≤ 248 ∧ (C 0 0 = 1 → C 8 0 + C 1 1 + wl L i ≤ 256) := by
      by_cases hx : C 1 0 + C 1 1 + wl L i ≤ 248 ∧ (C 0 0 = 1 → C 8 0 + C 1 1 + wl L i ≤ 256)
      · exact hx
      · exact absurd ⟨h23.imp id Or.inl, hx⟩ hb
    have had : (if C 0 0 = 0 then 8 else C 8 0) + C 1 (C 0 0) + wl L i ≤ 256 := by
      by_cases h : C 0 0 = 0
      · rw [if_pos h, h]; omega
      · have h1 : C 0 0 = 1 := by omega
        rw [if_neg h, h1]
        exact hbb.2 h1
    unfold f209_b129
    by_cases k2 : L 1 i = 2
    · rw [if_pos k2] at hl
      cases hl
      have hwl : wl L i = 2 := by unfold wl; rw [if_pos k2]
      obtain ⟨n1, n2, -⟩ := hvi.nn (by rw [k2]; decide) (by rw [k2]; decide)
      obtain ⟨J3, e3, g3, t3⟩ := M208 (kad := kad) (N := N) (Z := Z) T2 (by exact w0) (w := nT (L 2 i)) (by show (if C 0 0 = 0 then 8 else C 8 0) + C 1 (C 0 0) < 256; omega)
      rw [← n1] at e3
      have hz1 : putN (nT (L 2 i)) (un C 0 1 (C 0 1 + 1)) 1 (C 0 0) = C 1 (C 0 0) + 1 := by
        unfold putN
        exact un_eq
      obtain ⟨J4, e4, g4, t4⟩ := M208 (kad := kad) (N := N) (Z := Z) t3 (by exact w0) (w := v) (by
        show (if C 0 0 = 0 then 8 else C 8 0) + putN (nT (L 2 i)) (un C 0 1 (C 0 1 + 1)) 1 (C 0 0) < 256
        rw [hz1]; omega)
      rw [if_neg (fun hh => hh k2), show ixA 500 ((5 : Int32) * Int32.ofNat i + 2) = some (5 * i + 2) from m5k hn hi (by decide), Option.bind_some, show J2 (m + 2) (5 * i + 2) = L 2 i from (ml3 HM2 hi hk4).2.2 (Or.inl k2), e3, Option.bind_some]
      dsimp only
      rw [e4, Option.bind_some]
      exact ⟨J4, rfl, f2.g.trans (g3.trans g4 (Nat.le_refl _)) (Nat.le_refl _), fun _ => t4⟩
    · have k3 : L 1 i = 3 := by rcases h23 with h | h; exact absurd h k2; exact h
      have hwl : wl L i = 1 := by unfold wl; rw [if_neg k2, if_pos k3]
      rw [if_neg k2, if_pos k3] at hl
      cases hl
      obtain ⟨J3, e3, g3, t3⟩ := M208 (kad := kad) (N := N) (Z := Z) T2 (by exact w0) (w := v) (by show (if C 0 0 = 0 then 8 else C 8 0) + C 1 (C 0 0) < 256; omega)
      rw [if_pos k2, e3, Option.bind_some]
      exact ⟨J3, rfl, f2.g.trans g3 (Nat.le_refl _), fun _ => t3⟩
theorem asM2_L (hN : 2000 ≤ N) (hn : n ≤ 100) (hv : ∀ j, j < n → LV L j) : asML kad N Z m n 1 L (l2 n L) := by
  intro i e use st C J r H hie HM T hl
  have hin : i < n := by have := H.1.2.1; omega
  have hvi := hv i hin
  have h5 := len5 H
  have hu := use3 H
  have hu2 := H.2.2.1.2 rfl
  have W := H.2.1
  obtain ⟨J1, T1, G0, e1⟩ := M210_g (kad := kad) (N := N) (Z := Z) HM hn hin hvi T (Or.inr rfl) W.1.2.2.1 W.1.2.2.2.1
  have G1 := G0 st.length
  rw [if_neg (show ¬ (1 = 0 ∧ 300 < C 0 1 + 1) from fun hh => absurd hh.1 (by decide)), if_neg (show ¬ (1 = 0 ∧ (L 1 i = 2 ∨ L 1 i = 3 ∨ L 1 i = 4) ∧ ¬ C 1 0 + C 1 1 + wl L i ≤ 248) from fun hh => absurd hh.1 (by decide))] at e1
  have HM1 := HM.g G1
  rw [e1]
  unfold l2 at hl
  have w0 := W.1.1
  by_cases hg : 300 < C 0 1 + 1
  · rw [if_pos hg] at hl; cases hl
  rw [if_neg hg] at hl
  have WG : asW n L 1 (un C 0 1 (C 0 1 + 1)) := W.gone (by omega)
  have z1 : ¬ Int32.ofNat 1 = 0 := by decide
  have hlk : J1 (m + 1) i = L 1 i := HM1.k hin
  by_cases h0 : L 1 i = 0
  · rw [if_pos h0] at hl
    cases hl
    unfold f210_b68
    obtain ⟨n1, -⟩ := hvi.nn (by rw [h0]; decide) (by rw [h0]; decide)
    have e0 : up2 J1 m 15 (L 2 i) = up2 J1 m 15 (Int32.ofNat (nT (L 2 i))) := by rw [← n1]
    rw [if_neg (fun hh => hh h0), ml2 HM1 hin hn, Option.bind_some, (HM1.2 i hin).2.1 (Or.inl h0), wI_ok, Option.bind_some, e0]
    refine ⟨_, rfl, G1.trans (asG.up0 (by omega)) (Nat.le_refl _), fun _ h8 => absurd h8 (by rw [h0]; decide), fun _ _ => ?_⟩
    rw [if_neg (by rw [h0]; decide)]
    exact T1.up T1.1.pr (up2_ne (by omega)) (fun b h1 h2 => up2_b (by omega)) ⟨rfl, rfl⟩
  rw [if_neg h0] at hl
  by_cases h1 : L 1 i = 1
  · rw [if_pos h1] at hl
    cases hl
    unfold f210_b68 f209
    rw [if_pos h0, if_pos (by rw [h1]; decide), if_pos (by rw [h1]; decide), if_pos (by rw [h1]; decide), if_neg z1, ixA_of (show i < 100 by omega), Option.bind_some, hlk, if_pos (by rw [h1]; decide), if_neg (by rw [h1]; decide), if_neg (by rw [h1]; decide), if_neg (by rw [h1]; decide), Option.bind_some]
    refine ⟨J1, rfl, G1, fun _ h8 => absurd h8 (by rw [h1]; decide), fun _ _ => ?_⟩
    rw [if_neg (by rw [h1]; decide)]
    exact T1
  rw [if_neg h1] at hl
  by_cases hb : (L 1 i = 2 ∨ L 1 i = 3 ∨ L 1 i = 4) ∧ ¬ (C 1 0 + C 1 1 + wl L i ≤ 248 ∧ (C 0 0 = 1 → C 8 0 + C 1 1 + wl L i ≤ 256))
  · rw [if_pos hb] at hl; cases hl
  rw [if_neg hb] at hl
  by_cases h4 : L 1 i = 4
  · rw [if_pos h4] at hl
    cases hl
    obtain ⟨n1, -⟩ := hvi.nn (by rw [h4]; decide) (by rw [h4]; decide)
    have ez : J1 (m + 4) (C 0 0) = Int32.ofNat (C 1 (C 0 0)) := T1.1.2.1 _ (by omega)
    have eM15 : ixA 2 (J1 m 15) = some (C 0 0) := M15 (C := un C 0 1 (C 0 1 + 1)) T1.1 w0
    unfold f210_b68 f209
    rw [if_pos h0, if_pos (by rw [h4]; decide), if_pos (by rw [h4]; decide), if_pos (by rw [h4]; decide), if_neg z1, ixA_of (show i < 100 by omega), Option.bind_some, if_neg (fun hh => hh (hlk.trans h4)), eM15, Option.bind_some, ml2 HM1 hin hn, Option.bind_some, Option.bind_some, (HM1.2 i hin).2.1 (Or.inr (Or.inr (Or.inl h4))), ez, wI_ok, Option.bind_some, Option.bind_some]
    have e0 : Int32.ofNat (C 1 (C 0 0)) + L 2 i = Int32.ofNat (C 1 (C 0 0) + nT (L 2 i)) := by rw [← eA, ← n1]
    dsimp only
    rw [e0]
    refine ⟨_, rfl, G1.trans (asG.up (by omega)) (Nat.le_refl _), fun _ h8 => absurd h8 (by rw [h4]; decide), fun _ _ => ?_⟩
    rw [if_neg (by rw [h4]; decide)]
    exact T1.up T1.1.sz (congrFun (up2_b (by omega)) _) (fun b h1 h2 => up2_b (by omega)) ⟨rfl, rfl⟩
  rw [if_neg h4] at hl
  by_cases h6 : L 1 i = 6
  · rw [if_pos h6] at hl
    have hb2 : un C 0 1 (C 0 1 + 1) 2 (nT (L 2 i)) ≤ 100 := by
      obtain ⟨n1, -, -, -, -, -, n6, -⟩ := hvi.nn (by rw [h6]; decide) (by rw [h6]; decide)
      have n6 := n6 h6
      by_cases hz : un C 0 1 (C 0 1 + 1) 2 (nT (L 2 i)) = 0
      · omega
      · obtain ⟨x1, x2, -⟩ := (WG.2.1 _ (by omega)).1 hz
        omega
    by_cases hm : C 2 (nT (L 2 i)) = 0 ∧ C 9 (nT (L 2 i)) = i + 1 ∧ C 10 (nT (L 2 i)) = nx n L i ∧ nx n L i < n ∧ ¬ L 1 (nx n L i) = 6
    · rw [if_pos hm] at hl
      cases hl
      obtain ⟨m1, m2, m3, m4, m5⟩ := hm
      rw [M210_6 hN T1 h5 HM1 hn hin hvi h6 hb2, if_pos (show un C 0 1 (C 0 1 + 1) 2 (nT (L 2 i)) = 0 from m1), if_neg (by omega), if_neg m5]
      obtain ⟨t1, t2⟩ := T1.mac (Nat.succ_ne_zero i) (a := nT (L 2 i)) (x := nx n L i)
      refine ⟨_, rfl, G1.trans t2 (Nat.le_refl _), fun _ h8 => absurd h8 (by rw [h6]; decide), fun _ _ => ?_⟩
      rw [if_pos h6]
      dsimp only
      rw [un_eq]
      exact t1
    · rw [if_neg hm] at hl; cases hl
  rw [if_neg h6] at hl
  by_cases h7 : L 1 i = 7
  · rw [if_pos h7] at hl; cases hl
  rw [if_neg h7] at hl
  by_cases hq : L 1 i = 8 ∧ (C 2 (nT (L 2 i)) = 0 ∨ nT (L 2 i) ∈ st)
  · rw [if_pos hq] at hl; cases hl
  rw [if_neg hq] at hl
  by_cases h8 : ¬ L 1 i = 8
  · have hk : L 1 i = 2 ∨ L 1 i = 3 ∨ L 1 i = 5 := by
      rcases hvi with h | h | h | h | h | h | h | h | h
      · exact absurd h.1 h0
      · exact absurd h.1 h1
      · exact Or.inl h.1
      · exact Or.inr (Or.inl h.1)
      · exact absurd h.1 h4
      · exact Or.inr (Or.inr h.1)
      · exact absurd h.1 h6
      · exact absurd h h7
      · exact absurd h.1 h8
    obtain ⟨J', x1, x2, x3⟩ := M209_b (kad := kad) (N := N) (Z := Z) hn hv hin HM1 T1 h5 W hu hu2 hg hk hb hl
    unfold f210_b68 f209
    rw [if_pos h0, if_pos h6, if_pos h7, if_pos h8, if_neg z1, ixA_of (show i < 100 by omega), Option.bind_some, hlk, if_pos h4]
    have ef : (if L 1 i = 2 then f209_b53 kad N Z m (Int32.ofNat i) ((5 : Int32) * Int32.ofNat i) (L 1 i) J1 else if L 1 i = 3 then f209_b53 kad N Z m (Int32.ofNat i) ((5 : Int32) * Int32.ofNat i) (L 1 i) J1 else if L 1 i = 5 then f209_b53 kad N Z m (Int32.ofNat i) ((5 : Int32) * Int32.ofNat i) (L 1 i) J1 else some (0, J1)) = some (Int32.ofNat r.1, J') := by
      rw [← x1]
      by_cases k2 : L 1 i = 2
      · rw [if_pos k2]
      · rw [if_neg k2]
        by_cases k3 : L 1 i = 3
        · rw [if_pos k3]
        · rw [if_neg k3]
          have k5 : L 1 i = 5 := by rcases hk with h | h | h; exact absurd h k2; exact absurd h k3; exact h
          rw [if_pos k5]
    rw [ef, Option.bind_some]
    refine ⟨J', rfl, G1.trans x2 (Nat.le_refl _), fun _ hh => absurd hh h8, fun hh _ => ?_⟩
    rw [if_neg h6]
    exact x3 hh
  have h8 := Classical.not_not.mp h8
  obtain ⟨n1, -, -, -, -, -, -, n8⟩ := hvi.nn (by rw [h8]; decide) (by rw [h8]; decide)
  have n8 := n8 h8
  obtain ⟨o1, o2⟩ := hvi.op (Or.inr (Or.inr (Or.inr h8)))
  have o2 := o2 h8
  obtain ⟨a1, a2, a3, a4, a5⟩ := ml8 HM1 hin h8
  have hns : ¬ nT (L 2 i) ∈ st := fun hh => hq ⟨h8, Or.inr hh⟩
  have hn2 : ¬ C 2 (nT (L 2 i)) = 0 := fun hh => hq ⟨h8, Or.inl hh⟩
  have hlen : st.length ≤ 4 := by
    have h := nd5 (a := nT (L 2 i)) (List.nodup_cons.mpr ⟨hns, H.2.2.2.1⟩) (fun b hb => by
      rcases List.mem_cons.mp hb with h | h
      · omega
      · exact H.2.2.2.2 b h)
    omega
  have eop : ∀ k x, opV k x use (un C 0 1 (C 0 1 + 1)) = opV k x use C := fun _ _ => rfl
  obtain ⟨J2, e2, z2, f2⟩ := M205 (kad := kad) (N := N) (Z := Z) T1 h5 WG o1 hu hu2
  rw [eop] at e2 z2
  have T2 := T1.n19 f2
  have HM2 := HM1.g (f2.g (d := 0))
  obtain ⟨-, -, b3, b4, -⟩ := ml8 HM2 hin h8
  obtain ⟨J3, e3, z3, f3⟩ := M205 (kad := kad) (N := N) (Z := Z) T2 h5 WG o2 hu hu2
  rw [eop] at e3 z3
  have T3 := T2.n19 f3
  unfold f210_b68
  rw [if_pos h0, if_pos h6, if_pos h7, if_neg (fun hh => hh h8)]
  unfold f206
  rw [show ixA 500 ((5 : Int32) * Int32.ofNat i + 4) = some (5 * i + 4) from m5k hn hin (by decide), Option.bind_some, a5, if_pos z1]
  unfold f206_b44
  rw [if_neg z1, ml2 HM1 hin hn, Option.bind_some, show ixA 500 ((5 : Int32) * Int32.ofNat i + 1) = some (5 * i + 1) from m5k hn hin (by decide), Option.bind_some, a1, a2, e2, Option.bind_some]
  unfold f206_b70
  rw [if_neg z1]
  unfold f206_b84
  dsimp only
  rw [if_neg z1, show ixA 500 ((5 : Int32) * Int32.ofNat i + 2) = some (5 * i + 2) from m5k hn hin (by decide), Option.bind_some, show ixA 500 ((5 : Int32) * Int32.ofNat i + 3) = some (5 * i + 3) from m5k hn hin (by decide), Option.bind_some, b3, b4, e3, Option.bind_some]
  unfold f206_b114 f206_b132
  rw [if_neg z1]
  have ea : L 2 i = Int32.ofNat (nT (L 2 i)) := n1
  have G3 : ∀ d, asG m d J J3 := fun d => (G0 d).trans (f2.g.trans f3.g (Nat.le_refl _)) (Nat.le_refl _)
  cases ho : opV (L 3 i) (L 4 i) use C with
  | none =>
    rw [ho] at hl z2
    dsimp only at hl z2 ⊢
    cases hl
    have hz2 : ¬ J2 m 19 = 0 := fun hh => oe_ne (z2.symm.trans hh)
    have key : ∀ y, ∃ J4, ((if ¬ J2 m 19 = 0 then f206_b134 kad N Z m (Int32.ofNat i) (L 2 i) 0 y (J2 m 19) J3 else f206_b134 kad N Z m (Int32.ofNat i) (L 2 i) 0 y (J3 m 19) J3).bind fun r123_6 => some (r123_6.1, r123_6.2)) = some (Int32.ofNat (100 * oe (L 3 i) + i), J4) ∧ asG m st.length J3 J4 := by
      intro y
      obtain ⟨J4, e4, g4, -⟩ := M134 (kad := kad) (N := N) (Z := Z) (x := i) T3 hlen (a := nT (L 2 i)) (by omega) hn2 0 y (J2 m 19)
      rw [← ea] at e4
      rw [if_pos hz2, e4, Option.bind_some, if_neg hz2, z2, e100m]
      exact ⟨J4, rfl, g4 _ (Nat.le_succ _)⟩
    obtain ⟨J4, e4, g4⟩ := key _
    exact ⟨J4, e4, (G3 _).trans g4 (Nat.le_refl _), fun hh => absurd hh (by have := oe_le (k := L 3 i); first | omega | (dsimp only; omega)), fun hh => absurd hh (by have := oe_le (k := L 3 i); first | omega | (dsimp only; omega))⟩
  | some v =>
    rw [ho] at hl z2
    dsimp only at hl z2 ⊢
    rw [if_neg (by rw [h8]; decide), if_neg (by rw [h8]; decide), if_neg (by rw [h8]; decide)] at hl
    rw [if_neg (fun hh => hh z2)]
    cases ho2 : opV (L 5 i) (L 6 i) use C with
    | none =>
      rw [ho2] at hl z3
      dsimp only at hl z3 ⊢
      cases hl
      have hz3 : ¬ J3 m 19 = 0 := fun hh => oe_ne (z3.symm.trans hh)
      obtain ⟨J4, e4, g4, -⟩ := M134 (kad := kad) (N := N) (Z := Z) (x := i) T3 hlen (a := nT (L 2 i)) (by omega) hn2 (Int32.ofNat v) 0 (J3 m 19)
      rw [← ea] at e4
      rw [e4, Option.bind_some, if_neg hz3, z3, e100m]
      exact ⟨J4, rfl, (G3 _).trans (g4 _ (Nat.le_succ _)) (Nat.le_refl _), fun hh => absurd hh (by have := oe_le (k := L 5 i); first | omega | (dsimp only; omega)), fun hh => absurd hh (by have := oe_le (k := L 5 i); first | omega | (dsimp only; omega))⟩
    | some w =>
      rw [ho2] at hl z3
      dsimp only at hl z3 ⊢
      cases hl
      have T4 : asT m 1 (i + 1) e use st (un (un (un C 0 1 (C 0 1 + 1)) 5 (C 0 2 + 1) (v + 1)) 6 (C 0 2 + 1) (w + 1)) J3 := T3.up T3.1.ar rfl (fun _ _ _ => rfl) (by
        have := H.2.2.1.1
        rw [un_b (show ¬ 5 = 6 by decide), un_ne (show ¬ (5 = 5 ∧ use = C 0 2 + 1) by omega), un_ne (show ¬ (6 = 6 ∧ use = C 0 2 + 1) by omega), un_b (show ¬ 6 = 5 by decide)]
        exact ⟨rfl, rfl⟩)
      obtain ⟨J4, e4, g4, t4⟩ := M134 (kad := kad) (N := N) (Z := Z) (x := i) T4 hlen (a := nT (L 2 i)) (by omega) hn2 (Int32.ofNat v) (Int32.ofNat w) (J3 m 19)
      rw [← ea] at e4
      rw [e4, Option.bind_some, if_pos z3]
      refine ⟨J4, rfl, (G3 _).trans (g4 _ (Nat.le_succ _)) (Nat.le_refl _), fun _ _ => ⟨(G3 _).trans (g4 _ (Nat.le_refl _)) (Nat.le_refl _), t4 (fun _ => ⟨?_, ?_⟩)⟩, fun _ hh => absurd h8 hh⟩
      · show Int32.ofNat v = Int32.ofNat (un (un (un C 0 1 (C 0 1 + 1)) 5 (C 0 2 + 1) (v + 1)) 6 (C 0 2 + 1) (w + 1) 5 (C 0 2 + 1) - 1)
        rw [un_b (by decide), un_eq, Nat.add_sub_cancel]
      · show Int32.ofNat w = Int32.ofNat (un (un (un C 0 1 (C 0 1 + 1)) 5 (C 0 2 + 1) (v + 1)) 6 (C 0 2 + 1) (w + 1) 6 (C 0 2 + 1) - 1)
        rw [un_eq, Nat.add_sub_cancel]
end AS
