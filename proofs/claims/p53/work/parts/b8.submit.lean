/-! p53: a submission; its results hang on the image and the tests alone -/
/-- all that a test's run asks of the place where it is made -/
def spE (kad : Nat → Nat) (Z : AZ) (a κ b τ : Nat) : Prop := (sh8 kad Z a ∧ (κ + 9 ≤ a ∨ a + 17 ≤ κ)) ∧ (Z.2.1 a 7 (Z.2.2 a 7 κ) = κ ∧ Z.1 b = some (100, 256)) ∧ ((b < a ∨ a + 17 ≤ b) ∧ (b < κ ∨ κ + 9 ≤ b)) ∧ ((τ + 3 ≤ a ∨ a + 17 ≤ τ) ∧ (τ + 3 ≤ κ ∨ κ + 9 ≤ τ)) ∧ Z.1 (τ + 2) = some (100, 6)
section PB
variable {kad : Nat → Nat} {N : Nat} {Z : AZ} {T : AI} {M : Nat → Int32} {t bu n : Nat}
/-- the judge's answer, found ahead of the place -/
theorem K127p (hN : 2000 ≤ N) {X : AI} (h8 : T 8 t = 0 ∨ T 8 t = 1) (h2 : upto 6 (T 2 t)) (hx : ∃ tp, X 1 12 = Int32.ofNat tp ∧ tp ≤ 60) (hw : X 9 0 = 0 → LW (X 9)) : ∃ v, upto 5 v ∧ ∀ (a κ τ : Nat) (I : AI), RM a I X → CTt τ t T I → Z.1 (τ + 2) = some (100, 6) → Ok (f120_b127 kad N Z τ a κ I) (fun _ J => tDone a κ τ t T I v J) := by
  by_cases hh : ∃ (a κ τ : Nat) (I : AI), RM a I X ∧ CTt τ t T I ∧ Z.1 (τ + 2) = some (100, 6)
  · obtain ⟨a, κ, τ, I, q1, q2, q3⟩ := hh
    obtain ⟨v, v1, -⟩ := K127 (kad := kad) (κ := κ) hN q1 q2 h8 q3 h2 hx hw
    refine ⟨v, jdg_up v1, fun a' κ' τ' I' p1 p2 p3 => ?_⟩
    obtain ⟨u, u1, u2⟩ := K127 (kad := kad) (κ := κ') hN p1 p2 h8 p3 h2 hx hw
    rw [jdg_one v1 u1]
    exact u2
  · exact ⟨0, ⟨0, rfl, by decide⟩, fun a κ τ I q1 q2 q3 => absurd ⟨a, κ, τ, I, q1, q2, q3⟩ hh⟩
theorem Tp_loop (hN : 2000 ≤ N) (hM : ∀ k, k < 256 → wd (M k)) (h2 : upto 6 (T 2 t)) (h3 : T 3 t = Int32.ofNat bu) (hbu : bu ≤ 500) (h8 : T 8 t = 0 ∨ T 8 t = 1) :
    ∀ (r i q s : Nat) (X : AI), i + r = bu → Inv q s X → s ≤ i →
    ∃ v, upto 5 v ∧ ∀ (a κ b τ F : Nat) (I : AI), r < F → spE kad Z a κ b τ → RM a I X → CTt τ t T I → (∀ k, k < 256 → I b k = M k) → Ok (f120_b63 kad N Z F τ a κ b (Int32.ofNat (i + 1)) I) (fun _ I' => tDone a κ τ t T I v I') := by
  intro r
  induction r with
  | zero =>
    intro i q s X hi hI hs
    have hx : ∃ tp, X 1 12 = Int32.ofNat tp ∧ tp ≤ 60 := by
      obtain ⟨tp, a1, a2, -⟩ := hI.1.1.2.1.2.1
      exact ⟨tp, a1, a2⟩
    obtain ⟨v, v1, v2⟩ := K127p (kad := kad) (Z := Z) hN h8 h2 hx hI.1.2.lw
    refine ⟨v, v1, fun a κ b τ F I hF hE H hT hrow => ?_⟩
    obtain ⟨F, rfl⟩ : ∃ G, F = G + 1 := ⟨F - 1, by omega⟩
    unfold f120_b63
    rw [if_pos (show I τ 5 < Int32.ofNat (i + 1) from by rw [hT.2.1.1, h3]; exact (of_lt (by omega) (by omega)).mpr (by omega))]
    exact v2 a κ τ I H hT hE.2.2.2.2
  | succ r ih =>
    intro i q s X hi hI hs
    by_cases h1 : X 1 0 = 1
    · have hI1 := hI.step
      -- one step, and whether it crashes there
      have goes : ∀ (X2 : AI) (q2 s2 : Nat), Inv q2 s2 X2 → s2 ≤ i + 1 → (∀ (a κ b τ F : Nat) (I : AI), spE kad Z a κ b τ → RM a I X → CTt τ t T I → (∀ k, k < 256 → I b k = M k) → ∃ I2, f120_b63 kad N Z (F + 1) τ a κ b (Int32.ofNat (i + 1)) I = f120_b63 kad N Z F τ a κ b (Int32.ofNat (i + 1) + 1) I2 ∧ RM a I2 X2 ∧ ∀ b', ¬ (a ≤ b' ∧ b' < a + 17) → ¬ (κ ≤ b' ∧ b' < κ + 9) → I2 b' = I b') → ∃ v, upto 5 v ∧ ∀ (a κ b τ F : Nat) (I : AI), r + 1 < F → spE kad Z a κ b τ → RM a I X → CTt τ t T I → (∀ k, k < 256 → I b k = M k) → Ok (f120_b63 kad N Z F τ a κ b (Int32.ofNat (i + 1)) I) (fun _ I' => tDone a κ τ t T I v I') := fun X2 q2 s2 k1 k2 k3 => by
        obtain ⟨v, v1, v2⟩ := ih (i + 1) q2 s2 X2 (by omega) k1 k2
        refine ⟨v, v1, fun a κ b τ F I hF hE H hT hrow => ?_⟩
        obtain ⟨F, rfl⟩ : ∃ G, F = G + 1 := ⟨F - 1, by omega⟩
        obtain ⟨I2, e1, e2, e3⟩ := k3 a κ b τ F I hE H hT hrow
        obtain ⟨⟨c1, c2⟩, ⟨c3, c4⟩, ⟨c5, c6⟩, ⟨c7, c8⟩, c9⟩ := id hE
        rw [e1, of_s]
        refine (v2 a κ b τ F I2 (by omega) hE e2 (hT.cong (fun b' b1 b2 => e3 b' (by omega) (by omega))) (fun k hk => by rw [e3 b (by omega) (by omega)]; exact hrow k hk)).mono fun _ I' ⟨x1, x2, x3⟩ => ⟨x1, fun j j2 j9 => ?_, fun b' b1 b2 b3 => ?_⟩
        · rw [x2 j j2 j9, e3 τ (by omega) (by omega)]
        · rw [x3 b' b1 b2 b3, e3 b' b1 b2]
      -- the step itself
      have pre : ∀ (a κ b τ F : Nat) (I : AI), spE kad Z a κ b τ → RM a I X → CTt τ t T I → ∃ I1, (f120_b63 kad N Z (F + 1) τ a κ b (Int32.ofNat (i + 1)) I = if ¬ Int32.ofNat (i + 1) = T 6 t then f120_b63 kad N Z F τ a κ b (Int32.ofNat (i + 1) + 1) I1 else if ¬ sStep X 1 0 = 1 then f120_b63 kad N Z F τ a κ b (Int32.ofNat (i + 1) + 1) I1 else (f81 kad N Z a I1).bind fun r105_3 => (f72 kad N Z (a + 10) r105_3.2).bind fun r112_4 => (f80 kad N Z a b r112_4.2).bind fun r117_5 => f120_b63 kad N Z F τ a κ b (Int32.ofNat (i + 1) + 1) r117_5.2) ∧ RM a I1 (sStep X) ∧ ∀ b', ¬ (a ≤ b' ∧ b' < a + 17) → ¬ (κ ≤ b' ∧ b' < κ + 9) → I1 b' = I b' := fun a κ b τ F I hE H hT => by
        obtain ⟨⟨c1, c2⟩, ⟨c3, c4⟩, ⟨c5, c6⟩, ⟨c7, c8⟩, c9⟩ := hE
        have c82 : f82 kad N Z a I = some (if X 1 0 = 1 ∧ s < 1000 then 1 else 0, I) := K82 H hI.2.2 (by omega)
        rw [if_pos (show X 1 0 = 1 ∧ s < 1000 from ⟨h1, by omega⟩)] at c82
        obtain ⟨x1, I1, e1, H1, f1⟩ := spare_step (kad := kad) hN c1 c2 c3 hI.okm H
        have hT1 : CTt τ t T I1 := hT.cong (fun b' b1 b2 => f1 b' (by omega) (by omega))
        refine ⟨I1, ?_, H1, f1⟩
        conv => lhs; unfold f120_b63
        rw [if_neg (show ¬ I τ 5 < Int32.ofNat (i + 1) from by rw [hT.2.1.1, h3]; exact fun h => absurd ((of_lt (by omega) (by omega)).mp h) (by omega)), c82, Option.bind_some]
        dsimp only
        rw [if_neg z10, e1, Option.bind_some]
        dsimp only
        have g8 : I1 τ 8 = T 6 t := hT1.2.1.2.2.2
        have g9 : I1 (a + 1) 0 = sStep X 1 0 := H1.f1
        rw [← g8, ← g9]
        rfl
      by_cases hc : Int32.ofNat (i + 1) = T 6 t
      · by_cases hr : sStep X 1 0 = 1
        · obtain ⟨rr, D', hmd, -, hD0, hDw⟩ := hI1.1.2.dk.md
          have hW := wake_inv (W := sStep X 8 1 + Int32.ofNat rr) hM ⟨hD0, hDw⟩ K0_ok (fun k hk => absurd hk (by omega))
          rw [← tr_0, K0_tr] at hW
          refine goes _ 0 0 hW (by omega) fun a κ b τ F I hE H hT hrow => ?_
          obtain ⟨I1, e1, H1, f1⟩ := pre a κ b τ F I hE H hT
          obtain ⟨⟨c1, c2⟩, ⟨c3, c4⟩, ⟨c5, c6⟩, ⟨c7, c8⟩, c9⟩ := hE
          rw [if_neg (fun hh => hh hc), if_neg (fun hh => hh hr)] at e1
          have hrow1 : ∀ k, k < 256 → I1 b k = M k := fun k hk => by rw [f1 b (by omega) (by omega)]; exact hrow k hk
          obtain ⟨x3, I2, e3, H2, f2⟩ := C81 (kad := kad) hN c1 hI1.2.1.1 (H1.ck hI1.2.1.1) (D := sStep X 9) (W := sStep X 8 1) (fun k hk => H1 9 k (by decide) hk) (H1 8 1 (by decide) rfl)
          rw [e3, Option.bind_some] at e1
          dsimp only at e1
          unfold f72 at e1
          rw [wI_ok, Option.bind_some, Option.bind_some] at e1
          dsimp only at e1
          have o2 : ∀ b, ¬ b = a + 10 → up2 I2 (a + 10) 0 0 b = I2 b := fun b hb => up2_b hb
          obtain ⟨x4, I3, e4, x5, H3, f3⟩ := C80 (kad := kad) (Z := Z) (I := up2 I2 (a + 10) 0 0) (K := K0) (q := 0) (M := M) (D := sStep X 9) (D' := D') (r := rr) (W := sStep X 8 1) hN c1 K0_ok ⟨up2_eq, fun k hk => absurd hk (by omega)⟩ hmd (fun k hk => by rw [o2 _ (by omega), H2 9 k (by decide) hk, ov_r9, off_9]) (by rw [o2 _ (by omega), H2 8 1 (by decide) rfl, ov_r8, off_8]) c4 (by omega) (fun k hk => by rw [o2 b (by omega), f2 b (by omega)]; exact hrow1 k hk)
          rw [e4, Option.bind_some] at e1
          dsimp only at e1
          rw [← tr_0, K0_tr] at H3
          refine ⟨I3, e1, H3, fun b' b1 b2 => ?_⟩
          rw [f3 b' (by omega), o2 b' (by omega), f2 b' (by omega), f1 b' b1 b2]
        · refine goes (sStep X) q (s + 1) hI1 (by omega) fun a κ b τ F I hE H hT hrow => ?_
          obtain ⟨I1, e1, H1, f1⟩ := pre a κ b τ F I hE H hT
          rw [if_neg (fun hh => hh hc), if_pos hr] at e1
          exact ⟨I1, e1, H1, f1⟩
      · refine goes (sStep X) q (s + 1) hI1 (by omega) fun a κ b τ F I hE H hT hrow => ?_
        obtain ⟨I1, e1, H1, f1⟩ := pre a κ b τ F I hE H hT
        rw [if_pos hc] at e1
        exact ⟨I1, e1, H1, f1⟩
    · have hx : ∃ tp, X 1 12 = Int32.ofNat tp ∧ tp ≤ 60 := by
        obtain ⟨tp, a1, a2, -⟩ := hI.1.1.2.1.2.1
        exact ⟨tp, a1, a2⟩
      obtain ⟨v, v1, v2⟩ := K127p (kad := kad) (Z := Z) hN h8 h2 hx hI.1.2.lw
      refine ⟨v, v1, fun a κ b τ F I hF hE H hT hrow => ?_⟩
      obtain ⟨F, rfl⟩ : ∃ G, F = G + 1 := ⟨F - 1, by omega⟩
      have c82 : f82 kad N Z a I = some (if X 1 0 = 1 ∧ s < 1000 then 1 else 0, I) := K82 H hI.2.2 (by omega)
      rw [if_neg (show ¬ (X 1 0 = 1 ∧ s < 1000) from fun h => h1 h.1)] at c82
      unfold f120_b63
      rw [if_neg (show ¬ I τ 5 < Int32.ofNat (i + 1) from by rw [hT.2.1.1, h3]; exact fun h => absurd ((of_lt (by omega) (by omega)).mp h) (by omega)), c82, Option.bind_some]
      dsimp only
      rw [if_pos (show (0 : Int32) = 0 from rfl)]
      exact v2 a κ τ I H hT hE.2.2.2.2
theorem Tp_one (hN : 2000 ≤ N) (hM : ∀ k, k < 256 → wd (M k)) (hI : TIt n t T) : ∃ v, upto 5 v ∧ ∀ (a κ b τ : Nat) (I : AI), spE kad Z a κ b τ → CTt τ t T I → (∀ k, k < 256 → I b k = M k) → Ok (f120 kad N Z τ a b κ I) (fun _ I' => tDone a κ τ t T I v I') := by
  obtain ⟨⟨⟨p, hp, hp6⟩, h2⟩, ⟨⟨bu, h3, hbu⟩, -, -, -⟩, ⟨-, h8, -⟩, hw⟩ := hI
  have hKw : ∀ k, k < p → wd (Kt T t p 11 k) := fun k hk => by rw [Kt_11]; exact (hw k (by omega)).1
  have hKo : okK p (Kt T t p) := Kt_ok (by omega)
  have hX0 := wake_inv (W := 0 + Int32.ofNat 0) hM fD_ok hKo hKw
  obtain ⟨v, v1, v2⟩ := Tp_loop (kad := kad) (Z := Z) hN hM h2 h3 hbu h8 bu 0 p 0 (sKeys (ov (Kt T t p) (wake M fD (0 + Int32.ofNat 0)))) (by omega) hX0 (Nat.le_refl _)
  refine ⟨v, v1, fun a κ b τ I hE hT hrow => ?_⟩
  obtain ⟨⟨c1, c2⟩, ⟨c3, c4⟩, ⟨c5, c6⟩, ⟨c7, c8⟩, c9⟩ := id hE
  obtain ⟨x1, I1, e1, a1, a2, a3⟩ := K42 (kad := kad) (Z := Z) (d := a + 8) (I := I) hN (sh3_a0 (sh8_s3 c1))
  have o1 : ∀ b, ¬ b = a + 8 → ¬ b = a + 9 → ¬ b = a + 10 → up2 I1 (a + 10) 0 0 b = I b := fun b b1 b2 b3 => by rw [up2_b b3, a3 b b1 b2]
  obtain ⟨I2, e2, hC, f2⟩ := K120_k (kad := kad) (N := N) (Z := Z) (κ := κ) (b := b) hN hp6 hp c7 p 0 N (up2 I1 (a + 10) 0 0) (by omega) (by omega) (hT.cong (fun b b1 b2 => o1 b (by omega) (by omega) (by omega))) ⟨by rw [up2_eq, Kt_10]; rfl, fun k hk => absurd hk (by omega)⟩
  obtain ⟨x2, I3, e3, x3, H3, f3⟩ := C80 (kad := kad) (Z := Z) (I := I2) (K := Kt T t p) (M := M) (D := fD) (D' := fD) (r := 0) (W := 0) hN c1 hKo hC (Or.inl ⟨fD_ok.1, fD_ok.2, rfl, rfl⟩) (fun k hk => by rw [f2 _ (by omega) (by omega) (by omega), up2_b (by omega)]; exact a1 k hk) (by rw [f2 _ (by omega) (by omega) (by omega), up2_b (by omega)]; exact a2) c4 (by omega) (fun k hk => by rw [f2 b (by omega) (by omega) (by omega), o1 b (by omega) (by omega) (by omega)]; exact hrow k hk)
  have fI : ∀ b, ¬ (a ≤ b ∧ b < a + 17) → I3 b = I b := fun b hb => by rw [f3 b (by omega), f2 b (by omega) (by omega) (by omega), o1 b (by omega) (by omega) (by omega)]
  have v3 := v2 a κ b τ N I3 (by omega) hE H3 (hT.cong (fun b c1 c2 => fI b (by omega))) (fun k hk => by rw [fI b (by omega)]; exact hrow k hk)
  unfold f120
  rw [e1, Option.bind_some]
  unfold f72
  dsimp only
  rw [wI_ok, Option.bind_some, Option.bind_some]
  dsimp only
  rw [show (0 : Int32) = Int32.ofNat 0 from rfl] at e2
  rw [show f120_b17 kad N Z N τ a κ b (0 : Int32) (up2 I1 (a + 10) 0 0) = f120_b54 kad N Z τ a κ b I2 from e2]
  unfold f120_b54
  rw [e3, Option.bind_some]
  refine v3.mono fun _ I' ⟨z1, z2, z3⟩ => ⟨z1, fun j j2 j9 => ?_, fun b c1 c2 c3 => ?_⟩
  · rw [z2 j j2 j9, fI τ (by omega)]
  · rw [z3 b c1 c2 c3, fI b c1]
theorem Tp_all (hN : 2000 ≤ N) (hM : ∀ k, k < 256 → wd (M k)) :
    ∀ (r t : Nat) (T : AI) (acc : Nat), t + r = n → TI n T → ∃ T' acc', (TI n T' ∧ acc' ≤ acc + r) ∧ ∀ (g F : Nat) (I : AI), r < F → envG kad N Z g → CT g T I → (∀ k, k < 256 → I (g + 113) k = M k) → Ok (f180_b8 kad N Z F g (Int32.ofNat acc) (Int32.ofNat t) I) (fun x I' => x = .inl (Int32.ofNat acc') ∧ CT g T' I' ∧ frCS g I I') := by
  intro r
  induction r with
  | zero =>
    intro t T acc ht hT
    refine ⟨T, acc, ⟨hT, by omega⟩, fun g F I hF hE HC hrow => ?_⟩
    obtain ⟨F, rfl⟩ : ∃ G, F = G + 1 := ⟨F - 1, by omega⟩
    have hn := hT.1
    unfold f180_b8 f180_b60
    rw [HC.1.1, hn.1, if_pos ((of_le (by omega) (by omega)).mpr (by omega))]
    exact Ok.ret ⟨rfl, HC, fun _ _ _ => rfl⟩
  | succ r ih =>
    intro t T acc ht hT
    have hn := hT.1
    obtain ⟨v, hv, hd⟩ := Tp_one (kad := kad) (Z := Z) (n := n) hN hM (hT.2.2.2 t (by omega))
    obtain ⟨T', acc', ⟨k1, ka⟩, k2⟩ := ih (t + 1) (tRes T t v) (if v = 0 then acc + 1 else acc) (by omega) (hT.res (by omega) hv)
    refine ⟨T', acc', ⟨k1, by split at ka <;> omega⟩, fun g F I hF hE HC hrow => ?_⟩
    obtain ⟨F, rfl⟩ : ∃ G, F = G + 1 := ⟨F - 1, by omega⟩
    obtain ⟨-, hg, -, -, zs⟩ := id hE
    have zz := sh9_a4 (sh10_f11 hg t (by omega))
    obtain ⟨x1, I1, e1, hd1⟩ := hd (g + 143) (g + 169) (g + 113) (g + (1982 + 3 * t)) I ⟨⟨sh10_s8 hg, by omega⟩, ⟨zs, sh10_a1 hg⟩, ⟨by omega, by omega⟩, ⟨by omega, by omega⟩, zz⟩ (HC.2.2 t (by omega)) hrow
    have HC1 := HC.res (by omega) hd1
    have fC : frCS g I I1 := fun b b1 b2 => hd1.2.2 b (by omega) (by omega) (by omega)
    have k3 := k2 g F I1 (by omega) hE HC1 (fun k hk => by rw [fC _ (by omega) (by omega)]; exact hrow k hk)
    unfold f180_b8
    rw [HC.1.1, hn.1, if_neg (fun h => absurd ((of_le (by omega) (by omega)).mp h) (by omega)), if_neg (show ¬ (5 : Int32) ≤ Int32.ofNat t from fun h => absurd ((of_le (m := 5) (by decide) (by omega)).mp h) (by omega)), ixA_of (by omega), Option.bind_some, e1, Option.bind_some]
    dsimp only
    unfold f180_b54
    have e2' : I1 (g + (1982 + 3 * t)) 2 = v := hd1.1.1
    have fin : ∀ acc2 : Int32, Ok (f180_b8 kad N Z F g acc2 (Int32.ofNat (t + 1)) I1) (fun x I' => x = .inl (Int32.ofNat acc') ∧ CT g T' I' ∧ frCS g I1 I') → Ok (f180_b8 kad N Z F g acc2 (Int32.ofNat t + 1) I1) (fun x I' => x = .inl (Int32.ofNat acc') ∧ CT g T' I' ∧ frCS g I I') := fun acc2 hk => by
      rw [of_s]
      exact hk.mono fun x I' ⟨z1, z2, z3⟩ => ⟨z1, z2, fC.trans z3⟩
    by_cases hx : v = 0
    · rw [if_neg (show ¬ ¬ I1 (g + (1982 + 3 * t)) 2 = 0 from fun hh => hh (e2'.trans hx))]
      rw [if_pos hx, ← of_s] at k3
      exact fin _ k3
    · rw [if_pos (show ¬ I1 (g + (1982 + 3 * t)) 2 = 0 from fun hh => hx (e2'.symm.trans hh))]
      rw [if_neg hx] at k3
      exact fin _ k3
theorem CI.sub {g : Nat} {I I' T' : AI} {A : XA} (H : CI g A I) (hc : frCS g I I') (hT : CT g T' I') : CI g (A.1, (A.2.1, (A.2.2.1, (A.2.2.2.1, T')))) I' := by
  obtain ⟨⟨⟨a1, a0⟩, a2⟩, ⟨b1, b2⟩, c, d⟩ := H
  refine ⟨⟨⟨a1.o (congrFun (hc _ (by omega) (by omega)) 0) (fun i hi => hc _ (by omega) (by omega)), a0⟩, fun q hq => ?_⟩, ⟨?_, fun k hk => ?_⟩, c.cong (congrFun (hc _ (by omega) (by omega)) 5) (fun b h1 h2 => hc _ (by omega) (by omega)) ⟨hc _ (by omega) (by omega), hc _ (by omega) (by omega)⟩ (fun b h1 h2 => hc _ (by omega) (by omega)), hT⟩
  · rw [hc _ (by omega) (by omega)]; exact a2 q hq
  · rw [hc _ (by omega) (by omega)]; exact b1
  · rw [hc _ (by omega) (by omega)]; exact b2 k hk
theorem P180 {A : XA} (hN : 2000 ≤ N) (h : okA A) : ∃ th v T', CALL kad N Z [1] (fun g I => f180 kad N Z g I) A th v (A.1, (A.2.1, (A.2.2.1, (A.2.2.2.1, T')))) ∧ (¬ th = 0 → T' = A.2.2.2.2) ∧ (th = 0 → ∃ k, k ≤ 1000 ∧ v = Int32.ofNat k) := by
  by_cases h2 : A.2.1.1 = 0
  · exact ⟨1, 0, A.2.2.2.2, CALL.q h (by decide) fun g I hE H => K180_0 (H.2.1.1.trans h2), fun _ => rfl, fun hh => absurd hh (by decide)⟩
  · obtain ⟨T', acc, ⟨k1, ka⟩, k2⟩ := Tp_all (kad := kad) (Z := Z) (n := A.2.2.2.1) (M := A.2.1.2) hN h.2.1.2 A.2.2.2.1 0 A.2.2.2.2 0 (by omega) h.2.2.2
    have hn5 : A.2.2.2.1 ≤ 5 := h.2.2.2.1.2
    refine ⟨0, Int32.ofNat acc, T', ⟨⟨Nat.zero_le _, h.1, h.2.1, h.2.2.1, k1⟩, fun g I hE H => ?_⟩, fun hh => absurd rfl hh, fun _ => ⟨acc, by omega, rfl⟩⟩
    obtain ⟨x, J, e1, rfl, e2, e3⟩ := k2 g N I (by omega) hE H.2.2.2 H.2.1.2
    refine ⟨J, ?_, H.sub e3 e2, fun b hb => e3 b (by omega) (by omega)⟩
    show f180 kad N Z g I = _
    unfold f180 f140
    rw [if_pos (fun hh => h2 (H.2.1.1.symm.trans hh)), Option.bind_some, xB_l]
    exact e1
end PB
