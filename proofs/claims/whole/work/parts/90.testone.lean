/-! one test, from its keys to its judging, in both -/
def Kt (T : AI) (t p : Nat) : AI := fun c k => if c = 10 then Int32.ofNat p else if c = 11 then T (10 + t) k else 0
section TO
variable {kad : Nat → Nat} {N : Nat} {Z : AZ} {a b m n t τ κ p : Nat} {I J T X : AI} {v w : Int32} {M : Nat → Int32}
theorem Kt_10 {k : Nat} : Kt T t p 10 k = Int32.ofNat p := by unfold Kt; rw [if_pos rfl]
theorem Kt_11 {k : Nat} : Kt T t p 11 k = T (10 + t) k := by unfold Kt; rw [if_neg (by decide), if_pos rfl]
theorem Kt_12 {k : Nat} : Kt T t p 12 k = 0 := by unfold Kt; rw [if_neg (by decide), if_neg (by decide)]
theorem Kt_ok (hp : p ≤ 20) : okK p (Kt T t p) := ⟨Kt_10, hp, fun i j _ _ => by rw [Kt_12, Kt_12]; exact Int32.le_refl _⟩
theorem Kt_come (hp : p ≤ 20) : sCome (Kt T t p) 0 21 0 = p := sCome_of (Kt_ok hp) (Nat.le_refl _) (fun i _ => by rw [Kt_12]; exact Int32.le_refl _) (fun h => absurd h (by omega)) 21 0 rfl (by omega)
theorem K120_k (hN : 2000 ≤ N) (hp : p ≤ 6) (h1 : T 1 t = Int32.ofNat p) (hτ : τ + 3 ≤ a ∨ a + 17 ≤ τ) : ∀ (r i F : Nat) (I : AI), i + r = p → r < F → CTt τ t T I → CK i a (Kt T t i) I → ∃ J, f120_b17 kad N Z F τ a κ b (Int32.ofNat i) I = f120_b54 kad N Z τ a κ b J ∧ CK p a (Kt T t p) J ∧ ∀ b, ¬ b = a + 10 → ¬ b = a + 11 → ¬ b = a + 12 → J b = I b := by
  intro r
  induction r with
  | zero =>
    intro i F I hi hF hT hC
    obtain ⟨F, rfl⟩ : ∃ G, F = G + 1 := ⟨F - 1, by omega⟩
    have e : i = p := by omega
    subst e
    refine ⟨I, ?_, hC, fun _ _ _ _ => rfl⟩
    unfold f120_b17
    rw [hT.1.1, h1, if_pos (Int32.le_refl _)]
  | succ r ih =>
    intro i F I hi hF hT hC
    obtain ⟨F, rfl⟩ : ∃ G, F = G + 1 := ⟨F - 1, by omega⟩
    obtain ⟨x, I1, e1, ⟨h10, hr⟩, f1, -⟩ := K74 (kad := kad) (Z := Z) (k := a + 10) (t := 0) (v := T (10 + t) i) hN (Kt_ok (T := T) (t := t) (p := i) (by omega)) (by omega) hC.1 (fun j hj => hC.2 j hj)
    have hC1 : CK (i + 1) a (Kt T t (i + 1)) I1 := by
      refine ⟨by rw [h10, Kt_10], fun k hk => ?_⟩
      obtain ⟨r1, r2⟩ := hr k hk
      rw [Kt_come (by omega)] at r1 r2
      refine ⟨r1.trans ?_, r2.trans ?_⟩
      · rw [Kt_11]
        unfold insK
        rw [if_neg (by decide), if_pos rfl]
        by_cases h : k < i
        · rw [if_pos h, Kt_11]
        · rw [if_neg h, if_pos (by omega), show k = i by omega]
      · rw [Kt_12]
        unfold insK
        rw [if_neg (by decide), if_neg (by decide)]
        by_cases h : k < i
        · rw [if_pos h, Kt_12]
        · rw [if_neg h, if_pos (by omega)]
    obtain ⟨J, j1, j2, j3⟩ := ih (i + 1) F I1 (by omega) (by omega) (hT.cong (fun b b1 b2 => f1 b (by omega) (by omega) (by omega))) hC1
    refine ⟨J, ?_, j2, fun b b1 b2 b3 => by rw [j3 b b1 b2 b3, f1 b b1 b2 b3]⟩
    unfold f120_b17
    rw [hT.1.1, h1, if_neg (fun h => absurd ((of_le (by omega) (by omega)).mp h) (by omega)), if_neg (show ¬ (6 : Int32) ≤ Int32.ofNat i from fun h => absurd ((of_le (m := 6) (by decide) (by omega)).mp h) (by omega)), ixA_of (by omega), Option.bind_some, (hT.2.2 i (by omega)).1, e1, Option.bind_some]
    dsimp only
    rw [of_s]
    exact j1
theorem M301_k (hp : p ≤ 6) (ht : t < 5) {Y : AI} (h43 : Y m 43 = Int32.ofNat p) : ∀ (r i F : Nat), i + r = p → r < F → f301_b16 kad N Z F m (Int32.ofNat t) (Int32.ofNat i) (st2 Y (m + 18) (m + 19) 0 i (fun _ => 0) (fun k => Y (m + 30) (6 * t + k))) = (f222 kad N Z m (m + 14) (st2 Y (m + 18) (m + 19) 0 p (fun _ => 0) (fun k => Y (m + 30) (6 * t + k)))).bind fun r59_1 => (f224 kad N Z m r59_1.2).bind fun r63_2 => f301_b68 kad N Z N m (Int32.ofNat t) 0 r63_2.2 := by
  intro r
  induction r with
  | zero =>
    intro i F hi hF
    obtain ⟨F, rfl⟩ : ∃ G, F = G + 1 := ⟨F - 1, by omega⟩
    have e : i = p := by omega
    subst e
    unfold f301_b16
    rw [if_pos (show st2 Y (m + 18) (m + 19) 0 i (fun _ => 0) (fun k => Y (m + 30) (6 * t + k)) m 43 ≤ Int32.ofNat i from by rw [st2_o (by omega) (by omega), h43]; exact Int32.le_refl _)]
  | succ r ih =>
    intro i F hi hF
    obtain ⟨F, rfl⟩ : ∃ G, F = G + 1 := ⟨F - 1, by omega⟩
    unfold f301_b16
    rw [if_neg (show ¬ st2 Y (m + 18) (m + 19) 0 i (fun _ => 0) (fun k => Y (m + 30) (6 * t + k)) m 43 ≤ Int32.ofNat i from by rw [st2_o (by omega) (by omega), h43]; exact fun h => absurd ((of_le (by omega) (by omega)).mp h) (by omega)), ixA_of (by omega), Option.bind_some, wI_ok, Option.bind_some, show (6 : Int32) * Int32.ofNat t + Int32.ofNat i = Int32.ofNat (6 * t + i) from by rw [← eA, ← eM]; rfl, ixA_of (by omega), Option.bind_some, Option.bind_some, wI_ok, Option.bind_some]
    have e30 : up2 (st2 Y (m + 18) (m + 19) 0 i (fun _ => 0) (fun k => Y (m + 30) (6 * t + k))) (m + 18) i 0 (m + 30) (6 * t + i) = Y (m + 30) (6 * t + i) := by rw [up2_b (by omega)]; exact st2_o' (by omega) (by omega)
    have hs := st2_s (I := Y) (b := m + 18) (e := m + 19) (d := 0) (n := i) (f := fun _ => 0) (h := fun k => Y (m + 30) (6 * t + k)) (by omega)
    rw [Nat.zero_add] at hs
    rw [e30, hs, of_s]
    exact ih (i + 1) F (by omega) (by omega)
theorem T_one (hN : 2000 ≤ N) (ha : sh8 kad Z a) (hm : sh11 kad Z m) (hd : κ + 9 ≤ a ∨ a + 17 ≤ κ) (zk : Z.2.1 a 7 (Z.2.2 a 7 κ) = κ) (zb : Z.1 b = some (100, 256)) (hb : b < a ∨ a + 17 ≤ b) (hbκ : b < κ ∨ κ + 9 ≤ b) (hτ : τ + 3 ≤ a ∨ a + 17 ≤ τ) (hτκ : τ + 3 ≤ κ ∨ κ + 9 ≤ τ) (hz : Z.1 (τ + 2) = some (100, 6)) (ht : t < 5) (hM : ∀ k, k < 256 → wd (M k)) (hI : TIt n t T) (hT : CTt τ t T I) (hrow : ∀ k, k < 256 → I b k = M k) (hS : MTt m t T J) (hrow' : ∀ k, k < 256 → J (m + 14) k = M k) :
    ∃ v, upto 5 v ∧ Ok (f120 kad N Z τ a b κ I) (fun _ I' => tDone a κ τ t T I v I') ∧ Ok (f301 kad N Z m (Int32.ofNat t) J) (fun w J' => w = v ∧ frU m J J') := by
  obtain ⟨⟨⟨p, hp, hp6⟩, h2⟩, ⟨⟨bu, h3, hbu⟩, -, -, -⟩, ⟨-, h8, -⟩, hw⟩ := hI
  have hKw : ∀ k, k < p → wd (Kt T t p 11 k) := fun k hk => by rw [Kt_11]; exact (hw k (by omega)).1
  have hKo : okK p (Kt T t p) := Kt_ok (by omega)
  have hX0 := wake_inv (W := 0 + Int32.ofNat 0) hM fD_ok hKo hKw
  -- the class
  obtain ⟨x1, I1, e1, a1, a2, a3⟩ := K42 (kad := kad) (Z := Z) (d := a + 8) (I := I) hN (sh3_a0 (sh8_s3 ha))
  have o1 : ∀ b, ¬ b = a + 8 → ¬ b = a + 9 → ¬ b = a + 10 → up2 I1 (a + 10) 0 0 b = I b := fun b b1 b2 b3 => by rw [up2_b b3, a3 b b1 b2]
  obtain ⟨I2, e2, hC, f2⟩ := K120_k (kad := kad) (N := N) (Z := Z) (κ := κ) (b := b) hN hp6 hp hτ p 0 N (up2 I1 (a + 10) 0 0) (by omega) (by omega) (hT.cong (fun b b1 b2 => o1 b (by omega) (by omega) (by omega))) ⟨by rw [up2_eq, Kt_10]; rfl, fun k hk => absurd hk (by omega)⟩
  obtain ⟨x2, I3, e3, x3, H3, f3⟩ := C80 (kad := kad) (Z := Z) (I := I2) (K := Kt T t p) (M := M) (D := fD) (D' := fD) (r := 0) (W := 0) hN ha hKo hC (Or.inl ⟨fD_ok.1, fD_ok.2, rfl, rfl⟩) (fun k hk => by rw [f2 _ (by omega) (by omega) (by omega), up2_b (by omega)]; exact a1 k hk) (by rw [f2 _ (by omega) (by omega) (by omega), up2_b (by omega)]; exact a2) zb (by omega) (fun k hk => by rw [f2 b (by omega) (by omega) (by omega), o1 b (by omega) (by omega) (by omega)]; exact hrow k hk)
  have fI : ∀ b, ¬ (a ≤ b ∧ b < a + 17) → I3 b = I b := fun b hb => by rw [f3 b (by omega), f2 b (by omega) (by omega) (by omega), o1 b (by omega) (by omega) (by omega)]
  -- the model
  obtain ⟨y1, J1, d1, b1, b2, b3, b4⟩ := M254 (kad := kad) (Z := Z) (m := m) (I := J) hN
  have hS1 : MTt m t T J1 := hS.cong (fun b j c1 c2 => congrFun (b3 b (by omega) (by omega)) j)
  have h43 : up2 J1 m 43 (Int32.ofNat p) m 43 = Int32.ofNat p := up2_eq
  have hk := M301_k (kad := kad) (N := N) (Z := Z) (m := m) (t := t) hp6 ht h43 p 0 N (by omega) (by omega)
  rw [st2_0, show Int32.ofNat 0 = 0 from rfl] at hk
  have oY : ∀ b j, ¬ (b = m ∧ j = 43) → ¬ (b = m ∧ j = 52) → ¬ b = m + 24 → ¬ b = m + 18 → ¬ b = m + 19 → st2 (up2 J1 m 43 (Int32.ofNat p)) (m + 18) (m + 19) 0 p (fun _ => 0) (fun k => up2 J1 m 43 (Int32.ofNat p) (m + 30) (6 * t + k)) b j = J b j := fun b j c1 c2 c3 c4 c5 => by
    rw [st2_o' c4 c5, up2_ne c1]
    by_cases hbm : b = m
    · rw [hbm]; exact b4 j (fun h => c2 ⟨hbm, h⟩)
    · exact congrFun (b3 b hbm c3) j
  have yK : KR p m (Kt T t p) (st2 (up2 J1 m 43 (Int32.ofNat p)) (m + 18) (m + 19) 0 p (fun _ => 0) (fun k => up2 J1 m 43 (Int32.ofNat p) (m + 30) (6 * t + k))) := by
    refine ⟨by rw [st2_o' (by omega) (by omega), h43, Kt_10], fun k hk => ⟨?_, ?_⟩⟩
    · rw [st2_e (by omega) ⟨by omega, by omega⟩, Kt_11, Nat.sub_zero, up2_b (by omega)]
      exact (hS1.2.2 k (by omega)).1
    · rw [st2_b ⟨by omega, by omega⟩, Kt_12]
  have y24 : ∀ k, k < 256 → st2 (up2 J1 m 43 (Int32.ofNat p)) (m + 18) (m + 19) 0 p (fun _ => 0) (fun k => up2 J1 m 43 (Int32.ofNat p) (m + 30) (6 * t + k)) (m + 24) k = fD k := fun k hk => by
    rw [st2_o' (by omega) (by omega), up2_b (by omega)]; exact b1 k hk
  have y52 : st2 (up2 J1 m 43 (Int32.ofNat p)) (m + 18) (m + 19) 0 p (fun _ => 0) (fun k => up2 J1 m 43 (Int32.ofNat p) (m + 30) (6 * t + k)) m 52 = 0 + Int32.ofNat 0 := by
    rw [st2_o' (by omega) (by omega), up2_ne (by omega), b2]; rfl
  generalize st2 (up2 J1 m 43 (Int32.ofNat p)) (m + 18) (m + 19) 0 p (fun _ => 0) (fun k => up2 J1 m 43 (Int32.ofNat p) (m + 30) (6 * t + k)) = Y at hk oY yK y24 y52
  obtain ⟨y2, J2, d2, HJ⟩ := M222 (kad := kad) (N := N) (Z := Z) (m := m) (I := Y) (b := m + 14) hN (sh11_a21 hm) ⟨by omega, by omega, by omega⟩
  have HJ' : WK m M Y J2 := by
    obtain ⟨s1, ⟨s2, s3⟩, s4⟩ := HJ
    exact ⟨s1, ⟨fun k hk => by rw [s2 k hk, oY _ _ (by omega) (by omega) (by omega) (by omega) (by omega)]; exact hrow' k hk, s3⟩, s4⟩
  have L2 : ML m J2 (ov (Kt T t p) (wake M fD (0 + Int32.ofNat 0))) := HJ'.ml hKo yK y24 y52
  have hbl : bl (ov (Kt T t p) (wake M fD (0 + Int32.ofNat 0))) := by
    intro k h5 h9
    rw [ov_r1, wake_1]
    left
    rw [if_neg (by omega), if_neg (by omega), if_neg (by omega)]
  have hKov : okK p (ov (Kt T t p) (wake M fD (0 + Int32.ofNat 0))) := by
    unfold okK at hKo ⊢
    rw [ov_k (by decide), ov_k (by decide)]
    exact hKo
  obtain ⟨y3, J3, d3, H4⟩ := M224 (kad := kad) (Z := Z) hN L2.mr hKov hbl
  have gY : ∀ b j, ¬ TW m b j → ¬ (b = m ∧ j = 43) → ¬ b = m + 18 → ¬ b = m + 19 → J3 b j = J b j := fun b j c1 c2 c3 c4 => by
    obtain ⟨t0, t15, t16, t24⟩ := nTW c1
    rw [H4.2.2.2 b j (fun h => c1 h.tw)]
    by_cases hbm : b = m
    · subst hbm
      obtain ⟨j1, j2, j3, j4, j5, j6, j7⟩ := t0 rfl
      rw [HJ.1.2 j j1 j2 j3 j4 j5, oY b j c2 (fun h => j7 h.2) t24 c3 c4]
    · rw [HJ.1.1 b hbm t15 t16, oY b j c2 (fun h => hbm h.1) t24 c3 c4]
  have gU : frU m J J3 := gY
  obtain ⟨v, v1, v2, v3⟩ := T_loop (kad := kad) hN ha hm hd zk zb hb hbκ hτ hτκ hz ht hM h2 h3 hbu h8 bu 0 p 0 N N (sKeys (ov (Kt T t p) (wake M fD (0 + Int32.ofNat 0)))) I3 J3 (by omega) (by omega) (by omega) hX0 (Nat.le_refl _) H3 (MR.ml (e := 0) H4) (hT.cong (fun b c1 c2 => fI b (by omega))) (fun k hk => by rw [fI b (by omega)]; exact hrow k hk) (gU.mt hS) (fun k hk => by rw [gU.row]; exact hrow' k hk)
  refine ⟨v, v1, ?_, ?_⟩
  · unfold f120
    rw [e1, Option.bind_some]
    unfold f72
    dsimp only
    rw [wI_ok, Option.bind_some, Option.bind_some]
    dsimp only
    rw [show (0 : Int32) = Int32.ofNat 0 from rfl] at e2
    rw [show f120_b17 kad N Z N τ a κ b (0 : Int32) (up2 I1 (a + 10) 0 0) = f120_b54 kad N Z τ a κ b I2 from e2]
    unfold f120_b54
    rw [e3, Option.bind_some]
    refine v2.mono fun _ I' ⟨z1, z2, z3⟩ => ⟨z1, fun j j2 j9 => ?_, fun b c1 c2 c3 => ?_⟩
    · rw [z2 j j2 j9, fI τ (by omega)]
    · rw [z3 b c1 c2 c3, fI b c1]
  · unfold f301
    rw [d1, Option.bind_some, ixA_of ht, Option.bind_some]
    dsimp only
    rw [hS1.1.1, hp, wI_ok, Option.bind_some, hk, d2, Option.bind_some]
    dsimp only
    rw [d3, Option.bind_some]
    exact v3.mono fun w J' ⟨w1, w2⟩ => ⟨w1, gU.trans w2⟩
end TO
