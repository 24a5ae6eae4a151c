/-! the head of the log; the next block of a call; a step -/
def sSum (f : Nat → Int32) : Nat → Nat → Int32 → Int32
  | 0, _, acc => acc
  | n + 1, i, acc => sSum f n (i + 1) (acc + f i)
def sHd (n : Nat) (p q : Nat → Int32) (k : Nat) : Int32 := if k = 4 then sSum q (8 * n) 0 (sSum p n 0 (Int32.ofNat n)) &&& 65535 else if k = 0 then Int32.ofNat n else if k ≤ n then p (k - 1) else 0
theorem hd_up {I : AI} {b j : Nat} {g : Nat → Int32} {v : Int32} (hj : j < 8) : up2 (hd I b 8 g) b j v = hd I b 8 (fun k => if k = j then v else g k) := by
  funext c k
  unfold up2 hd
  by_cases h : c = b ∧ k = j
  · rw [if_pos h, if_pos (by omega)]
    dsimp only
    rw [if_pos h.2]
  · rw [if_neg h]
    by_cases h2 : c = b ∧ k < 8
    · rw [if_pos h2, if_pos h2]
      dsimp only
      rw [if_neg (by omega)]
    · rw [if_neg h2, if_neg h2]
theorem C65_w {kad : Nat → Nat} {N : Nat} {Z : AZ} {a n : Nat} {I : AI} (hz : Z.1 (a + 16) = some (100, 8)) (hn : n ≤ 3) (hc : I (a + 3) 0 = Int32.ofNat n) (g : Nat → Int32) : ∀ (m i F : Nat) (acc : Int32), i + m = 8 * n → m < F → f65_b68 kad N Z F (a + 3) (a + 16) acc (Int32.ofNat i) (hd I (a + 16) 8 g) = some ((), hd I (a + 16) 8 (fun k => if k = 4 then sSum (I (a + 5)) m i acc &&& 65535 else g k)) := by
  intro m
  induction m with
  | zero =>
    intro i F acc hi hF
    obtain ⟨F, rfl⟩ : ∃ G, F = G + 1 := ⟨F - 1, by omega⟩
    unfold f65_b68 f65_b103 sSum
    rw [hd_b (by omega), hc, m8, if_pos ((of_le (by omega) (by omega)).mpr (by omega)), show (4 : Int32) = Int32.ofNat 4 from rfl, sI_at hz (by decide) (by decide), Option.bind_some, hd_up (by decide)]
  | succ m ih =>
    intro i F acc hi hF
    obtain ⟨F, rfl⟩ : ∃ G, F = G + 1 := ⟨F - 1, by omega⟩
    unfold f65_b68 sSum
    rw [hd_b (by omega), hc, m8, if_neg (fun h => absurd ((of_le (by omega) (by omega)).mp h) (by omega)), if_neg (show ¬ (24 : Int32) ≤ Int32.ofNat i from fun h => absurd ((of_le (m := 24) (by decide) (by omega)).mp h) (by omega)), ixA_of (by omega), Option.bind_some, of_s, hd_b (show ¬ a + 3 + 2 = a + 16 by omega)]
    exact ih (i + 1) F _ (by omega) (by omega)
theorem C65_n {kad : Nat → Nat} {N : Nat} {Z : AZ} {a n : Nat} {I : AI} (hN : 2000 ≤ N) (hz : Z.1 (a + 16) = some (100, 8)) (hn : n ≤ 3) (hc : I (a + 3) 0 = Int32.ofNat n) : ∀ (m i F : Nat) (acc : Int32) (g : Nat → Int32), i + m = n → m < F → f65_b27 kad N Z F (a + 3) (a + 16) acc (Int32.ofNat i) (hd I (a + 16) 8 g) = some ((), hd I (a + 16) 8 (fun k => if k = 4 then sSum (I (a + 5)) (8 * n) 0 (sSum (I (a + 4)) m i acc) &&& 65535 else if i < k ∧ k ≤ n then I (a + 4) (k - 1) else g k)) := by
  intro m
  induction m with
  | zero =>
    intro i F acc g hi hF
    obtain ⟨F, rfl⟩ : ∃ G, F = G + 1 := ⟨F - 1, by omega⟩
    unfold f65_b27 f65_b66
    rw [show sSum (I (a + 4)) 0 i acc = acc from rfl, hd_b (by omega), hc, if_pos ((of_le (by omega) (by omega)).mpr (by omega)), show (0 : Int32) = Int32.ofNat 0 from rfl, C65_w hz hn hc g (8 * n) 0 N acc (by omega) (by omega)]
    congr 2
    funext c k
    unfold hd
    split
    · dsimp only
      split
      · rfl
      · rw [if_neg (by omega)]
    · rfl
  | succ m ih =>
    intro i F acc g hi hF
    obtain ⟨F, rfl⟩ : ∃ G, F = G + 1 := ⟨F - 1, by omega⟩
    unfold f65_b27
    rw [show sSum (I (a + 4)) (m + 1) i acc = sSum (I (a + 4)) m (i + 1) (acc + I (a + 4) i) from rfl, hd_b (by omega), hc, if_neg (fun h => absurd ((of_le (by omega) (by omega)).mp h) (by omega)), if_neg (show ¬ (3 : Int32) ≤ Int32.ofNat i from fun h => absurd ((of_le (m := 3) (by decide) (by omega)).mp h) (by omega)), ixA_of (by omega), Option.bind_some, hd_b (show ¬ a + 3 + 1 = a + 16 by omega)]
    rw [show (1 : Int32) + Int32.ofNat i = Int32.ofNat (1 + i) from (Int32.ofNat_add 1 i).symm, sI_at hz (by omega) (by decide), Option.bind_some, Option.bind_some, hd_up (by omega), hd_b (show ¬ a + 3 + 1 = a + 16 by omega), of_s]
    have h := ih (i + 1) F (acc + I (a + 4) i) (fun k => if k = 1 + i then I (a + 4) i else g k) (by omega) (by omega)
    show f65_b27 kad N Z F (a + 3) (a + 16) (acc + I (a + 4) i) _ _ = _
    rw [show (fun k => if k = 1 + i then I (a + 3 + 1) i else g k) = (fun k => if k = 1 + i then I (a + 4) i else g k) from rfl, h]
    congr 2
    funext c k
    unfold hd
    split
    · dsimp only
      split
      · rfl
      · by_cases h1 : i + 1 < k ∧ k ≤ n
        · rw [if_pos h1, if_pos (by omega)]
        · rw [if_neg h1]
          by_cases h2 : k = 1 + i
          · rw [if_pos h2, if_pos (by omega), h2]
            congr 1
            omega
          · rw [if_neg h2, if_neg (by omega)]
    · rfl
theorem C65 {kad : Nat → Nat} {N : Nat} {Z : AZ} {a n : Nat} {I : AI} (hN : 2000 ≤ N) (hz : Z.1 (a + 16) = some (100, 8)) (hn : n ≤ 3) (hc : I (a + 3) 0 = Int32.ofNat n) : f65 kad N Z (a + 3) (a + 16) I = some ((), hd I (a + 16) 8 (sHd n (I (a + 4)) (I (a + 5)))) := by
  unfold f65
  rw [nL_of hz (by decide), Option.bind_some, if_pos (show Int32.ofNat 8 = (8 : Int32) from rfl), fill_ok hz (by decide) (by omega), Option.bind_some]
  dsimp only
  rw [fl_b (show ¬ a + 3 = a + 16 by omega), hc, show (0 : Int32) = Int32.ofNat 0 from rfl, sI_at hz (by decide) (by decide), Option.bind_some, show fl I (a + 16) 8 (Int32.ofNat 0) = hd I (a + 16) 8 (fun _ => Int32.ofNat 0) from rfl, hd_up (by decide)]
  rw [hd_b (show ¬ a + 3 = a + 16 by omega), hc, C65_n hN hz hn hc n 0 N _ _ (by omega) (by omega)]
  congr 2
  funext c k
  unfold hd sHd
  split
  · dsimp only
    split
    · rfl
    · by_cases h0 : k = 0
      · rw [if_neg (by omega), if_pos h0, if_pos h0]
      · rw [if_neg h0]
        by_cases hk : k ≤ n
        · rw [if_pos (by omega), if_neg h0, if_pos hk]
        · rw [if_neg (by omega), if_neg h0, if_neg hk]
          rfl
  · rfl
def sDone (Y : AI) : AI :=
  let Y := up2 Y 3 1 (Y 3 1 + 1)
  if sLeft Y = 0 then sGo (up2 (up2 (up2 Y 3 0 0) 3 1 0) 2 3 0) else Y
def sWNB (X : AI) : AI :=
  let n := nT (X 3 0)
  let d := nT (X 3 1)
  sDone (if d < n then sWBl (1 + d) (fun k => X 5 (8 * d + k)) X else if d = n then sWBl 0 (sHd n (X 4) (X 5)) X else if d ≤ 2 * n then sWBl (nT (X 4 (d - n - 1))) (fun k => X 5 (8 * (d - n - 1) + k)) X else sWBl 0 (fun _ => 0) X)
/-- a call that goes on: how many writes are made, and which blocks it changes -/
def dn (X : AI) : Prop := X 3 1 = Int32.ofNat (nT (X 3 1)) ∧ nT (X 3 1) ≤ 2 * nT (X 3 0) + 1
def nb (X : AI) : Prop := ∀ k, k < nT (X 3 0) → X 4 k = Int32.ofNat (nT (X 4 k)) ∧ nT (X 4 k) < 32
section ST
variable {kad : Nat → Nat} {N : Nat} {e : Nat} {Z : AZ} {a κ : Nat} {I0 I X : AI}
theorem C109_d (H : RC 0 Z a κ I0 I X) : Ok (f109_b135 kad N Z a I) (fun _ J => RC 0 Z a κ I0 J (sDone X)) := by
  unfold f109_b135 f109_b170 sDone
  rw [H.rd (c := 3) (k := 1)]
  refine Ok.w ?_
  have H1 := H.up (c := 3) (k := 1) (v := X 3 1 + 1)
  obtain ⟨v, J, hJ, hv, hJ2⟩ := C63 (kad := kad) (N := N) H1
  subst hv hJ2
  rw [hJ, Option.bind_some]
  dsimp only
  by_cases h : sLeft (up2 X 3 1 (X 3 1 + 1)) = 0
  · rw [if_neg (fun hh => hh h), if_pos h]
    unfold f61
    have ix3 : ixA 4 (3 : Int32) = some 3 := by decide
    have H2 : RC 0 Z a κ I0 (up2 (up2 I (a + 3) 1 (X 3 1 + 1)) (a + 3) 0 0) (up2 (up2 X 3 1 (X 3 1 + 1)) 3 0 0) := by
      refine H1.blk (c := 3) (Or.inl (by decide)) (fun b hb => up2_b (by simpa [loc] using hb)) (fun d hd => up2_b hd) (fun d k hd hdc => ?_) (fun k hk => ?_)
      · have z0 : nT (up2 (up2 X 3 1 (X 3 1 + 1)) 3 0 0 3 0) = 0 := by rw [up2_eq]; decide
        left
        unfold rel at hd ⊢
        rw [z0, show up2 (up2 X 3 1 (X 3 1 + 1)) 3 0 0 1 = up2 X 3 1 (X 3 1 + 1) 1 from up2_b (by decide), show up2 (up2 X 3 1 (X 3 1 + 1)) 3 0 0 10 = up2 X 3 1 (X 3 1 + 1) 10 from up2_b (by decide), show up2 (up2 X 3 1 (X 3 1 + 1)) 3 0 0 20 = up2 X 3 1 (X 3 1 + 1) 20 from up2_b (by decide), show up2 (up2 X 3 1 (X 3 1 + 1)) 3 0 0 23 = up2 X 3 1 (X 3 1 + 1) 23 from up2_b (by decide)] at hd
        split at hd <;> first
          | exact hd
          | exact absurd rfl hdc
          | exact absurd hd.1 (by omega)
      · show up2 (up2 I (a + 3) 1 (X 3 1 + 1)) (a + 3) 0 0 (a + 3) k = up2 (up2 X 3 1 (X 3 1 + 1)) 3 0 0 3 k
        by_cases hk0 : k = 0
        · subst hk0
          rw [up2_eq, up2_eq]
        · rw [up2_ne (fun h => hk0 h.2), up2_ne (fun h => hk0 h.2)]
          exact H1.rd (c := 3) (by decide) (show k < 2 from hk)
    show Ok ((((wI (up2 I (a + 3) 1 (X 3 1 + 1)) (a + 3) 0 0).bind fun I2 => (wI I2 (a + 3) 1 0).bind fun I7 => some ((), I7))).bind _) _
    unfold wI
    rw [Option.bind_some, Option.bind_some, Option.bind_some, ix3, Option.bind_some, Option.bind_some]
    exact (C88 ((H2.up (c := 3) (k := 1) (v := 0)).up (c := 2) (k := 3) (v := 0))).bind fun v J HJ => Ok.ret HJ
  · rw [if_pos h, if_neg h]
    exact Ok.ret H1
theorem C109 (hN : 2000 ≤ N) (ha : sh8 kad Z a) (H : RC 0 Z a κ I0 I X) (hc : cnt X) (hd1 : dn X) (hnb : nb X) : Ok (f109 kad N Z a I) (fun _ J => RC 0 Z a κ I0 J (sWNB X)) := by
  have z5 : Z.1 (a + 5) = some (100, 24) := sh4_a3 (sh2_s15 (sh8_s0 ha))
  have z16 : Z.1 (a + 16) = some (100, 8) := sh8_a6 ha
  obtain ⟨hc1, hc2⟩ := hc
  obtain ⟨hd1, hd2⟩ := hd1
  unfold f109 f109_b114 sWNB
  rw [H.rd (c := 3) (k := 0), H.rd (c := 3) (k := 1)]
  dsimp only
  generalize hn : nT (X 3 0) = n at hc1 hc2 hd2
  generalize hdd : nT (X 3 1) = d at hd1 hd2
  rw [hc1, hd1]
  have hedj : ∀ (f : Nat → Int32), RC 0 Z a κ I0 (hd I (a + 16) 8 f) X := fun f => by
    refine H.blk (c := 16) (Or.inl (by decide)) (fun b hb => hd_b (by simpa [loc] using hb)) (fun _ _ => rfl) (fun d k hr _ => Or.inl hr) (fun k hk => absurd hk.1 (by decide))
  by_cases h1 : d < n
  · rw [if_neg (fun h => absurd ((of_le (by omega) (by omega)).mp h) (by omega)), if_pos h1, m8, show (1 : Int32) + Int32.ofNat d = Int32.ofNat (1 + d) from (Int32.ofNat_add 1 d).symm]
    refine (C110 hN ha H (b := 1 + d) (i := 8 * d) (L := 24) (f := fun k => X 5 (8 * d + k)) (by omega) z5 (by omega) (by decide) (by omega) (fun k hk => (H.rd (c := 5) (by decide) (by show 8 * d + k < 8 * nT (X 3 0) ∧ 8 * d + k < 24; omega)).symm)).bind fun v J HJ => ?_
    exact C109_d HJ
  rw [if_pos ((of_le (by omega) (by omega)).mpr (by omega)), if_neg h1]
  by_cases h2 : d = n
  · rw [if_neg (fun h => h (by rw [h2])), if_pos h2, C65 hN z16 (by omega) (by rw [H.rd (c := 3) (k := 0), hc1]), Option.bind_some]
    dsimp only
    have e1 : sHd n (I (a + 4)) (I (a + 5)) = sHd n (X 4) (X 5) := by
      have p1 : ∀ k, k < n → I (a + 4) k = X 4 k := fun k hk => H.rd (c := 4) (by decide) (by show k < nT (X 3 0) ∧ k < 3; omega)
      have p2 : ∀ k, k < 8 * n → I (a + 5) k = X 5 k := fun k hk => H.rd (c := 5) (by decide) (by show k < 8 * nT (X 3 0) ∧ k < 24; omega)
      have sum : ∀ (f g : Nat → Int32) (B : Nat), (∀ k, k < B → f k = g k) → ∀ (m i : Nat) (acc : Int32), i + m ≤ B → sSum f m i acc = sSum g m i acc := fun f g B hfg m => by
        induction m with
        | zero => intro i acc _; rfl
        | succ m ih =>
          intro i acc hi
          unfold sSum
          rw [hfg i (by omega)]
          exact ih (i + 1) _ (by omega)
      funext k
      unfold sHd
      rw [sum _ _ (8 * n) p2 (8 * n) 0 _ (by omega), sum _ _ n p1 n 0 _ (by omega)]
      split
      · rfl
      · split
        · rfl
        · split
          · rw [p1 _ (by omega)]
          · rfl
    rw [e1]
    refine (C110 hN ha (hedj _) (b := 0) (i := 0) (L := 8) (f := sHd n (X 4) (X 5)) (by decide) z16 (by decide) (by decide) (by omega) (fun k hk => by rw [Nat.zero_add, hd_at hk])).bind fun v J HJ => ?_
    exact C109_d HJ
  rw [if_pos (fun h => h2 ((of_inj (by omega) (by omega)).mp h)), if_neg h2]
  have e2n : (2 : Int32) * Int32.ofNat n = Int32.ofNat (2 * n) := (Int32.ofNat_mul 2 n).symm
  rw [e2n]
  by_cases h3 : d ≤ 2 * n
  · have ew : Int32.ofNat d - Int32.ofNat n - 1 = Int32.ofNat (d - n - 1) := by
      have e : Int32.ofNat d = Int32.ofNat (d - n - 1) + 1 + Int32.ofNat n := by
        rw [of_s, ← Int32.ofNat_add]
        congr 1
        omega
      rw [e]
      grind
    rw [if_neg (fun h => absurd ((of_lt (by omega) (by omega)).mp h) (by omega)), if_pos h3, ew, if_neg (of_nn (by omega)), if_neg (show ¬ (3 : Int32) ≤ Int32.ofNat (d - n - 1) from fun h => absurd ((of_le (m := 3) (by decide) (by omega)).mp h) (by omega)), ixA_of (by omega), Option.bind_some, m8]
    obtain ⟨n1, n2⟩ := hnb (d - n - 1) (by omega)
    rw [H.rd (c := 4) (k := d - n - 1) (by decide) (by show d - n - 1 < nT (X 3 0) ∧ d - n - 1 < 3; omega)]
    generalize hbb : nT (X 4 (d - n - 1)) = bb at n1 n2
    rw [n1]
    refine (C110 hN ha H (b := bb) (i := 8 * (d - n - 1)) (L := 24) (f := fun k => X 5 (8 * (d - n - 1) + k)) n2 z5 (by omega) (by decide) (by omega) (fun k hk => (H.rd (c := 5) (by decide) (by show 8 * (d - n - 1) + k < 8 * nT (X 3 0) ∧ 8 * (d - n - 1) + k < 24; omega)).symm)).bind fun v J HJ => ?_
    exact C109_d HJ
  · rw [if_pos ((of_lt (by omega) (by omega)).mpr (by omega)), if_neg h3, fill_ok z16 (by decide) (by omega), Option.bind_some]
    dsimp only
    refine (C110 hN ha (hedj (fun _ => 0)) (b := 0) (i := 0) (L := 8) (f := fun _ => 0) (by decide) z16 (by decide) (by decide) (by omega) (fun k hk => by rw [Nat.zero_add, hd_at hk])).bind fun v J HJ => ?_
    exact C109_d HJ
end ST
