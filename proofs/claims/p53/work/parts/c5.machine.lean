/-! p53: the machine: what it can be in each state -/
section PMA
variable {kad : Nat → Nat} {N : Nat} {Z : AZ} {A B : XA} {v a b c e : Int32} {g g' : Nat} {I : AI}
theorem fl_32 : ∀ a b c d e : Bool, ∃ k : Fin 32, (bif a then (0 : Int32) else 1) + (bif b then 0 else 2) + (bif c then 0 else 4) + (bif d then 0 else 8) + (bif e then 0 else 16) = Int32.ofNat k.1 := by decide
theorem cdd {p : Prop} [Decidable p] {x y : Int32} : (bif decide p then x else y) = if p then x else y := by
  by_cases h : p
  · rw [decide_eq_true h, if_pos h]; rfl
  · rw [decide_eq_false h, if_neg h]; rfl
theorem sFl_n (X : AI) : ∃ k, k < 32 ∧ sFl X = Int32.ofNat k := by
  obtain ⟨k, hk⟩ := fl_32 (decide (X 1 5 = 0)) (decide (X 1 6 = 0)) (decide (X 1 7 = 0)) (decide (X 1 8 = 0)) (decide (X 1 9 = 0))
  rw [cdd, cdd, cdd, cdd, cdd] at hk
  exact ⟨k.1, k.2, hk⟩
theorem cFr_n {D : Nat → Int32} : ∀ (n b a : Nat), ∃ k, k ≤ a + n ∧ cFr D n b (Int32.ofNat a) = Int32.ofNat k := by
  intro n
  induction n with
  | zero => intro b a; exact ⟨a, Nat.le_refl _, rfl⟩
  | succ n ih =>
    intro b a
    unfold cFr
    by_cases h : uB D b = true
    · rw [if_pos h]
      obtain ⟨k, k1, k2⟩ := ih (b + 1) a
      exact ⟨k, by omega, k2⟩
    · rw [if_neg h, of_s]
      obtain ⟨k, k1, k2⟩ := ih (b + 1) (a + 1)
      exact ⟨k, by omega, k2⟩
/-- what is asked of a machine's words -/
def mSo (X : AI) (kc : Nat) : Prop := (∃ st ft, X 1 0 = Int32.ofNat st ∧ st < 4 ∧ X 1 1 = Int32.ofNat ft ∧ ft < 5 ∧ (0 < ft ↔ st = 3)) ∧
  (∃ s, X 1 2 = Int32.ofNat s ∧ s ≤ 1000 ∧ kc ≤ s ∧ kc ≤ 200) ∧
  (X 1 0 = 0 → X 1 2 = 0 ∧ X 1 4 = 0 ∧ X 1 3 = 0 ∧ sFl X = 0 ∧ X 1 12 = 0 ∧ sLeft X = 0 ∧ ∀ k, k < 256 → X 6 k = 0) ∧
  (∃ p, X 1 4 = Int32.ofNat p ∧ p ≤ 256) ∧ (∃ l, sLeft X = Int32.ofNat l ∧ l ≤ 8 ∧ (¬ l = 0 → X 1 0 = 1)) ∧ (∃ t, X 1 12 = Int32.ofNat t ∧ t ≤ 60) ∧
  (∃ w, X 8 1 = Int32.ofNat w ∧ w ≤ 1000000) ∧ (¬ X 1 0 = 0 → sLeft X = 0 → isWh (X 9)) ∧ (∀ k, k < 256 → wd (X 9 k))
theorem H1_8' {th : Nat} (hC : CALL kad N Z [1, 0] (fun g I => f164 kad N Z g a I) A th v A) : CALQ kad N Z (fun g I => fH1 kad N Z g 8 a b c e I) A (hv th v) A := H1_8 hC
variable {i1 i2 i3 i4 i5 i6 : Int32} {kc : Nat}
theorem ma_378 (h : okA A) (hb : ∃ th v, ¬ th = 0 ∧ CALL kad N Z [1, 0] (fun g I => f164 kad N Z g (mX A.2.2.1 1 2 + 1) I) A th v A) (R : R2 kad N Z g g' A A I) : Ok (f187_b378 kad N Z g I) (fun x J => x = .inl 1 ∧ R2 kad N Z g g' A A J) := by
  obtain ⟨th, v, h0, hC⟩ := hb
  unfold f187_b378
  refine (P152 h).oo R fun J R => ?_
  dsimp only
  refine (H1_8' hC).oo R fun J R => ?_
  dsimp only
  rw [if_neg (fun hh => hh (show hv th v = Int32.ofInt (-99999999) by unfold hv; rw [if_neg h0]))]
  unfold f187_b403
  rw [if_pos (Or.inr rfl)]
  exact Ok.ret ⟨rfl, R⟩
theorem ma_282 (h : okA A) (hb : ∃ th v, ¬ th = 0 ∧ CALL kad N Z [1, 0] (fun g I => f164 kad N Z g (mX A.2.2.1 1 2 + 1) I) A th v A) (hs : ¬ mX A.2.2.1 1 0 = 0 → CALL kad N Z [1, 0] (fun g I => f164 kad N Z g (mX A.2.2.1 1 2) I) A 0 (Int32.ofNat (sumX (mX A.2.2.1))) A) (hw : ∀ k, k < 256 → wd (mX A.2.2.1 9 k)) (h3 : ¬ i3 = 0 → ¬ mX A.2.2.1 1 0 = 0) : ∀ (n t F : Nat) (i5 : Int32) (I : AI), t + n = 6 → n < F → cFi (mX A.2.2.1 9) 6 0 0 = cFi (mX A.2.2.1 9) n t i5 → R2 kad N Z g g' A A I → Ok (f187_b282 kad N Z F g i3 1 i5 (Int32.ofNat t) I) (fun x J => x = .inl 1 ∧ R2 kad N Z g g' A A J) := by
  have k1 : ∀ t, t < 6 → (¬ (((5 : Int32) + Int32.ofNat t / 2 < 0 ∨ 31 < (5 : Int32) + Int32.ofNat t / 2) ∨ ((4 : Int32) * (Int32.ofNat t - Int32.ofNat t / 2 * 2) < 0 ∨ 7 < (4 : Int32) * (Int32.ofNat t - Int32.ofNat t / 2 * 2)))) ∧ 8 * nT ((5 : Int32) + Int32.ofNat t / 2) + nT ((4 : Int32) * (Int32.ofNat t - Int32.ofNat t / 2 * 2)) = 40 + 4 * t := by decide
  have k2 : ∀ t, t < 6 → ¬ (6 : Int32) ≤ Int32.ofNat t := by decide
  intro n
  induction n with
  | zero =>
    intro t F i5 I ht hF hc R
    obtain ⟨F, rfl⟩ : ∃ G, F = G + 1 := ⟨F - 1, by omega⟩
    obtain rfl : t = 6 := by omega
    obtain ⟨k, k24, ek⟩ := cFr_n (D := mX A.2.2.1 9) 24 8 0
    have ek : cFr (mX A.2.2.1 9) 24 8 0 = Int32.ofNat k := ek
    unfold f187_b282
    rw [if_pos (show (6 : Int32) ≤ Int32.ofNat 6 by decide), if_neg (show ¬ (1 : Int32) = 0 by decide)]
    refine (P170 h).oo R fun J R => ?_
    dsimp only
    rw [if_neg (fun hh => hh hc)]
    refine (P173 h).oo R fun J R => ?_
    dsimp only
    rw [ek, if_neg (of_nn (by omega))]
    refine (P173 h).oo R fun J R => ?_
    dsimp only
    rw [ek, if_neg (show ¬ (24 : Int32) < Int32.ofNat k from fun hh => absurd ((of_lt (m := 24) (by decide) (by omega)).mp hh) (by omega))]
    by_cases h0 : i3 = 0
    · rw [if_pos h0]
      exact ma_378 h hb R
    · rw [if_neg h0]
      refine (P152 h).oo R fun J R => ?_
      dsimp only
      refine (H1_8' (hs (h3 h0))).oo R fun J R => ?_
      dsimp only
      refine (P163 h).oo R fun J R => ?_
      dsimp only
      rw [if_neg (fun hh => hh rfl)]
      exact ma_378 h hb R
  | succ n ih =>
    intro t F i5 I ht hF hc R
    obtain ⟨F, rfl⟩ : ∃ G, F = G + 1 := ⟨F - 1, by omega⟩
    obtain ⟨k3, k4⟩ := k1 t (by omega)
    unfold f187_b282
    rw [if_neg (k2 t (by omega))]
    have c9 := P169 (kad := kad) (N := N) (Z := Z) (i := (5 : Int32) + Int32.ofNat t / 2) (j := (4 : Int32) * (Int32.ofNat t - Int32.ofNat t / 2 * 2)) h
    rw [if_neg k3, k4] at c9
    refine c9.oo R fun J R => ?_
    unfold cFi at hc
    have w9 := hw (40 + 4 * t) (by omega)
    by_cases hz : mX A.2.2.1 9 (40 + 4 * t) = 0
    · rw [if_pos hz] at hc
      rw [if_pos (show mX A.2.2.1 9 (40 + 4 * t) ≤ 0 by rw [hz]; decide)]
      unfold f187_b315
      rw [of_s, show i5 + 0 = i5 by grind]
      exact ih (t + 1) F i5 J (by omega) (by omega) hc R
    · rw [if_neg hz] at hc
      rw [if_neg (show ¬ mX A.2.2.1 9 (40 + 4 * t) ≤ 0 from fun hh => hz ((wd_z w9).mpr (by have := (wd_le (n := 0) w9 (by decide)).mp hh; omega)))]
      unfold f187_b315
      rw [of_s]
      exact ih (t + 1) F (i5 + 1) J (by omega) (by omega) hc R
theorem ma_269 (hN : 2000 ≤ N) (h : okA A) (hb : ∃ th v, ¬ th = 0 ∧ CALL kad N Z [1, 0] (fun g I => f164 kad N Z g (mX A.2.2.1 1 2 + 1) I) A th v A) (hs : ¬ mX A.2.2.1 1 0 = 0 → CALL kad N Z [1, 0] (fun g I => f164 kad N Z g (mX A.2.2.1 1 2) I) A 0 (Int32.ofNat (sumX (mX A.2.2.1))) A) (hw : ∀ k, k < 256 → wd (mX A.2.2.1 9 k)) (h3 : ¬ i3 = 0 → ¬ mX A.2.2.1 1 0 = 0) (R : R2 kad N Z g g' A A I) : Ok (f187_b269 kad N Z g i3 I) (fun x J => x = .inl 1 ∧ R2 kad N Z g g' A A J) := by
  unfold f187_b269 f187_b274
  exact ma_282 h hb hs hw h3 6 0 N 0 I rfl (by omega) rfl R
/-- all of it, for an object whose machine is so -/
theorem isMach (hN : 2000 ≤ N) (h : okA A) (hm : mSo (mX A.2.2.1) (xmK A.2.2.1)) (hb : ∃ th v, ¬ th = 0 ∧ CALL kad N Z [1, 0] (fun g I => f164 kad N Z g (mX A.2.2.1 1 2 + 1) I) A th v A) (hs : ¬ mX A.2.2.1 1 0 = 0 → CALL kad N Z [1, 0] (fun g I => f164 kad N Z g (mX A.2.2.1 1 2) I) A 0 (Int32.ofNat (sumX (mX A.2.2.1))) A) (R : R2 kad N Z g g' A A I) : Ok (f187 kad N Z g i1 I) (fun x J => x = .inl 1 ∧ R2 kad N Z g g' A A J) := by
  obtain ⟨⟨st, ft, e0, st4, e1, ft5, ef⟩, ⟨s, e2, s1000, kcs, kc200⟩, hoff, ⟨p, e4, p256⟩, ⟨l, el, l8, hl⟩, ⟨tp, e12, t60⟩, ⟨w, e8, w1m⟩, hwh, hw⟩ := hm
  obtain ⟨fl, fl32, efl⟩ := sFl_n (mX A.2.2.1)
  have q0 : ∀ {g I}, envG kad N Z g → CI g A I → True := fun _ _ => trivial
  have b269 : ∀ i3 J, (¬ i3 = 0 → ¬ mX A.2.2.1 1 0 = 0) → R2 kad N Z g g' A A J → Ok (f187_b269 kad N Z g i3 J) (fun x J => x = .inl 1 ∧ R2 kad N Z g g' A A J) := fun i3 J h3 R => ma_269 hN h hb hs hw h3 R
  have b235 : ∀ i3 J, (¬ i3 = 0 → ¬ mX A.2.2.1 1 0 = 0) → R2 kad N Z g g' A A J → Ok (f187_b235 kad N Z g i3 J) (fun x J => x = .inl 1 ∧ R2 kad N Z g g' A A J) := fun i3 J h3 R => by
    unfold f187_b235
    refine (P161 h).oo R fun J R => ?_
    dsimp only
    rw [e12, if_neg (show ¬ (60 : Int32) < Int32.ofNat tp from fun hh => absurd ((of_lt (m := 60) (by decide) (by omega)).mp hh) (by omega))]
    refine (P168 h).oo R fun J R => ?_
    dsimp only
    rw [e8, if_neg (of_nn (by omega))]
    by_cases h0 : i3 = 0
    · rw [if_pos h0]
      exact b269 i3 J h3 R
    · rw [if_neg h0]
      refine (P157 h).oo R fun J R => ?_
      dsimp only
      by_cases hl0 : l = 0
      · have el0 : sLeft (mX A.2.2.1) = 0 := by rw [el, hl0]; rfl
        rw [if_neg (show ¬ 0 < sLeft (mX A.2.2.1) by rw [el0]; decide)]
        obtain ⟨x, ⟨hx, -⟩, q174⟩ := P174 (kad := kad) (N := N) (Z := Z) h
        refine q174.oo R fun J R => ?_
        dsimp only
        rw [if_neg (show ¬ x = 0 by rw [hx (hwh (h3 h0) el0)]; decide)]
        exact b269 i3 J h3 R
      · rw [if_pos (show 0 < sLeft (mX A.2.2.1) by rw [el]; exact (of_lt (m := 0) (by decide) (by omega)).mpr (by omega))]
        exact b269 i3 J h3 R
  have b167 : ∀ i3 J, (¬ i3 = 0 → ¬ mX A.2.2.1 1 0 = 0) → R2 kad N Z g g' A A J → Ok (f187_b162 kad N Z g (Int32.ofNat st) i3 J) (fun x J => x = .inl 1 ∧ R2 kad N Z g g' A A J) := fun i3 J h3 R => by
    unfold f187_b162 f187_b167
    rw [if_neg (show ¬ (1 : Int32) = 0 by decide)]
    refine (P155 h).oo R fun J R => ?_
    dsimp only
    rw [e4, if_neg (of_nn (by omega))]
    refine (P155 h).oo R fun J R => ?_
    dsimp only
    rw [e4, if_neg (show ¬ (256 : Int32) < Int32.ofNat p from fun hh => absurd ((of_lt (m := 256) (by decide) (by omega)).mp hh) (by omega))]
    refine (P156 h).oo R fun J R => ?_
    dsimp only
    rw [efl, if_neg (of_nn (by omega))]
    refine (P156 h).oo R fun J R => ?_
    dsimp only
    rw [efl, if_neg (show ¬ (32 : Int32) ≤ Int32.ofNat fl from fun hh => absurd ((of_le (m := 32) (by decide) (by omega)).mp hh) (by omega))]
    refine (P157 h).oo R fun J R => ?_
    dsimp only
    rw [el, if_neg (of_nn (by omega))]
    refine (P157 h).oo R fun J R => ?_
    dsimp only
    rw [el, if_neg (show ¬ (9 : Int32) ≤ Int32.ofNat l from fun hh => absurd ((of_le (m := 9) (by decide) (by omega)).mp hh) (by omega))]
    refine (P157 h).oo R fun J R => ?_
    dsimp only
    by_cases hl0 : l = 0
    · rw [if_pos (show sLeft (mX A.2.2.1) = 0 by rw [el, hl0]; rfl)]
      exact b235 i3 J h3 R
    · rw [el, if_neg (of_nz (by omega) (by omega)), if_neg (fun hh => hh (show Int32.ofNat st = 1 by rw [← e0]; exact hl hl0))]
      exact b235 i3 J h3 R
  have b46 : ∀ i3 x J, (¬ i3 = 0 ↔ ¬ mX A.2.2.1 1 0 = 0) → R2 kad N Z g g' A A J → Ok (f187_b46 kad N Z g i1 (Int32.ofNat st) i3 x x J) (fun x J => x = .inl 1 ∧ R2 kad N Z g g' A A J) := fun i3 x J h3 R => by
    unfold f187_b46
    rw [if_neg (fun hh => hh rfl)]
    refine (P151 h).oo R fun J R => ?_
    dsimp only
    rw [e1, if_neg (show ¬ (5 : Int32) ≤ Int32.ofNat ft from fun hh => absurd ((of_le (m := 5) (by decide) (by omega)).mp hh) (by omega))]
    refine (P152 h).oo R fun J R => ?_
    dsimp only
    rw [e2, if_neg (of_nn (by omega))]
    refine (P152 h).oo R fun J R => ?_
    dsimp only
    rw [e2, if_neg (show ¬ (1000 : Int32) < Int32.ofNat s from fun hh => absurd ((of_lt (m := 1000) (by decide) (by omega)).mp hh) (by omega))]
    refine (P153 h).oo R fun J R => ?_
    dsimp only
    rw [if_neg (show ¬ Int32.ofNat (xmK A.2.2.1) < 0 from of_nn (by omega))]
    refine (P153 h).oo R fun J R => ?_
    dsimp only
    rw [if_neg (show ¬ (200 : Int32) < Int32.ofNat (xmK A.2.2.1) from fun hh => absurd ((of_lt (m := 200) (by decide) (by omega)).mp hh) (by omega))]
    refine (P153 h).oo R fun J R => ?_
    dsimp only
    refine (P152 h).oo R fun J R => ?_
    dsimp only
    rw [if_neg (show ¬ mX A.2.2.1 1 2 < Int32.ofNat (xmK A.2.2.1) from fun hh => by
      rw [e2] at hh
      exact absurd ((of_lt (by omega) (by omega)).mp hh) (by omega))]
    by_cases h0 : i3 = 0
    · have hz : mX A.2.2.1 1 0 = 0 := Classical.byContradiction fun hh => h3.mpr hh h0
      obtain ⟨z2, z4, z3, zf, z12, zl, z6⟩ := hoff hz
      rw [if_neg (fun hh => hh h0)]
      refine (P152 h).oo R fun J R => ?_
      dsimp only
      rw [if_neg (fun hh => hh z2)]
      refine (P155 h).oo R fun J R => ?_
      dsimp only
      rw [if_neg (fun hh => hh z4)]
      refine (P154 h).oo R fun J R => ?_
      dsimp only
      rw [if_neg (fun hh => hh z3)]
      refine (P156 h).oo R fun J R => ?_
      dsimp only
      rw [if_neg (fun hh => hh zf)]
      refine (P161 h).oo R fun J R => ?_
      dsimp only
      rw [if_neg (fun hh => hh z12)]
      refine (P157 h).oo R fun J R => ?_
      dsimp only
      rw [if_neg (fun hh => hh zl)]
      rw [f184_e (show ¬ (256 : Int32) = 0 by decide), Option.bind_some]
      dsimp only
      obtain ⟨k, k1, k2⟩ := low_n i1 (n := 256) (by decide) (by decide)
      have k2 : lowF i1 256 = Int32.ofNat k := k2
      rw [k2]
      have c6 := P159 (kad := kad) (N := N) (Z := Z) (i := Int32.ofNat k) h
      rw [if_neg (show ¬ (Int32.ofNat k < 0 ∨ 255 < Int32.ofNat k) from by
        rintro (hh | hh)
        · exact of_nn (by omega) hh
        · exact absurd ((of_lt (m := 255) (by decide) (by omega)).mp hh) (by omega)), nT_of (by omega), z6 k k1] at c6
      refine c6.oo R fun J R => ?_
      rw [if_neg (fun hh => hh rfl)]
      exact b167 i3 J h3.mp R
    · rw [if_pos h0]
      exact b167 i3 J h3.mp R
  have b14 : ∀ i3 J, (¬ i3 = 0 ↔ ¬ mX A.2.2.1 1 0 = 0) → R2 kad N Z g g' A A J → Ok (f187_b14 kad N Z g i1 (Int32.ofNat st) i3 J) (fun x J => x = .inl 1 ∧ R2 kad N Z g g' A A J) := fun i3 J h3 R => by
    unfold f187_b14
    rw [if_neg (of_nn (by omega)), if_neg (show ¬ (4 : Int32) ≤ Int32.ofNat st from fun hh => absurd ((of_le (m := 4) (by decide) (by omega)).mp hh) (by omega))]
    by_cases h3' : st = 3
    · rw [if_neg (fun hh => hh (show Int32.ofNat st = 3 by rw [h3']; rfl))]
      unfold f187_b34
      refine (P151 h).oo R fun J R => ?_
      dsimp only
      rw [e1, if_neg (show ¬ Int32.ofNat ft ≤ 0 from fun hh => absurd ((of_le (n := 0) (by omega) (by decide)).mp hh) (by have := ef.mpr h3'; omega))]
      exact b46 i3 1 J h3 R
    · rw [if_pos (show ¬ Int32.ofNat st = 3 from fun hh => h3' ((of_inj (n := 3) (by omega) (by decide)).mp hh))]
      unfold f187_b34
      refine (P151 h).oo R fun J R => ?_
      dsimp only
      have hf0 : ft = 0 := Classical.byContradiction fun hh => h3' (ef.mp (by omega))
      rw [e1, if_pos (show Int32.ofNat ft ≤ 0 by rw [hf0]; decide)]
      exact b46 i3 0 J h3 R
  unfold f187
  refine (P150 h).oo R fun J R => ?_
  dsimp only
  rw [e0]
  by_cases hst : st = 0
  · rw [if_pos (show Int32.ofNat st ≤ 0 by rw [hst]; decide)]
    exact b14 0 J ⟨fun hh => absurd rfl hh, fun hh => absurd (show mX A.2.2.1 1 0 = 0 by rw [e0, hst]; rfl) hh⟩ R
  · rw [if_neg (show ¬ Int32.ofNat st ≤ 0 from fun hh => absurd ((of_le (n := 0) (by omega) (by decide)).mp hh) (by omega))]
    exact b14 1 J ⟨fun _ => by rw [e0]; exact of_nz (by omega) (by omega), fun _ => by decide⟩ R
end PMA
/-! every object that calls can make is so -/
section PMB
variable {kad : Nat → Nat} {N : Nat} {Z : AZ} {A : XA} {i1 : Int32} {g g' c : Nat} {I : AI}
theorem isMachine (hN : 2000 ≤ N) (h : okA A) (hW : wBd c A) (hc : c ≤ 900000) (R : R2 kad N Z g g' A A I) : Ok (f187 kad N Z g i1 I) (fun x J => x = .inl 1 ∧ R2 kad N Z g g' A A J) := by
  obtain ⟨S, im, ⟨on, ⟨q, K⟩, M, D, W, s, kc⟩, t⟩ := A
  obtain ⟨w0, w01, w02⟩ := hW
  replace w02 : W = Int32.ofNat w0 := w02
  cases on with
  | false =>
    have o1 : ∀ k, mX (aOff q K M D W s kc) 1 k = 0 := fun k => by show ov K (offm D W) 1 k = 0; rw [ov_r1, off_1]
    have e9 : mX (aOff q K M D W s kc) 9 = D := by show ov K (offm D W) 9 = D; rw [ov_r9, off_9]
    have el : sLeft (mX (aOff q K M D W s kc)) = 0 := by
      unfold sLeft
      exact if_pos (show ov K (offm D W) 3 0 = 0 by rw [ov_r3, off_3])
    refine isMach hN h ⟨⟨0, 0, o1 0, by decide, o1 1, by decide, by decide⟩, ⟨0, o1 2, by decide, Nat.le_refl _, Nat.zero_le 200⟩, fun _ => ⟨o1 2, o1 4, o1 3, ?_, o1 12, el, fun k _ => ?_⟩, ⟨0, o1 4, by decide⟩, ⟨0, el, by decide, fun hh => absurd rfl hh⟩, ⟨0, o1 12, by decide⟩, ⟨w0, ?_, by omega⟩, fun hh => absurd (o1 0) hh, fun k hk => ?_⟩ ⟨1, 0, by decide, P164_off h⟩ (fun hh => absurd (o1 0) hh) R
    · unfold sFl sZL
      rw [o1, o1, o1, o1, o1]
      decide
    · show ov K (offm D W) 6 k = 0
      rw [ov_r6, off_o (by decide)]
    · show ov K (offm D W) 8 1 = Int32.ofNat w0
      rw [ov_r8, off_8, w02]
    · rw [e9]
      exact h.2.2.1.2.lw.1 k hk
  | true =>
    obtain ⟨⟨a1, ak, aM, aD⟩, ⟨gI, gB⟩, ⟨g1, g2, g3⟩, g4⟩ := h.2.2.1
    have hi := gI.trj s
    have hT : sT (tr K (wake M D W) s) := sT.tr sT.wake (fun j => (gI.trj j).1.2) s g4
    have eX : mX (aOn q K M D W s kc) = tr K (wake M D W) s := rfl
    have e2 : tr K (wake M D W) s 1 2 = Int32.ofNat s := tr_2 gB s
    have hn0 : ¬ tr K (wake M D W) s 1 0 = 0 := oN.tr oN.wake s
    obtain ⟨w, w1, w2⟩ := tr_8 (K := K) (B := wake M D W) s
    rw [wake_8] at w2
    replace w2 : tr K (wake M D W) s 8 1 = Int32.ofNat (w0 + w) := w2.trans (by rw [w02, Int32.ofNat_add])
    have hbad : bad (Int32.ofNat s + 1) 0 (Int32.ofNat s) := Or.inr (by rw [of_s]; exact (of_lt (by omega) (by omega)).mpr (by omega))
    have hgood : ¬ bad (Int32.ofNat s) 0 (Int32.ofNat s) := by
      rintro (x | x)
      · exact of_nn (by omega) x
      · exact absurd ((of_lt (by omega) (by omega)).mp x) (by omega)
    have cg := P164_on (kad := kad) (N := N) (Z := Z) h hgood
    rw [nT_of (by omega)] at cg
    refine isMach hN h ⟨?_, ⟨s, e2, g3, g2, g1⟩, fun hh => absurd hh hn0, hi.1.1.2.1.1, ?_, ?_, ⟨w0 + w, w2, by omega⟩, fun _ hl => ?_, ?_⟩ ⟨2, 0, by decide, ?_⟩ (fun _ => ?_) R
    · rw [eX]
      rcases hT with ⟨x1, x2⟩ | ⟨-, ⟨x1, x2⟩ | ⟨x1, x2⟩⟩
      · exact ⟨1, 0, x1, by decide, x2, by decide, by decide⟩
      · exact ⟨2, 0, x1, by decide, x2, by decide, by decide⟩
      · rcases x2 with x2 | x2 | x2 | x2
        · exact ⟨3, 1, x1, by decide, x2, by decide, by decide⟩
        · exact ⟨3, 2, x1, by decide, x2, by decide, by decide⟩
        · exact ⟨3, 3, x1, by decide, x2, by decide, by decide⟩
        · exact ⟨3, 4, x1, by decide, x2, by decide, by decide⟩
    · rw [eX]
      rcases hi.1.2.left with ⟨x1, -⟩ | ⟨n, r, n1, n3, x3, x4, r1, r8⟩
      · exact ⟨0, x1, by decide, fun hh => absurd rfl hh⟩
      · refine ⟨r, x4, r8, fun _ => ?_⟩
        rcases hT with x | ⟨x, -⟩
        · exact x.1
        · rw [x3] at x
          exact absurd x (of_nz (by omega) (by omega))
    · obtain ⟨t, t1, t2, -⟩ := hi.1.1.2.1.2.1
      exact ⟨t, t1, t2⟩
    · rw [eX] at hl ⊢
      rcases hi.1.2.left with ⟨-, x2⟩ | ⟨n, r, n1, n3, x3, x4, r1, r8⟩
      · exact x2.2.2.wh x2.2.1
      · rw [x4] at hl
        exact absurd hl (of_nz (by omega) (by omega))
    · exact fun k hk => hi.1.2.dk.lw.1 k hk
    · rw [eX, e2]
      exact P164_bad h hbad
    · rw [eX, e2]
      exact cg
end PMB
