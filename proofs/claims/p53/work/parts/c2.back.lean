/-! p53: steps made, taken back, made again, on two objects alike -/
section PBK
variable {kad : Nat → Nat} {N : Nat} {Z : AZ} {A A' B : XA} {th : Nat} {v a b c e : Int32} {es hs : List Nat} {g g' : Nat} {I : AI} {α : Type} {Q : α → AI → Prop}
theorem CALQ.of {fn fn' : Nat → AI → Option (Int32 × AI)} (h : CALQ kad N Z fn A v A') (e : ∀ g I, fn' g I = fn g I) : CALQ kad N Z fn' A v A' := by
  have : fn' = fn := funext fun g => funext fun I => e g I
  rw [this]
  exact h
theorem CALQ.oo {fn : Nat → AI → Option (Int32 × AI)} {F : Int32 × AI → Option (α × AI)} (hC : CALQ kad N Z fn A v A') (R : R2 kad N Z g g' A B I) (k : ∀ J, R2 kad N Z g g' A' B J → Ok (F (v, J)) Q) : Ok ((fn g I).bind F) Q := by
  obtain ⟨J, e1, R1⟩ := hC.o R
  rw [e1, Option.bind_some]
  exact k J R1
theorem CALQ.pp {fn : Nat → AI → Option (Int32 × AI)} {F : Int32 × AI → Option (α × AI)} (hC : CALQ kad N Z fn B v A') (R : R2 kad N Z g g' A B I) (k : ∀ J, R2 kad N Z g g' A A' J → Ok (F (v, J)) Q) : Ok ((fn g' I).bind F) Q := by
  obtain ⟨J, e1, R1⟩ := hC.p R
  rw [e1, Option.bind_some]
  exact k J R1
theorem H1_4 (hC : CALL kad N Z [0, 1] (fun g I => f146 kad N Z g a I) A th v A') : CALQ kad N Z (fun g I => fH1 kad N Z g 4 a b c e I) A (hv th v) A' := (hC.hr (hs := [0, 1]) (by decide)).of fun g I => by unfold fH1; rw [if_neg (by decide), if_neg (by decide), if_neg (by decide), if_neg (by decide), if_pos rfl]
theorem H1_6 (hC : CALL kad N Z [0, 1] (fun g I => f148 kad N Z g a I) A th v A') : CALQ kad N Z (fun g I => fH1 kad N Z g 6 a b c e I) A (hv th v) A' := (hC.hr (hs := [0, 1]) (by decide)).of fun g I => by unfold fH1; rw [if_neg (by decide), if_neg (by decide), if_neg (by decide), if_neg (by decide), if_neg (by decide), if_neg (by decide), if_pos rfl]
theorem H1_8 (hC : CALL kad N Z [1, 0] (fun g I => f164 kad N Z g a I) A th v A') : CALQ kad N Z (fun g I => fH1 kad N Z g 8 a b c e I) A (hv th v) A' := (hC.hr (hs := [0, 1]) (by decide)).of fun g I => by unfold fH1; rw [if_neg (by decide), if_neg (by decide), if_neg (by decide), if_neg (by decide), if_neg (by decide), if_neg (by decide), if_neg (by decide), if_neg (by decide), if_pos rfl]
theorem run_le {K B : AI} {ad : Int32} : ∀ {n s : Nat}, run K B ad n s ≤ n := by
  intro n
  induction n with
  | zero => intro s; exact Nat.le_refl _
  | succ n ih =>
    intro s
    unfold run
    split
    · split
      · omega
      · have := ih (s := s + 1); omega
    · omega
variable {S : Nat × AI} {im : Int32 × (Nat → Int32)} {t : Nat × AI} {q s kc : Nat} {K : AI} {M D : Nat → Int32} {W : Int32}
theorem back_on (h : okA (S, (im, (aOn q K M D W s kc, t)))) (hb : ¬ bad a 1 100) (R : R2 kad N Z g g' (S, (im, (aOn q K M D W s kc, t))) (S, (im, (aOn q K M D W s kc, t))) I) : ∃ A', (okA A' ∧ ∀ c, wBd c (S, (im, (aOn q K M D W s kc, t))) → wBd (c + 1004) A') ∧ Ok (f188 kad N Z g g' a I) (fun x J => x = 1 ∧ R2 kad N Z g g' A' A' J) := by
  obtain ⟨an, a1, a2⟩ := in_nat (i := a) (a := 1) (b := 100) hb
  have g1 : kc ≤ 200 ∧ kc ≤ s ∧ s ≤ 1000 := h.2.2.1.2.2.1
  have gB : wake M D W 1 2 = 0 := h.2.2.1.2.1.2
  obtain ⟨r, hr⟩ : ∃ r, r = run K (wake M D W) (Int32.ofInt (-1)) (nT a) s := ⟨_, rfl⟩
  have r1 : r ≤ nT a := by rw [hr]; exact run_le
  have c0 := P146_on (kad := kad) (N := N) (Z := Z) h hb hr
  have h1 := c0.1.2
  have g2 : min (kc + r) 200 ≤ 200 ∧ min (kc + r) 200 ≤ s + r ∧ s + r ≤ 1000 := h1.2.2.1.2.2.1
  have t2 : ∀ j, tr K (wake M D W) j 1 2 = Int32.ofNat j := tr_2 gB
  -- back and on again
  have cb : ¬ r = 0 → CALL kad N Z [0, 1] (fun g I => f148 kad N Z g (Int32.ofNat r) I) (S, (im, (aOn q K M D W (s + r) (min (kc + r) 200), t))) 0 (Int32.ofNat r) (S, (im, (aOn q K M D W s (min (kc + r) 200 - r), t))) := fun h0 => by
    have x := P148_on (kad := kad) (N := N) (Z := Z) (i := Int32.ofNat r) h1 (by
      rintro (x | x)
      · exact absurd ((of_lt (m := r) (n := 1) (by omega) (by omega)).mp x) (by omega)
      · exact absurd ((of_lt (m := 200) (n := r) (by omega) (by omega)).mp x) (by omega))
    rw [nT_of (by omega), show min r (min (kc + r) 200) = r by omega, Nat.add_sub_cancel] at x
    exact x
  have cn : ¬ r = 0 → CALL kad N Z [0, 1] (fun g I => f146 kad N Z g a I) (S, (im, (aOn q K M D W s (min (kc + r) 200 - r), t))) 0 (Int32.ofNat r) (S, (im, (aOn q K M D W (s + r) (min (kc + r) 200), t))) := fun h0 => by
    have x := P146_on (kad := kad) (N := N) (Z := Z) (cb h0).1.2 hb hr
    rw [show min (min (kc + r) 200 - r + r) 200 = min (kc + r) 200 by omega] at x
    exact x
  have cs := P164_on (kad := kad) (N := N) (Z := Z) (i := Int32.ofNat s) h1 (by
    rintro (x | x)
    · exact of_nn (by omega) x
    · exact absurd ((of_lt (m := s + r) (n := s) (by omega) (by omega)).mp x) (by omega))
  rw [nT_of (by omega)] at cs
  have q1 : ∀ {A : XA}, okA A → CALQ kad N Z (fun g I => f163 kad N Z g I) A (Int32.ofNat (sumX (mX A.2.2.1))) A := fun h => P163 h
  refine ⟨_, ⟨h1, wBd.same rfl⟩, ?_⟩
  unfold f188
  refine (P163 h).oo R fun J R => ?_
  dsimp only
  refine (P152 h).oo R fun J R => ?_
  dsimp only
  refine (P153 h).oo R fun J R => ?_
  dsimp only
  refine (H1_4 c0).oo R fun J R => ?_
  dsimp only
  rw [if_pos (show ¬ hv 0 (Int32.ofNat r) = Int32.ofInt (-99999999) from ofk_ne (by omega))]
  refine (P163 h1).oo R fun J R => ?_
  dsimp only
  rw [if_neg (show ¬ hv 0 (Int32.ofNat r) < 0 from of_nn (by omega)), if_neg (show ¬ a < hv 0 (Int32.ofNat r) from fun x => by
    rw [an] at x
    exact absurd ((of_lt (m := nT a) (n := r) (by omega) (by omega)).mp x) (by omega))]
  refine (P152 h1).oo R fun J R => ?_
  dsimp only
  rw [if_neg (fun hh => hh (show tr K (wake M D W) (s + r) 1 2 = tr K (wake M D W) s 1 2 + Int32.ofNat r by rw [t2, t2, Int32.ofNat_add]))]
  refine (P153 h1).oo R fun J R => ?_
  dsimp only
  have fin : ∀ J, R2 kad N Z g g' (S, (im, (aOn q K M D W (s + r) (min (kc + r) 200), t))) (S, (im, (aOn q K M D W (s + r) (min (kc + r) 200), t))) J → Ok (f188_b269 kad N Z g g' (Int32.ofNat (sumX (tr K (wake M D W) (s + r)))) J) (fun x J => x = 1 ∧ R2 kad N Z g g' (S, (im, (aOn q K M D W (s + r) (min (kc + r) 200), t))) (S, (im, (aOn q K M D W (s + r) (min (kc + r) 200), t))) J) := fun J R => by
    unfold f188_b269
    refine (P163 h1).pp R fun J R => ?_
    dsimp only
    rw [if_neg (fun hh => hh rfl)]
    unfold f188_b283
    rw [if_pos (Or.inr rfl)]
    exact Ok.ret ⟨rfl, R⟩
  have b213 : ∀ J, R2 kad N Z g g' (S, (im, (aOn q K M D W (s + r) (min (kc + r) 200), t))) (S, (im, (aOn q K M D W s kc, t))) J → Ok (f188_b213 kad N Z g g' a (Int32.ofNat r) (Int32.ofNat (sumX (tr K (wake M D W) (s + r)))) 1 J) (fun x J => x = 1 ∧ R2 kad N Z g g' (S, (im, (aOn q K M D W (s + r) (min (kc + r) 200), t))) (S, (im, (aOn q K M D W (s + r) (min (kc + r) 200), t))) J) := fun J R => by
    unfold f188_b213
    rw [if_neg (show ¬ (1 : Int32) = 0 by decide)]
    refine (H1_4 c0).pp R fun J R => ?_
    dsimp only
    rw [if_neg (fun hh => hh rfl)]
    by_cases h0 : r = 0
    · rw [if_pos (show Int32.ofNat r = 0 by rw [h0]; rfl)]
      exact fin J R
    · rw [if_neg (show ¬ Int32.ofNat r = 0 from fun x => h0 ((of_inj (m := r) (n := 0) (by omega) (by omega)).mp x))]
      refine (H1_6 (cb h0)).pp R fun J R => ?_
      dsimp only
      rw [if_neg (fun hh => hh rfl)]
      refine (H1_4 (cn h0)).pp R fun J R => ?_
      dsimp only
      rw [if_neg (fun hh => hh rfl)]
      exact fin J R
  have b184 : ∀ J, R2 kad N Z g g' (S, (im, (aOn q K M D W (s + r) (min (kc + r) 200), t))) (S, (im, (aOn q K M D W s kc, t))) J → Ok (f188_b184 kad N Z g g' a (Int32.ofNat (sumX (tr K (wake M D W) s))) (tr K (wake M D W) s 1 2) (Int32.ofNat r) (Int32.ofNat (sumX (tr K (wake M D W) (s + r)))) J) (fun x J => x = 1 ∧ R2 kad N Z g g' (S, (im, (aOn q K M D W (s + r) (min (kc + r) 200), t))) (S, (im, (aOn q K M D W (s + r) (min (kc + r) 200), t))) J) := fun J R => by
    unfold f188_b184
    rw [t2]
    refine (P163 h1).oo R fun J R => ?_
    dsimp only
    rw [if_neg (fun hh => hh rfl)]
    refine (H1_8 cs).oo R fun J R => ?_
    dsimp only
    rw [if_neg (fun hh => hh rfl)]
    exact b213 J R
  have b125 : ∀ J, R2 kad N Z g g' (S, (im, (aOn q K M D W (s + r) (min (kc + r) 200), t))) (S, (im, (aOn q K M D W s kc, t))) J → Ok (f188_b125 kad N Z g g' a (Int32.ofNat (sumX (tr K (wake M D W) s))) (tr K (wake M D W) s 1 2) (Int32.ofNat r) (Int32.ofNat (sumX (tr K (wake M D W) (s + r)))) 1 J) (fun x J => x = 1 ∧ R2 kad N Z g g' (S, (im, (aOn q K M D W (s + r) (min (kc + r) 200), t))) (S, (im, (aOn q K M D W (s + r) (min (kc + r) 200), t))) J) := fun J R => by
    unfold f188_b125
    rw [if_neg (show ¬ (1 : Int32) = 0 by decide)]
    by_cases h0 : r = 0
    · rw [if_pos (show Int32.ofNat r = 0 by rw [h0]; rfl)]
      exact b184 J R
    · rw [if_neg (show ¬ Int32.ofNat r = 0 from fun x => h0 ((of_inj (m := r) (n := 0) (by omega) (by omega)).mp x))]
      refine (H1_6 (cb h0)).oo R fun J R => ?_
      dsimp only
      rw [if_neg (fun hh => hh rfl)]
      refine (P163 (cb h0).1.2).oo R fun J R => ?_
      dsimp only
      rw [if_neg (fun hh => hh rfl)]
      refine (P152 (cb h0).1.2).oo R fun J R => ?_
      dsimp only
      rw [if_neg (fun hh => hh rfl)]
      refine (H1_4 (cn h0)).oo R fun J R => ?_
      dsimp only
      rw [if_neg (fun hh => hh rfl)]
      exact b184 J R
  have ek : Int32.ofNat kc + Int32.ofNat r = Int32.ofNat (kc + r) := (Int32.ofNat_add _ _).symm
  by_cases h2 : kc + r ≤ 200
  · have e9 : Int32.ofNat (xmK (aOn q K M D W s kc)) + hv 0 (Int32.ofNat r) ≤ 200 := (show Int32.ofNat kc + Int32.ofNat r ≤ 200 by rw [ek]; exact (of_le (m := kc + r) (n := 200) (by omega) (by omega)).mpr h2)
    rw [if_pos e9]
    unfold f188_b117
    rw [if_neg (fun hh => hh (show Int32.ofNat (min (kc + r) 200) = Int32.ofNat kc + Int32.ofNat r by rw [ek, Nat.min_eq_left h2]))]
    exact b125 J R
  · have e9 : ¬ Int32.ofNat (xmK (aOn q K M D W s kc)) + hv 0 (Int32.ofNat r) ≤ 200 := (show ¬ Int32.ofNat kc + Int32.ofNat r ≤ 200 by rw [ek]; exact fun x => h2 ((of_le (m := kc + r) (n := 200) (by omega) (by omega)).mp x))
    rw [if_neg e9]
    unfold f188_b117
    rw [if_neg (fun hh => hh (show Int32.ofNat (min (kc + r) 200) = 200 by rw [Nat.min_eq_right (by omega)]; rfl))]
    exact b125 J R
theorem back_off (h : okA (S, (im, (aOff q K M D W s kc, t)))) (hb : ¬ bad a 1 100) (R : R2 kad N Z g g' (S, (im, (aOff q K M D W s kc, t))) (S, (im, (aOff q K M D W s kc, t))) I) : Ok (f188 kad N Z g g' a I) (fun x J => x = 1 ∧ R2 kad N Z g g' (S, (im, (aOff q K M D W s kc, t))) (S, (im, (aOff q K M D W s kc, t))) J) := by
  have c0 := P146_off (kad := kad) (N := N) (Z := Z) (i := a) h
  rw [if_neg (show ¬ (a < 1 ∨ 100 < a) from hb)] at c0
  unfold f188
  refine (P163 h).oo R fun J R => ?_
  dsimp only
  refine (P152 h).oo R fun J R => ?_
  dsimp only
  refine (P153 h).oo R fun J R => ?_
  dsimp only
  refine (H1_4 c0).oo R fun J R => ?_
  dsimp only
  rw [if_neg (fun hh => hh rfl)]
  refine (H1_4 c0).pp R fun J R => ?_
  dsimp only
  rw [if_neg (fun hh => hh rfl)]
  refine (P150 h).oo R fun J R => ?_
  dsimp only
  rw [if_neg (fun hh => hh rfl)]
  unfold f188_b61
  rw [if_pos (Or.inr rfl)]
  exact Ok.ret ⟨rfl, R⟩
theorem isBack (h : okA A) (hb : ¬ bad a 1 100) (R : R2 kad N Z g g' A A I) : ∃ A', (okA A' ∧ ∀ c, wBd c A → wBd (c + 1004) A') ∧ Ok (f188 kad N Z g g' a I) (fun x J => x = 1 ∧ R2 kad N Z g g' A' A' J) := by
  obtain ⟨S, im, ⟨on, ⟨q, K⟩, M, D, W, s, kc⟩, t⟩ := A
  cases on with
  | false => exact ⟨_, ⟨h, wBd.same rfl⟩, back_off h hb R⟩
  | true => exact back_on h hb R
end PBK
