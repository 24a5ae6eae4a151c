/-! p53: a crash, and the start behind it, on two objects alike -/
section PCR
variable {kad : Nat → Nat} {N : Nat} {Z : AZ} {A A' B : XA} {th : Nat} {v a b c e : Int32} {es hs : List Nat} {g g' : Nat} {I : AI}
theorem H1_1 (hC : CALL kad N Z [1] (fun g I => f143 kad N Z g I) A th v A') : CALQ kad N Z (fun g I => fH1 kad N Z g 1 a b c e I) A (hv th v) A' := (hC.hr (hs := [0, 1]) (by decide)).of fun g I => by unfold fH1; rw [if_neg (by decide), if_pos rfl]
theorem H1_2 (hC : CALL kad N Z [1] (fun g I => f144 kad N Z g I) A th v A') : CALQ kad N Z (fun g I => fH1 kad N Z g 2 a b c e I) A (hv th v) A' := (hC.hr (hs := [0, 1]) (by decide)).of fun g I => by unfold fH1; rw [if_neg (by decide), if_neg (by decide), if_pos rfl]
theorem P169_0 (h : okA A) : CALL kad N Z [0] (fun g I => f169 kad N Z g 0 0 I) A 0 (mX A.2.2.1 9 0) A := by
  have x := P169 (kad := kad) (N := N) (Z := Z) (i := 0) (j := 0) h
  rw [if_neg (by decide), show 8 * nT (0 : Int32) + nT (0 : Int32) = 0 from by decide] at x
  exact x
theorem P169_8 (h : okA A) : CALL kad N Z [0] (fun g I => f169 kad N Z g 8 0 I) A 0 (mX A.2.2.1 9 64) A := by
  have x := P169 (kad := kad) (N := N) (Z := Z) (i := 8) (j := 0) h
  rw [if_neg (by decide), show 8 * nT (8 : Int32) + nT (0 : Int32) = 64 from by decide] at x
  exact x
theorem P159_8 (h : okA A) : CALL kad N Z [0] (fun g I => f159 kad N Z g 8 I) A 0 (mX A.2.2.1 6 8) A := by
  have x := P159 (kad := kad) (N := N) (Z := Z) (i := 8) h
  rw [if_neg (by decide), show nT (8 : Int32) = 8 from by decide] at x
  exact x
theorem P137_8 (h : okA A) (h1 : ¬ A.2.1.1 = 0) : CALL kad N Z [0, 1] (fun g I => f137 kad N Z g 8 I) A 0 (A.2.1.2 8) A := by
  have x := P137 (kad := kad) (N := N) (Z := Z) (i := 8) h
  rw [if_neg (by decide), if_neg h1, show nT (8 : Int32) = 8 from by decide] at x
  exact x
theorem MD.ans {D D' : Nat → Int32} {r : Nat} (h : MD D r D') : r ≤ 4 ∧ ((D 0 = 0 ∧ r = 0) ∨ (¬ D 0 = 0 ∧ D 0 + 1 = Int32.ofNat r)) := by
  rcases h with ⟨h0, -, rfl, -⟩ | ⟨n, bs, f, hL, rfl, -⟩
  · exact ⟨by decide, Or.inl ⟨h0, rfl⟩⟩
  · have n13 := hL.1.1
    have e0 : D 0 = Int32.ofNat n := by
      rw [hL.2.2.2.1 0 (by decide)]
      unfold sHd
      rw [if_neg (by decide), if_pos rfl]
    refine ⟨by omega, Or.inr ⟨?_, ?_⟩⟩
    · rw [e0]; exact of_nz (by omega) (by omega)
    · rw [e0, of_s]
theorem MD.end {D D' : Nat → Int32} {r : Nat} (h : MD D r D') : D' 0 = 0 ∧ WF D' := by
  rcases h with ⟨h0, h1, -, rfl⟩ | ⟨n, bs, f, hL, -, rfl⟩
  · exact ⟨h0, h1⟩
  · exact hL.end
variable {S : Nat × AI} {im : Int32 × (Nat → Int32)} {t : Nat × AI} {q s kc : Nat} {K : AI} {M D D' : Nat → Int32} {W i3 i4 : Int32}
theorem mX_on0 : mX (aOn 0 K0 M D W 0 kc) = ov K0 (wake M D W) := K0_tr
theorem crash_b89 (h : okA (S, (im, (aOff q K M D W s kc, t)))) (R : R2 kad N Z g g' (S, (im, (aOff q K M D W s kc, t))) (S, (im, (aOff q K M D W s kc, t))) I) : ∃ A', (okA A' ∧ ∃ r, r ≤ 4 ∧ A'.2.2.1.2.2.2.2.1 = W + Int32.ofNat r) ∧ Ok (f189_b89 kad N Z g g' 1 I) (fun x J => x = .inl 1 ∧ R2 kad N Z g g' A' A' J) := by
  obtain ⟨h1, h2⟩ := P143_off (kad := kad) (N := N) (Z := Z) h
  have eD : mX (aOff q K M D W s kc) 9 0 = D 0 := by show ov K (offm D W) 9 0 = D 0; rw [ov_r9, off_9]
  have eW : mX (aOff q K M D W s kc) 8 1 = W := by show ov K (offm D W) 8 1 = W; rw [ov_r8, off_8]
  have c0 := P169_0 (kad := kad) (N := N) (Z := Z) h
  rw [eD] at c0
  have c8 := P168 (kad := kad) (N := N) (Z := Z) h
  rw [eW] at c8
  by_cases h0 : im.1 = 0
  · have cs := h1 h0
    refine ⟨_, ⟨h, 0, by decide, by show W = W + 0; grind⟩, ?_⟩
    unfold f189_b89
    refine c0.oo R fun J R => ?_
    refine c8.oo R fun J R => ?_
    dsimp only
    refine (H1_1 cs).oo R fun J R => ?_
    dsimp only
    rw [if_neg (show ¬ (1 : Int32) = 0 by decide)]
    refine (H1_1 cs).pp R fun J R => ?_
    dsimp only
    rw [if_neg (fun hh => hh rfl)]
    unfold f189_b140
    rw [if_neg (fun hh => hh rfl), if_neg (show ¬ (1 : Int32) = 0 by decide)]
    refine (P150 h).oo R fun J R => ?_
    dsimp only
    rw [if_neg (fun hh => hh (show ov K (offm D W) 1 0 = 0 by rw [ov_r1, off_1]))]
    unfold f189_b166
    rw [if_pos (Or.inr rfl)]
    exact Ok.ret ⟨rfl, R⟩
  · obtain ⟨r, D', d1, cs⟩ := h2 h0
    obtain ⟨r4, ra⟩ := d1.ans
    have hA' := cs.1.2
    have eX : mX (aOn 0 K0 im.2 D' (W + Int32.ofNat r) 0 0) = ov K0 (wake im.2 D' (W + Int32.ofNat r)) := mX_on0
    have e9 : mX (aOn 0 K0 im.2 D' (W + Int32.ofNat r) 0 0) 9 = D' := by rw [eX, ov_r9, wake_9]
    refine ⟨_, ⟨hA', r, r4, rfl⟩, ?_⟩
    have b187 : ∀ J, R2 kad N Z g g' (S, (im, (aOn 0 K0 im.2 D' (W + Int32.ofNat r) 0 0, t))) (S, (im, (aOn 0 K0 im.2 D' (W + Int32.ofNat r) 0 0, t))) J → Ok (f189_b187 kad N Z g g' W (Int32.ofNat r) (Int32.ofNat r) (Int32.ofNat r) J) (fun x J => x = .inl 1 ∧ R2 kad N Z g g' (S, (im, (aOn 0 K0 im.2 D' (W + Int32.ofNat r) 0 0, t))) (S, (im, (aOn 0 K0 im.2 D' (W + Int32.ofNat r) 0 0, t))) J) := fun J R => by
      obtain ⟨w, ⟨hw, -⟩, q174⟩ := P174 (kad := kad) (N := N) (Z := Z) hA'
      have hw1 : w = 1 := hw (by rw [e9]; exact d1.end.2.wh d1.end.1)
      unfold f189_b187
      rw [if_neg (fun hh => hh rfl)]
      refine (P168 hA').oo R fun J R => ?_
      dsimp only
      rw [if_neg (fun hh => hh (show mX (aOn 0 K0 im.2 D' (W + Int32.ofNat r) 0 0) 8 1 = W + Int32.ofNat r by rw [eX, ov_r8, wake_8]))]
      refine q174.oo R fun J R => ?_
      dsimp only
      rw [if_neg (show ¬ w = 0 by rw [hw1]; decide)]
      refine (P150 hA').oo R fun J R => ?_
      dsimp only
      rw [if_neg (fun hh => hh (show mX (aOn 0 K0 im.2 D' (W + Int32.ofNat r) 0 0) 1 0 = 1 by rw [eX, ov_r1, wake_1, if_pos rfl]))]
      refine (P152 hA').oo R fun J R => ?_
      dsimp only
      rw [if_neg (fun hh => hh (show mX (aOn 0 K0 im.2 D' (W + Int32.ofNat r) 0 0) 1 2 = 0 by rw [eX, ov_r1, wake_1, if_neg (by decide), if_neg (by decide), if_neg (by decide)]))]
      refine (P153 hA').oo R fun J R => ?_
      dsimp only
      rw [if_neg (fun hh => hh (show Int32.ofNat (xmK (aOn 0 K0 im.2 D' (W + Int32.ofNat r) 0 0)) = 0 from rfl))]
      refine (P169_0 hA').oo R fun J R => ?_
      rw [if_neg (fun hh => hh (show mX (aOn 0 K0 im.2 D' (W + Int32.ofNat r) 0 0) 9 0 = 0 by rw [e9]; exact d1.end.1))]
      refine (P159_8 hA').oo R fun J R => ?_
      refine (P137_8 hA' h0).oo R fun J R => ?_
      rw [if_neg (fun hh => hh (show mX (aOn 0 K0 im.2 D' (W + Int32.ofNat r) 0 0) 6 8 = im.2 8 by rw [eX, ov_r6, wake_6]))]
      unfold f189_b260
      rw [if_pos (Or.inr rfl)]
      exact Ok.ret ⟨rfl, R⟩
    unfold f189_b89
    refine c0.oo R fun J R => ?_
    refine c8.oo R fun J R => ?_
    dsimp only
    refine (H1_1 cs).oo R fun J R => ?_
    dsimp only
    rw [if_neg (show ¬ (1 : Int32) = 0 by decide)]
    refine (H1_1 cs).pp R fun J R => ?_
    dsimp only
    rw [if_neg (fun hh => hh rfl)]
    unfold f189_b140
    rw [if_pos (show ¬ hv 0 (Int32.ofNat r) = Int32.ofInt (-99999999) from ofk_ne (by omega)), if_neg (show ¬ (1 : Int32) = 0 by decide)]
    rcases ra with ⟨ra, rr⟩ | ⟨ra, rr⟩
    · rw [if_neg (fun hh => hh ra), show f189_b187 kad N Z g g' W (hv 0 (Int32.ofNat r)) 0 (hv 0 (Int32.ofNat r)) J = f189_b187 kad N Z g g' W (Int32.ofNat r) (Int32.ofNat r) (Int32.ofNat r) J by rw [rr]; rfl]
      exact b187 J R
    · rw [if_pos ra, rr]
      exact b187 J R
theorem crash_b57 (h : okA (S, (im, (aOff q K M D W s kc, t)))) (R : R2 kad N Z g g' (S, (im, (aOff q K M D W s kc, t))) (S, (im, (aOff q K M D W s kc, t))) I) (h3 : i3 = D 64) (h4 : i4 = cFi D 6 0 0) : ∃ A', (okA A' ∧ ∃ r, r ≤ 4 ∧ A'.2.2.1.2.2.2.2.1 = W + Int32.ofNat r) ∧ Ok (f189_b57 kad N Z g g' i3 i4 I) (fun x J => x = .inl 1 ∧ R2 kad N Z g g' A' A' J) := by
  have e9 : mX (aOff q K M D W s kc) 9 = D := by show ov K (offm D W) 9 = D; rw [ov_r9, off_9]
  obtain ⟨J1, x1, R1⟩ := (P150 h).o R
  obtain ⟨J2, x2, R2'⟩ := (P169_8 h).o R1
  obtain ⟨J3, x3, R3⟩ := (P170 h).o R2'
  obtain ⟨A', hA, hk⟩ := crash_b89 h R3
  refine ⟨A', hA, ?_⟩
  unfold f189_b57
  rw [x1, Option.bind_some]
  dsimp only
  rw [if_neg (fun hh => hh (show ov K (offm D W) 1 0 = 0 by rw [ov_r1, off_1])), x2, Option.bind_some]
  show Ok (if ¬ mX (aOff q K M D W s kc) 9 64 = i3 then _ else _) _
  rw [if_neg (fun hh => hh (by rw [e9, h3])), x3, Option.bind_some]
  dsimp only
  rw [if_neg (fun hh => hh (show cFi (mX (aOff q K M D W s kc) 9) 6 0 0 = i4 by rw [e9, h4]))]
  exact hk
theorem isCrash (h : okA A) (R : R2 kad N Z g g' A A I) : ∃ A', (okA A' ∧ ∀ c, wBd c A → wBd (c + 1004) A') ∧ Ok (f189 kad N Z g g' I) (fun x J => x = .inl 1 ∧ R2 kad N Z g g' A' A' J) := by
  obtain ⟨J1, x1, R1⟩ := (P152 h).o R
  obtain ⟨J2, x2, R2'⟩ := (P169_8 h).o R1
  obtain ⟨J3, x3, R3⟩ := (P170 h).o R2'
  obtain ⟨S, im, ⟨on, ⟨q, K⟩, M, D, W, s, kc⟩, t⟩ := A
  cases on with
  | false =>
    have cc := H1_2 (a := 0) (b := 0) (c := 0) (e := 0) (P144_off (kad := kad) (N := N) (Z := Z) h)
    have e9 : mX (aOff q K M D W s kc) 9 = D := by show ov K (offm D W) 9 = D; rw [ov_r9, off_9]
    obtain ⟨J4, x4, R4⟩ := cc.o R3
    obtain ⟨J5, x5, R5⟩ := cc.p R4
    obtain ⟨A', ⟨hA, r, r4, hr⟩, hk⟩ := crash_b57 (i3 := mX (aOff q K M D W s kc) 9 64) (i4 := cFi (mX (aOff q K M D W s kc) 9) 6 0 0) h R5 (by rw [e9]) (by rw [e9])
    refine ⟨A', ⟨hA, wBd.add (r := r) (by omega) hr⟩, ?_⟩
    unfold f189
    rw [x1, Option.bind_some]
    dsimp only
    rw [x2, Option.bind_some]
    show Ok ((f170 kad N Z g J2).bind _) _
    rw [x3, Option.bind_some]
    dsimp only
    rw [x4, Option.bind_some]
    dsimp only
    rw [x5, Option.bind_some]
    dsimp only
    rw [if_neg (fun hh => hh rfl), if_pos (show hv 1 0 = Int32.ofInt (-99999999) from rfl)]
    exact hk
  | true =>
    have cc := H1_2 (a := 0) (b := 0) (c := 0) (e := 0) (P144_on (kad := kad) (N := N) (Z := Z) h)
    have s1000 : s ≤ 1000 := h.2.2.1.2.2.1.2.2
    have gB : wake M D W 1 2 = 0 := h.2.2.1.2.1.2
    obtain ⟨J4, x4, R4⟩ := cc.o R3
    obtain ⟨J5, x5, R5⟩ := cc.p R4
    obtain ⟨A', ⟨hA, r, r4, hr⟩, hk⟩ := crash_b57 (i3 := mX (aOn q K M D W s kc) 9 64) (i4 := cFi (mX (aOn q K M D W s kc) 9) 6 0 0) cc.1 R5 rfl rfl
    obtain ⟨w, w1, w2⟩ := tr_8 (K := K) (B := wake M D W) s
    rw [wake_8] at w2
    refine ⟨A', ⟨hA, wBd.add (r := w + r) (by omega) (by rw [hr, w2, Int32.ofNat_add]; show W + Int32.ofNat w + Int32.ofNat r = W + (Int32.ofNat w + Int32.ofNat r); grind)⟩, ?_⟩
    unfold f189
    rw [x1, Option.bind_some]
    dsimp only
    rw [x2, Option.bind_some]
    show Ok ((f170 kad N Z g J2).bind _) _
    rw [x3, Option.bind_some]
    dsimp only
    rw [x4, Option.bind_some]
    dsimp only
    rw [x5, Option.bind_some]
    dsimp only
    rw [if_neg (fun hh => hh rfl), if_neg (show ¬ hv 0 (Int32.ofNat s) = Int32.ofInt (-99999999) from ofk_ne (by omega)), if_neg (fun hh => hh (show Int32.ofNat s = tr K (wake M D W) s 1 2 by rw [tr_2 gB]))]
    exact hk
end PCR
