/-! p53: the machine's calls -/
section PM
variable {kad : Nat → Nat} {N : Nat} {Z : AZ} {S : Nat × AI} {im : Int32 × (Nat → Int32)} {t : Nat × AI} {q s kc : Nat} {K : AI} {M D : Nat → Int32} {W i j : Int32}
/-- off, on -/
abbrev aOff (q : Nat) (K : AI) (M D : Nat → Int32) (W : Int32) (s kc : Nat) : Bool × XM := (false, ((q, K), (M, (D, (W, (s, kc))))))
abbrev aOn (q : Nat) (K : AI) (M D : Nat → Int32) (W : Int32) (s kc : Nat) : Bool × XM := (true, ((q, K), (M, (D, (W, (s, kc))))))
theorem wd_bad (h : ¬ bad i 0 65535) : wd i := by
  obtain ⟨k, e, e1, e2, e3⟩ := bad_nat (a := 0) (b := 65535) h
  rw [e]
  exact wd_nat e3
theorem CS.frs {g : Nat} {I I' : AI} (H : CS g M D I) (h : frC g I I') : CS g M D I' := H.cong (h.1 _ (by omega) (by omega) (by omega)) (h.1 _ (by omega) (by omega) (by omega))
theorem P143_off (h : okA (S, (im, (aOff q K M D W s kc, t)))) : (im.1 = 0 → CALL kad N Z [1] (fun g I => f143 kad N Z g I) (S, (im, (aOff q K M D W s kc, t))) 1 0 (S, (im, (aOff q K M D W s kc, t)))) ∧
    (¬ im.1 = 0 → ∃ r D', MD D r D' ∧ CALL kad N Z [1] (fun g I => f143 kad N Z g I) (S, (im, (aOff q K M D W s kc, t))) 0 (Int32.ofNat r) (S, (im, (aOn 0 K0 im.2 D' (W + Int32.ofNat r) 0 0, t)))) := by
  obtain ⟨r, D', d1, d2, d3, d4⟩ := h.2.2.1.2.md
  have hb := h.2.1.2
  refine ⟨fun h0 => CALL.no h (by decide) fun g I hE H => ?_, fun h0 => ⟨r, D', d1, CALL.go h ?_ fun g I hE H => ?_⟩⟩
  · refine (C143_off (kad := kad) (N := N) (Z := Z) (M := im.2) hE.1 hE.2.1 H.2.2.1 d1 H.2.1.2).mono fun x J hx => hx.1 (H.2.1.1.trans h0)
  · exact ⟨⟨K0_ok, fun k hk => absurd hk (Nat.not_lt_zero _), hb, d3, d4⟩, ⟨wake_inv hb ⟨d3, d4⟩ K0_ok (fun k hk => absurd hk (Nat.not_lt_zero _)), rfl⟩, ⟨by decide, by decide, by decide⟩, fun j hj => absurd hj (Nat.not_lt_zero _)⟩
  · refine (C143_off (kad := kad) (N := N) (Z := Z) (M := im.2) hE.1 hE.2.1 H.2.2.1 d1 H.2.1.2).mono fun x J hx => ?_
    obtain ⟨x1, x2, x3, x4⟩ := hx.2 (fun hh => h0 (H.2.1.1.symm.trans hh))
    exact ⟨x1, ⟨x2, x3⟩, x4⟩
theorem P143_on (h : okA (S, (im, (aOn q K M D W s kc, t)))) : CALL kad N Z [1] (fun g I => f143 kad N Z g I) (S, (im, (aOn q K M D W s kc, t))) 1 0 (S, (im, (aOn q K M D W s kc, t))) :=
  CALL.q h (by decide) fun g I hE H => C143_on H.2.2.1.1.1 (oN.tr oN.wake s)
theorem P144_off (h : okA (S, (im, (aOff q K M D W s kc, t)))) : CALL kad N Z [1] (fun g I => f144 kad N Z g I) (S, (im, (aOff q K M D W s kc, t))) 1 0 (S, (im, (aOff q K M D W s kc, t))) :=
  CALL.q h (by decide) fun g I hE H => C144_off H.2.2.1
theorem P144_on (h : okA (S, (im, (aOn q K M D W s kc, t)))) : CALL kad N Z [1] (fun g I => f144 kad N Z g I) (S, (im, (aOn q K M D W s kc, t))) 0 (Int32.ofNat s) (S, (im, (aOff q K M (tr K (wake M D W) s 9) (tr K (wake M D W) s 8 1) s kc, t))) := by
  obtain ⟨⟨a1, ak, aM, aD⟩, a2⟩ := h.2.2.1
  refine CALL.go (m := aOff q K M (tr K (wake M D W) s 9) (tr K (wake M D W) s 8 1) s kc) h ⟨a1, (a2.1.1.trj s).1.2.dk⟩ fun g I hE H => ?_
  refine (C144_on (kad := kad) (N := N) (Z := Z) hE.1 hE.2.1 a1 a2.1.2 H.2.2.1.1 (oN.tr oN.wake s)).mono fun x J hx => ⟨hx.1, hx.2.1, hx.2.2.x⟩
theorem P145_off (h : okA (S, (im, (aOff q K M D W s kc, t)))) : CALL kad N Z [1] (fun g I => f145 kad N Z g I) (S, (im, (aOff q K M D W s kc, t))) 0 (cFi D 6 0 0) (S, (im, (aOff q K M fD 0 s kc, t))) := by
  refine CALL.go (m := aOff q K M fD 0 s kc) h ⟨h.2.2.1.1, Or.inl fD_ok⟩ fun g I hE H => ?_
  exact (C145_off (kad := kad) (N := N) (Z := Z) hE.1 hE.2.1 H.2.2.1).mono fun x J hx => ⟨hx.1, hx.2.1, hx.2.2.x⟩
theorem P145_on (h : okA (S, (im, (aOn q K M D W s kc, t)))) : CALL kad N Z [1] (fun g I => f145 kad N Z g I) (S, (im, (aOn q K M D W s kc, t))) 1 0 (S, (im, (aOn q K M D W s kc, t))) :=
  CALL.q h (by decide) fun g I hE H => C145_on H.2.2.1.1.1 (oN.tr oN.wake s)
theorem P146_off (h : okA (S, (im, (aOff q K M D W s kc, t)))) : CALL kad N Z [0, 1] (fun g I => f146 kad N Z g i I) (S, (im, (aOff q K M D W s kc, t))) (if i < 1 ∨ 100 < i then 1 else 2) 0 (S, (im, (aOff q K M D W s kc, t))) :=
  CALL.q h (by split <;> decide) fun g I hE H => C146_off H.2.2.1.1 rfl i
theorem P146_bad (h : okA (S, (im, (aOn q K M D W s kc, t)))) (hb : bad i 1 100) : CALL kad N Z [0, 1] (fun g I => f146 kad N Z g i I) (S, (im, (aOn q K M D W s kc, t))) 1 0 (S, (im, (aOn q K M D W s kc, t))) :=
  CALL.no h (by decide) fun g I hE H => (C146_on (kad := kad) (N := N) (Z := Z) hE.1 hE.2.1 hE.2.2.2.1 h.2.2.1.2 (oN.tr oN.wake s) H.2.2.1.1 i).mono fun x J hx => hx.1 hb
theorem P146_on (h : okA (S, (im, (aOn q K M D W s kc, t)))) (hb : ¬ bad i 1 100) {r : Nat} (hr : r = run K (wake M D W) (Int32.ofInt (-1)) (nT i) s) : CALL kad N Z [0, 1] (fun g I => f146 kad N Z g i I) (S, (im, (aOn q K M D W s kc, t))) 0 (Int32.ofNat r) (S, (im, (aOn q K M D W (s + r) (min (kc + r) 200), t))) := by
  subst hr
  refine CALL.go (m := aOn q K M D W _ _) h ⟨h.2.2.1.1, h.2.2.1.2.go _ _⟩ fun g I hE H => ?_
  refine (C146_on (kad := kad) (N := N) (Z := Z) hE.1 hE.2.1 hE.2.2.2.1 h.2.2.1.2 (oN.tr oN.wake s) H.2.2.1.1 i).mono fun x J hx => ?_
  obtain ⟨x1, x2, x3⟩ := hx.2 hb
  exact ⟨x1, ⟨x2, H.2.2.1.2.frs x3⟩, x3.x⟩
theorem P147_off (h : okA (S, (im, (aOff q K M D W s kc, t)))) : CALL kad N Z [0, 1] (fun g I => f147 kad N Z g i j I) (S, (im, (aOff q K M D W s kc, t))) (if (i < 0 ∨ 255 < i) ∨ (j < 1 ∨ 100 < j) then 1 else 2) 0 (S, (im, (aOff q K M D W s kc, t))) :=
  CALL.q h (by split <;> decide) fun g I hE H => C147_off H.2.2.1.1 rfl i j
theorem P147_bad (h : okA (S, (im, (aOn q K M D W s kc, t)))) (hb : bad i 0 255 ∨ bad j 1 100) : CALL kad N Z [0, 1] (fun g I => f147 kad N Z g i j I) (S, (im, (aOn q K M D W s kc, t))) 1 0 (S, (im, (aOn q K M D W s kc, t))) :=
  CALL.no h (by decide) fun g I hE H => (C147_on (kad := kad) (N := N) (Z := Z) hE.1 hE.2.1 hE.2.2.2.1 h.2.2.1.2 (oN.tr oN.wake s) H.2.2.1.1 i j).mono fun x J hx => hx.1 hb
theorem P147_on (h : okA (S, (im, (aOn q K M D W s kc, t)))) (hb : ¬ (bad i 0 255 ∨ bad j 1 100)) {r : Nat} (hr : r = run K (wake M D W) i (nT j) s) : CALL kad N Z [0, 1] (fun g I => f147 kad N Z g i j I) (S, (im, (aOn q K M D W s kc, t))) 0 (Int32.ofNat r) (S, (im, (aOn q K M D W (s + r) (min (kc + r) 200), t))) := by
  subst hr
  refine CALL.go (m := aOn q K M D W _ _) h ⟨h.2.2.1.1, h.2.2.1.2.go _ _⟩ fun g I hE H => ?_
  refine (C147_on (kad := kad) (N := N) (Z := Z) hE.1 hE.2.1 hE.2.2.2.1 h.2.2.1.2 (oN.tr oN.wake s) H.2.2.1.1 i j).mono fun x J hx => ?_
  obtain ⟨x1, x2, x3⟩ := hx.2 hb
  exact ⟨x1, ⟨x2, H.2.2.1.2.frs x3⟩, x3.x⟩
theorem P148_off (h : okA (S, (im, (aOff q K M D W s kc, t)))) : CALL kad N Z [0, 1] (fun g I => f148 kad N Z g i I) (S, (im, (aOff q K M D W s kc, t))) (if i < 1 ∨ 200 < i then 1 else 2) 0 (S, (im, (aOff q K M D W s kc, t))) :=
  CALL.q h (by split <;> decide) fun g I hE H => C148_off H.2.2.1.1 rfl i
theorem P148_bad (h : okA (S, (im, (aOn q K M D W s kc, t)))) (hb : bad i 1 200) : CALL kad N Z [0, 1] (fun g I => f148 kad N Z g i I) (S, (im, (aOn q K M D W s kc, t))) 1 0 (S, (im, (aOn q K M D W s kc, t))) :=
  CALL.no h (by decide) fun g I hE H => (C148_on (kad := kad) (N := N) (Z := Z) hE.1 hE.2.1 h.2.2.1.2 (oN.tr oN.wake s) H.2.2.1.1 i).mono fun x J hx => hx.1 hb
theorem P148_on (h : okA (S, (im, (aOn q K M D W s kc, t)))) (hb : ¬ bad i 1 200) : CALL kad N Z [0, 1] (fun g I => f148 kad N Z g i I) (S, (im, (aOn q K M D W s kc, t))) 0 (Int32.ofNat (min (nT i) kc)) (S, (im, (aOn q K M D W (s - min (nT i) kc) (kc - min (nT i) kc), t))) := by
  refine CALL.go (m := aOn q K M D W _ _) h ⟨h.2.2.1.1, h.2.2.1.2.back _⟩ fun g I hE H => ?_
  refine (C148_on (kad := kad) (N := N) (Z := Z) hE.1 hE.2.1 h.2.2.1.2 (oN.tr oN.wake s) H.2.2.1.1 i).mono fun x J hx => ?_
  obtain ⟨x1, x2, x3⟩ := hx.2 hb
  exact ⟨x1, ⟨x2, H.2.2.1.2.frs x3⟩, x3.x⟩
theorem P149_off (h : okA (S, (im, (aOff q K M D W s kc, t)))) : CALL kad N Z [0, 1] (fun g I => f149 kad N Z g i I) (S, (im, (aOff q K M D W s kc, t))) (if i < 0 ∨ 65535 < i then 1 else 2) 0 (S, (im, (aOff q K M D W s kc, t))) :=
  CALL.q h (by split <;> decide) fun g I hE H => C149_off H.2.2.1.1 rfl i
theorem P149_bad (h : okA (S, (im, (aOn q K M D W s kc, t)))) (hb : bad i 0 65535) : CALL kad N Z [0, 1] (fun g I => f149 kad N Z g i I) (S, (im, (aOn q K M D W s kc, t))) 1 0 (S, (im, (aOn q K M D W s kc, t))) :=
  CALL.no h (by decide) fun g I hE H => (C149_on (kad := kad) (N := N) (Z := Z) hE.1 h.2.2.1.2 h.2.2.1.1.1 H.2.2.1.1 i).mono fun x J hx => hx.1 hb
theorem P149_no (h : okA (S, (im, (aOn q K M D W s kc, t)))) (hb : ¬ bad i 0 65535) (hr : ¬ (tr K (wake M D W) s 1 0 = 1 ∧ q < 20)) : CALL kad N Z [0, 1] (fun g I => f149 kad N Z g i I) (S, (im, (aOn q K M D W s kc, t))) 2 0 (S, (im, (aOn q K M D W s kc, t))) :=
  CALL.no h (by decide) fun g I hE H => (C149_on (kad := kad) (N := N) (Z := Z) hE.1 h.2.2.1.2 h.2.2.1.1.1 H.2.2.1.1 i).mono fun x J hx => (hx.2 hb).2 hr
theorem P149_on (h : okA (S, (im, (aOn q K M D W s kc, t)))) (hb : ¬ bad i 0 65535) (hr : tr K (wake M D W) s 1 0 = 1 ∧ q < 20) : CALL kad N Z [0, 1] (fun g I => f149 kad N Z g i I) (S, (im, (aOn q K M D W s kc, t))) 0 (Int32.ofNat (q + 1)) (S, (im, (aOn (q + 1) (prK K q s i) M D W s kc, t))) := by
  obtain ⟨⟨a1, ak, aM, aD⟩, a2⟩ := h.2.2.1
  refine CALL.go (m := aOn (q + 1) (prK K q s i) M D W s kc) h ⟨⟨(prK_ok a1 hr.2).ok a1, prK_wd a1 hr.2 ak (wd_bad hb), aM, aD⟩, a2.press aM aD a1 ak hr.2 (wd_bad hb)⟩ fun g I hE H => ?_
  refine (C149_on (kad := kad) (N := N) (Z := Z) hE.1 a2 a1 H.2.2.1.1 i).mono fun x J hx => ?_
  obtain ⟨x1, x2, x3⟩ := (hx.2 hb).1 hr
  exact ⟨x1, ⟨x2, H.2.2.1.2.frs x3⟩, x3.x⟩
theorem P164_off (h : okA (S, (im, (aOff q K M D W s kc, t)))) : CALL kad N Z [1, 0] (fun g I => f164 kad N Z g i I) (S, (im, (aOff q K M D W s kc, t))) 1 0 (S, (im, (aOff q K M D W s kc, t))) :=
  CALL.q h (by decide) fun g I hE H => C164_off H.2.2.1.1 rfl i
theorem P164_bad (h : okA (S, (im, (aOn q K M D W s kc, t)))) (hb : bad i 0 (Int32.ofNat s)) : CALL kad N Z [1, 0] (fun g I => f164 kad N Z g i I) (S, (im, (aOn q K M D W s kc, t))) 2 0 (S, (im, (aOn q K M D W s kc, t))) :=
  CALL.no h (by decide) fun g I hE H => (C164_on (kad := kad) (N := N) (Z := Z) hE.1 hE.2.1 hE.2.2.2.2 h.2.2.1.2 (oN.tr oN.wake s) h.2.2.1.1.1 h.2.2.1.1.2.2.2 H.2.2.1.1 H.2.2.1.2 i).mono fun x J hx => hx.1 hb
theorem P164_on (h : okA (S, (im, (aOn q K M D W s kc, t)))) (hb : ¬ bad i 0 (Int32.ofNat s)) : CALL kad N Z [1, 0] (fun g I => f164 kad N Z g i I) (S, (im, (aOn q K M D W s kc, t))) 0 (Int32.ofNat (sumX (tr K (wake M D W) (nT i)))) (S, (im, (aOn q K M D W s kc, t))) := by
  refine CALL.go (m := aOn q K M D W s kc) h h.2.2.1 fun g I hE H => ?_
  refine (C164_on (kad := kad) (N := N) (Z := Z) hE.1 hE.2.1 hE.2.2.2.2 h.2.2.1.2 (oN.tr oN.wake s) h.2.2.1.1.1 h.2.2.1.1.2.2.2 H.2.2.1.1 H.2.2.1.2 i).mono fun x J hx => ?_
  obtain ⟨x1, x2, x3, x4⟩ := hx.2 hb
  exact ⟨x1, ⟨x2, x3⟩, x4⟩
end PM
