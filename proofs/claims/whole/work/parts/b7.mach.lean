/-! the machine's calls, in both -/
section OM
variable {kad : Nat → Nat} {N : Nat} {Z : AZ} {g m q s kc : Nat} {I J I' J' K B : AI} {M D : Nat → Int32} {W v i j : Int32}
theorem wd_bad (h : ¬ bad i 0 65535) : wd i := by
  obtain ⟨k, e, e1, e2, e3⟩ := bad_nat (a := 0) (b := 65535) h
  rw [e]
  exact wd_nat e3
theorem MS.frs (H : MS m M D W J) (h : frM m (up2 J m 0 v) J') : MS m M D W J' := by
  have hb : ∀ b k, (b = m + 26 ∨ b = m + 27 ∨ (b = m ∧ k = 55)) → J' b k = J b k := fun b k hb => by
    rw [h b k (fun hh => by
      rcases hh with hh | hh | hh
      · rcases hh with hh | hh
        · have := hh.1; have := hh.2; omega
        · rcases hh with hh | hh | hh | hh | hh | hh | hh | hh | hh <;> omega
      · have := hh.1; have := hh.2; omega
      · omega)]
    exact up2_ne (by omega)
  exact ⟨fun k hk => by rw [hb _ _ (by omega), hb _ _ (by omega)]; exact H.1 k hk, by rw [hb _ _ (by omega)]; exact H.2⟩
theorem CS.frs (H : CS g M D I) (h : frC g I I') : CS g M D I' := H.cong (h.1 _ (by omega) (by omega) (by omega)) (h.1 _ (by omega) (by omega) (by omega))
theorem frMX.h0 (h : frMX m (up2 J m 0 v) J') : frH m J J' := (frH.up (by omega)).trans h.h
theorem frMX.th (h : frMX m (up2 J m 0 v) J') : J' m 0 = v := by rw [h m 0 TX_0, up2_eq]
/-- behind a call that did what it had to -/
theorem OUT.go (H : MIr g m I J) {es : List Nat} {cls : Option ((Int32 ⊕ String) × AI)} {mdl : Option (Int32 × AI)} {x : Int32 ⊕ String} {y : Int32} (e1 : cls = some (x, I')) (hx : x = rx es 0 v) (e2 : mdl = some (y, J')) (hy : y = v) (hc : frX g I I') (hm : frMX m (up2 J m 0 0) J') (hM : miM g m I' J') : OUT g m es I J cls mdl := by
  subst hx
  exact ⟨0, v, y, I', J', Nat.zero_le _, e1, e2, fun _ => hy, hm.th, hc.h, hm.h0, H.mach hc hm hM⟩
theorem OUT.no (H : MIr g m I J) {es : List Nat} {cls : Option ((Int32 ⊕ String) × AI)} {mdl : Option (Int32 × AI)} {x : Int32 ⊕ String} {y : Int32} {th : Nat} (ht : th ≤ es.length) (h0 : ¬ th = 0) (e1 : cls = some (x, I')) (hx : x = rx es th v ∧ I' = I) (e2 : mdl = some (y, J')) (hy : J' = up2 J m 0 (Int32.ofNat th)) : OUT g m es I J cls mdl := by
  obtain ⟨hx, hI⟩ := hx
  subst hx hI hy
  exact OUT.q H ht e1 e2 (fun h => absurd h h0)
theorem O143 (hE : miE kad N Z g m) (H : MIr g m I J) : OUT g m [1] I J (f143 kad N Z g I) (f257 kad N Z m J) := by
  obtain ⟨hN, hg, hm, hz, zk, zs⟩ := hE
  obtain ⟨b1, b2, b3⟩ := H.2.1
  rcases H.2.2.1 with ⟨q, K, D, W, a1, a2, a3, a4⟩ | ⟨q, K, M, D, W, s, kc, ⟨a1, ak, aM, aD⟩, a2, ⟨a3, a4⟩, a5, a6⟩
  · obtain ⟨r, D', d1, d2, d3, d4⟩ := a2.md
    obtain ⟨x, I', e1, h1, h2⟩ := C143_off (kad := kad) (N := N) (Z := Z) (M := I (g + 113)) hN hg a3 d1 (fun _ _ => rfl)
    obtain ⟨y, J', f1, k1, k2⟩ := M257_off (kad := kad) (N := N) (Z := Z) (M := I (g + 113)) hN hm a4 d1 (fun k hk => (b3 k hk).2)
    by_cases h0 : I g 2 = 0
    · exact OUT.no H (th := 1) (by decide) (by decide) e1 (h1 h0) f1 (k1 (b2.trans h0))
    · obtain ⟨x1, x2, x3, x4⟩ := h2 h0
      obtain ⟨y1, y2, y3, y4⟩ := k2 (fun hh => h0 (b2.symm.trans hh))
      refine OUT.go H e1 x1 f1 y1 x4 y4 (Or.inr ⟨0, K0, I (g + 113), D', W + Int32.ofNat r, 0, 0, ⟨K0_ok, fun k hk => absurd hk (Nat.not_lt_zero _), fun k hk => (b3 k hk).1, d3, d4⟩, ⟨⟨wake_inv (fun k hk => (b3 k hk).1) ⟨d3, d4⟩ K0_ok (fun k hk => absurd hk (Nat.not_lt_zero _)), rfl⟩, ⟨by decide, by decide, by decide⟩, fun j hj => absurd hj (Nat.not_lt_zero _)⟩, ⟨x2, x3⟩, y2, y3⟩)
  · have h0 : ¬ tr K (wake M D W) s 1 0 = 0 := oN.tr oN.wake s
    obtain ⟨y, J', f1, k1⟩ := M257_on (kad := kad) (N := N) (Z := Z) a5.1 h0
    exact OUT.no H (th := 1) (v := 0) (by decide) (by decide) (C143_on a3.1 h0) ⟨rfl, rfl⟩ f1 k1
theorem O144 (hE : miE kad N Z g m) (H : MIr g m I J) : OUT g m [1] I J (f144 kad N Z g I) (f258 kad N Z m J) := by
  obtain ⟨hN, hg, hm, hz, zk, zs⟩ := hE
  rcases H.2.2.1 with ⟨q, K, D, W, a1, a2, a3, a4⟩ | ⟨q, K, M, D, W, s, kc, ⟨a1, ak, aM, aD⟩, a2, ⟨a3, a4⟩, a5, a6⟩
  · obtain ⟨y, J', f1, k1⟩ := M258_off (kad := kad) (N := N) (Z := Z) a4
    exact OUT.no H (th := 1) (v := 0) (by decide) (by decide) (C144_off a3) ⟨rfl, rfl⟩ f1 k1
  · have h0 : ¬ tr K (wake M D W) s 1 0 = 0 := oN.tr oN.wake s
    obtain ⟨x, I', e1, x1, x2, x3⟩ := C144_on (kad := kad) (N := N) (Z := Z) hN hg a1 a2.1.2 a3 h0
    obtain ⟨y, J', f1, y1, y2, y3⟩ := M258_on (kad := kad) (N := N) (Z := Z) hN a1 a2.1.2 a5 h0
    exact OUT.go H e1 x1 f1 y1 x3.x y3.x (Or.inl ⟨q, K, _, _, a1, (a2.1.1.trj s).1.2.dk, x2, y2⟩)
theorem O145 (hE : miE kad N Z g m) (H : MIr g m I J) : OUT g m [1] I J (f145 kad N Z g I) (f259 kad N Z m J) := by
  obtain ⟨hN, hg, hm, hz, zk, zs⟩ := hE
  rcases H.2.2.1 with ⟨q, K, D, W, a1, a2, a3, a4⟩ | ⟨q, K, M, D, W, s, kc, ⟨a1, ak, aM, aD⟩, a2, ⟨a3, a4⟩, a5, a6⟩
  · obtain ⟨x, I', e1, x1, x2, x3⟩ := C145_off (kad := kad) (N := N) (Z := Z) hN hg a3
    obtain ⟨y, J', f1, y1, y2, y3⟩ := M259_off (kad := kad) (N := N) (Z := Z) hN a4
    exact OUT.go H e1 x1 f1 y1 x3.x y3.x (Or.inl ⟨q, K, _, _, a1, Or.inl fD_ok, x2, y2⟩)
  · have h0 : ¬ tr K (wake M D W) s 1 0 = 0 := oN.tr oN.wake s
    obtain ⟨y, J', f1, k1⟩ := M259_on (kad := kad) (N := N) (Z := Z) a5.1 h0
    exact OUT.no H (th := 1) (v := 0) (by decide) (by decide) (C145_on a3.1 h0) ⟨rfl, rfl⟩ f1 k1
/-- a call to a machine that is off -/
theorem OUT.off (H : MIr g m I J) {P : Prop} [Decidable P] {cls : Option ((Int32 ⊕ String) × AI)} {mdl : Option (Int32 × AI)} (e1 : cls = some (rx [0, 1] (if P then 1 else 2) 0, I)) (e2 : mdl = some (0, up2 J m 0 (if P then 1 else 2))) : OUT g m [0, 1] I J cls mdl := by
  by_cases hP : P
  · rw [if_pos hP] at e1 e2
    exact OUT.q H (th := 1) (by decide) e1 e2 (fun hh => absurd hh (by decide))
  · rw [if_neg hP] at e1 e2
    exact OUT.q H (th := 2) (by decide) e1 e2 (fun hh => absurd hh (by decide))
theorem O146 (hE : miE kad N Z g m) (H : MIr g m I J) : OUT g m [0, 1] I J (f146 kad N Z g i I) (f262 kad N Z m i J) := by
  obtain ⟨hN, hg, hm, hz, zk, zs⟩ := hE
  rcases H.2.2.1 with ⟨q, K, D, W, a1, a2, a3, a4⟩ | ⟨q, K, M, D, W, s, kc, ⟨a1, ak, aM, aD⟩, a2, ⟨a3, a4⟩, a5, a6⟩
  · exact OUT.off H (C146_off a3.1 rfl i) (M262_off a4.1 rfl i)
  · have h0 : ¬ tr K (wake M D W) s 1 0 = 0 := oN.tr oN.wake s
    obtain ⟨x, I', e1, h1, h2⟩ := C146_on (kad := kad) (N := N) (Z := Z) hN hg zk a2 h0 a3 i
    obtain ⟨y, J', f1, k1, k2⟩ := M262_on (kad := kad) (N := N) (Z := Z) hN hm a2 h0 a5 i
    by_cases hb : bad i 1 100
    · exact OUT.no H (th := 1) (by decide) (by decide) e1 (h1 hb) f1 (k1 hb)
    · obtain ⟨x1, x2, x3⟩ := h2 hb
      obtain ⟨y1, y2, y3⟩ := k2 hb
      exact OUT.go H e1 x1 f1 y1 x3.x y3.x (Or.inr ⟨q, K, M, D, W, _, _, ⟨a1, ak, aM, aD⟩, a2.go _ _, ⟨x2, a4.frs x3⟩, y2, a6.frs y3⟩)
theorem O147 (hE : miE kad N Z g m) (H : MIr g m I J) : OUT g m [0, 1] I J (f147 kad N Z g i j I) (f263 kad N Z m i j J) := by
  obtain ⟨hN, hg, hm, hz, zk, zs⟩ := hE
  rcases H.2.2.1 with ⟨q, K, D, W, a1, a2, a3, a4⟩ | ⟨q, K, M, D, W, s, kc, ⟨a1, ak, aM, aD⟩, a2, ⟨a3, a4⟩, a5, a6⟩
  · exact OUT.off H (C147_off a3.1 rfl i j) (M263_off a4.1 rfl i j)
  · have h0 : ¬ tr K (wake M D W) s 1 0 = 0 := oN.tr oN.wake s
    obtain ⟨x, I', e1, h1, h2⟩ := C147_on (kad := kad) (N := N) (Z := Z) hN hg zk a2 h0 a3 i j
    obtain ⟨y, J', f1, k1, k2⟩ := M263_on (kad := kad) (N := N) (Z := Z) hN hm a2 h0 a5 i j
    by_cases hb : bad i 0 255 ∨ bad j 1 100
    · exact OUT.no H (th := 1) (by decide) (by decide) e1 (h1 hb) f1 (k1 hb)
    · obtain ⟨x1, x2, x3⟩ := h2 hb
      obtain ⟨y1, y2, y3⟩ := k2 hb
      exact OUT.go H e1 x1 f1 y1 x3.x y3.x (Or.inr ⟨q, K, M, D, W, _, _, ⟨a1, ak, aM, aD⟩, a2.go _ _, ⟨x2, a4.frs x3⟩, y2, a6.frs y3⟩)
theorem O148 (hE : miE kad N Z g m) (H : MIr g m I J) : OUT g m [0, 1] I J (f148 kad N Z g i I) (f264 kad N Z m i J) := by
  obtain ⟨hN, hg, hm, hz, zk, zs⟩ := hE
  rcases H.2.2.1 with ⟨q, K, D, W, a1, a2, a3, a4⟩ | ⟨q, K, M, D, W, s, kc, ⟨a1, ak, aM, aD⟩, a2, ⟨a3, a4⟩, a5, a6⟩
  · exact OUT.off H (C148_off a3.1 rfl i) (M264_off a4.1 rfl i)
  · have h0 : ¬ tr K (wake M D W) s 1 0 = 0 := oN.tr oN.wake s
    obtain ⟨x, I', e1, h1, h2⟩ := C148_on (kad := kad) (N := N) (Z := Z) hN hg a2 h0 a3 i
    obtain ⟨y, J', f1, k1, k2⟩ := M264_on (kad := kad) (N := N) (Z := Z) hN hm a2 h0 a5 a6 i
    by_cases hb : bad i 1 200
    · exact OUT.no H (th := 1) (by decide) (by decide) e1 (h1 hb) f1 (k1 hb)
    · obtain ⟨x1, x2, x3⟩ := h2 hb
      obtain ⟨y1, y2, y3, y4⟩ := k2 hb
      exact OUT.go H e1 x1 f1 y1 x3.x y4.x (Or.inr ⟨q, K, M, D, W, _, _, ⟨a1, ak, aM, aD⟩, a2.back _, ⟨x2, a4.frs x3⟩, y2, y3⟩)
theorem O149 (hE : miE kad N Z g m) (H : MIr g m I J) : OUT g m [0, 1] I J (f149 kad N Z g i I) (f265 kad N Z m i J) := by
  obtain ⟨hN, hg, hm, hz, zk, zs⟩ := hE
  rcases H.2.2.1 with ⟨q, K, D, W, a1, a2, a3, a4⟩ | ⟨q, K, M, D, W, s, kc, ⟨a1, ak, aM, aD⟩, a2, ⟨a3, a4⟩, a5, a6⟩
  · exact OUT.off H (C149_off a3.1 rfl i) (M265_off a4.1 rfl i)
  · obtain ⟨x, I', e1, h1, h2⟩ := C149_on (kad := kad) (N := N) (Z := Z) hN a2 a1 a3 i
    obtain ⟨y, J', f1, k1, k2⟩ := M265_on (kad := kad) (N := N) (Z := Z) hN a2 a1 a5 i
    by_cases hb : bad i 0 65535
    · exact OUT.no H (th := 1) (by decide) (by decide) e1 (h1 hb) f1 (k1 hb)
    · obtain ⟨h3, h4⟩ := h2 hb
      obtain ⟨k3, k4⟩ := k2 hb
      by_cases hr : tr K (wake M D W) s 1 0 = 1 ∧ q < 20
      · obtain ⟨x1, x2, x3⟩ := h3 hr
        obtain ⟨y1, y2, y3⟩ := k3 hr
        exact OUT.go H e1 x1 f1 y1 x3.x y3.x (Or.inr ⟨q + 1, prK K q s i, M, D, W, s, kc, ⟨(prK_ok a1 hr.2).ok a1, prK_wd a1 hr.2 ak (wd_bad hb), aM, aD⟩, a2.press aM aD a1 ak hr.2 (wd_bad hb), ⟨x2, a4.frs x3⟩, y2, a6.frs y3⟩)
      · exact OUT.no H (th := 2) (by decide) (by decide) e1 (h4 hr) f1 (k4 hr)
theorem O164 (hE : miE kad N Z g m) (H : MIr g m I J) : OUT g m [1, 0] I J (f164 kad N Z g i I) (f284 kad N Z m i J) := by
  obtain ⟨hN, hg, hm, hz, zk, zs⟩ := hE
  rcases H.2.2.1 with ⟨q, K, D, W, a1, a2, a3, a4⟩ | ⟨q, K, M, D, W, s, kc, ⟨a1, ak, aM, aD⟩, a2, ⟨a3, a4⟩, a5, a6⟩
  · exact OUT.q H (th := 1) (by decide) (C164_off a3.1 rfl i) (M284_off a4.1 rfl i) (fun hh => absurd hh (by decide))
  · have h0 : ¬ tr K (wake M D W) s 1 0 = 0 := oN.tr oN.wake s
    obtain ⟨x, I', e1, h1, h2⟩ := C164_on (kad := kad) (N := N) (Z := Z) hN hg zs a2 h0 a1 aD a3 a4 i
    obtain ⟨y, J', f1, k1, k2⟩ := M284_on (kad := kad) (N := N) (Z := Z) hN hm a2 h0 a5 a6 i
    by_cases hb : bad i 0 (Int32.ofNat s)
    · exact OUT.no H (th := 2) (by decide) (by decide) e1 (h1 hb) f1 (k1 hb)
    · obtain ⟨x1, x2, x3, x4⟩ := h2 hb
      obtain ⟨y1, y2, y3, y4⟩ := k2 hb
      exact OUT.go H e1 x1 f1 y1 x4 y4.x (Or.inr ⟨q, K, M, D, W, s, kc, ⟨a1, ak, aM, aD⟩, a2, ⟨x2, x3⟩, y2, y3⟩)
end OM
