/-! the model makes a file call -/
theorem of_nz {n : Nat} (h : 0 < n) (hn : n < 2147483648) : ¬ Int32.ofNat n = 0 := fun hh => absurd ((of_inj (n := 0) hn (by decide)).mp hh) (by omega)
theorem sPut_n {b : Int32} {p : Nat} {w : Int32} {X : AI} : sPut b p w X 2 = X 2 := sPut_o (by decide)
theorem isC.two {call : Int32} {X Y : AI} (h : isC call X) : sCarry call Y 2 = Y 2 := by
  have o : ¬ (2 : Nat) = 14 ∧ ¬ (2 : Nat) = 15 := by decide
  unfold sCarry
  by_cases c0 : call = 0
  · rw [if_pos c0]; exact sPut_o o
  rw [if_neg c0]
  by_cases c1 : call = 1
  · rw [if_pos c1]; exact sApp_o o
  rw [if_neg c1]
  by_cases c2 : call = 2
  · rw [if_pos c2]; exact sPut_o o
  rw [if_neg c2]
  have c3 : ¬ call = 3 ∧ ¬ call = 4 := by
    rcases h.1 with h | h | h | h | h
    · exact absurd h c0
    · exact absurd h c1
    · exact absurd h c2
    · rw [h]; decide
    · rw [h.1]; decide
  rw [if_neg c3.1, if_neg c3.2]
  by_cases c5 : call = 5
  · rw [if_pos c5]; exact sRm_o o
  rw [if_neg c5]
  exact sRen_o o
/-- all but what the clerk works with -/
theorem isC.keep {call : Int32} {X : AI} (h : isC call X) {c : Nat} (hc : ¬ c = 14 ∧ ¬ c = 15) : sCarry call (sOpen X) c = X c := by
  by_cases h2 : c = 2
  · subst h2
    rw [h.two, sOpen_o hc]
  · rw [sCarry_o hc h2, sOpen_o hc]
/-- what stands behind such a call, in the class -/
theorem isC.spec {call : Int32} {X : AI} (h : isC call X) (hw : wdk X) (hD : WF (X 9)) (h0 : X 3 0 = 0) : ∃ n, 1 ≤ n ∧ n ≤ 3 ∧ n = 0 + cS (pS call X) 32 0 ∧ sAdds 32 0 (sCarry call (sOpen X)) 3 0 = Int32.ofNat n ∧ (∀ c, ¬ c = 3 → ¬ c = 4 → ¬ c = 5 → sAdds 32 0 (sCarry call (sOpen X)) c = sCarry call (sOpen X) c) ∧ (∀ j, ¬ j = 0 → sAdds 32 0 (sCarry call (sOpen X)) 3 j = X 3 j) ∧ NB 32 n (pW call X) (pS call X) (sAdds 32 0 (sCarry call (sOpen X))) := by
  obtain ⟨a1, a2⟩ := carry_c h hw hD
  obtain ⟨⟨x, y, z, p1⟩, ⟨u, p2, p3⟩, p4⟩ := pS_3 h hw hD
  have h3 : cS (pS call X) 32 0 ≤ 3 := by
    have := cS_3 p1 32 0
    have e : ∀ w, (if 0 ≤ w ∧ w < 0 + 32 then 1 else 0) ≤ 1 := fun w => by split <;> omega
    have e1 := e x
    have e2 := e y
    have e3 := e z
    omega
  have h1 := cS_pos p3 32 0 (by omega) (by omega)
  have e3 : sCarry call (sOpen X) 3 = X 3 := h.keep (by decide)
  have r := sAdds_spec a1 a2 32 0 0 (sCarry call (sOpen X)) rfl (by omega) (by rw [e3]; exact h0) (fun _ _ _ _ => rfl) (fun _ _ => rfl) ⟨fun k hk => absurd hk (by omega), fun j k _ hk => absurd hk (by omega), fun k p hk => absurd hk (by omega), fun c hc => absurd hc (by omega)⟩
  obtain ⟨r1, r2, r3, r4⟩ := r
  refine ⟨0 + cS (pS call X) 32 0, by omega, by omega, rfl, r1, r2, fun j hj => ?_, r4⟩
  rw [r3 j hj, e3]
theorem MR.o {e m s : Nat} {I0 I X Y : AI} (H : MR e m s I0 I X) (he : e = 0) (hY : ∀ c, ¬ c = 14 → ¬ c = 15 → Y c = X c) : MR e m s I0 I Y := by
  subst he
  obtain ⟨b1, ⟨b2, b3⟩, b4, b5⟩ := H
  refine ⟨fun d j hd hj => ?_, ⟨?_, fun h3 => ?_⟩, fun hs => ?_, b5⟩
  · have h14 : ¬ d = 14 := fun h => by subst h; exact absurd hj.1 (by decide)
    have h15 : ¬ d = 15 := fun h => by subst h; exact absurd hj.1 (by decide)
    rw [hY d h14 h15]
    exact b1 d j hd (rel_lo hd (hY 3 (by decide) (by decide)) (hY 1 (by decide) (by decide)) (hY 10 (by decide) (by decide)) hj)
  · rw [b2]
    unfold sLeft
    rw [hY 3 (by decide) (by decide)]
  · rw [hY 3 (by decide) (by decide)] at h3 ⊢
    exact b3 h3
  · unfold n1 n2
    rw [hY 20 (by decide) (by decide), hY 26 (by decide) (by decide)]
    exact b4 hs
/-- a call is prepared -/
theorem MR.prep {m s n : Nat} {I0 I X J Y : AI} (H : MR 0 m s I0 I X) (hn1 : 1 ≤ n) (hn3 : n ≤ 3) (hJ : ∀ b, ¬ b = m → ¬ b = m + 22 → ¬ b = m + 23 → ¬ b = m + 25 → J b = I b) (hm : ∀ j, ¬ j = 46 → ¬ j = 47 → J m j = I m j) (h46 : J m 46 = 2 * Int32.ofNat n + 2) (h47 : J m 47 = Int32.ofNat n) (h3 : Y 3 0 = Int32.ofNat n) (h31 : Y 3 1 = 0) (hY : ∀ c, ¬ c = 3 → ¬ c = 4 → ¬ c = 5 → ¬ c = 14 → ¬ c = 15 → Y c = X c) (h4 : ∀ k, k < n → J (m + 22) k = Y 4 k) (h5 : ∀ k, k < 8 * n → J (m + 23) k = Y 5 k) : MR 0 m s I0 J Y := by
  obtain ⟨b1, ⟨b2, b3⟩, b4, b5⟩ := H
  have en : nT (Y 3 0) = n := by rw [h3]; exact nT_of (by omega)
  refine ⟨fun d j hd hj => ?_, ⟨?_, fun _ => ?_⟩, fun hs => ?_, fun b j hb => ?_⟩
  · by_cases d4 : d = 4
    · subst d4
      have hj : j < nT (Y 3 0) ∧ j < 3 := hj
      exact h4 j (by omega)
    by_cases d5 : d = 5
    · subst d5
      have hj : j < 8 * nT (Y 3 0) ∧ j < 24 := hj
      exact h5 j (by omega)
    have h14 : ¬ d = 14 := fun h => by subst h; exact absurd hj.1 (by decide)
    have hd2 := hd
    unfold mC at hd2
    have e1 := hY 1 (by decide) (by decide) (by decide) (by decide) (by decide)
    have e10 := hY 10 (by decide) (by decide) (by decide) (by decide) (by decide)
    have hr : rel 0 X d j := by
      rcases hd2 with rfl | rfl | rfl | rfl | rfl | rfl | rfl | rfl | rfl | rfl | rfl | rfl
      · exact (show j < 14 from hj)
      · exact (show j < 4 from hj)
      · exact absurd rfl d4
      · exact absurd rfl d5
      · exact (show j < 256 from hj)
      · have hj : j < nT (Y 1 12) ∧ j < 60 := hj
        rw [e1] at hj
        exact hj
      · exact (show j = 1 from hj)
      · exact (show j < 256 from hj)
      · exact (show j = 0 from hj)
      · have hj : j < nT (Y 10 0) ∧ j < 20 := hj
        rw [e10] at hj
        exact hj
      · have hj : j < nT (Y 10 0) ∧ j < 20 := hj
        rw [e10] at hj
        exact hj
      · exact absurd rfl h14
    have t := (mA_ne (m := m) (c := d) (k := j) (s := s) hd (fun h => by subst h; exact hr)).1
    have hv : J (mA m d) (mK d j) = I (mA m d) (mK d j) := by
      by_cases hA : mA m d = m
      · rw [hA]
        exact hm _ (fun h => t ⟨hA, Or.inl h⟩) (fun h => t ⟨hA, Or.inr h⟩)
      · refine congrFun (hJ _ hA ?_ ?_ ?_) _
        all_goals
          rcases hd2 with rfl | rfl | rfl | rfl | rfl | rfl | rfl | rfl | rfl | rfl | rfl | rfl <;> first
            | exact absurd rfl d4
            | exact absurd rfl d5
            | exact absurd rfl h14
            | (simp only [mA]; omega)
    rw [hv, hY d (fun h => by subst h; unfold mC at hd; omega) d4 d5 h14 (fun h => by subst h; unfold mC at hd; omega)]
    exact b1 d j hd hr
  · rw [h46]
    unfold sLeft
    rw [h3, h31, if_neg (of_nz (n := n) (by omega) (by omega))]
    grind
  · rw [h47, h3]
  · unfold n1 n2
    rw [hY 20 (by decide) (by decide) (by decide) (by decide) (by decide), hY 26 (by decide) (by decide) (by decide) (by decide) (by decide), hJ _ (by omega) (by omega) (by omega) (by omega), hJ _ (by omega) (by omega) (by omega) (by omega)]
    exact b4 hs
  · have hT : ¬ (b = m ∧ (j = 46 ∨ j = 47)) := fun h => hb (Or.inl ⟨h.1, by omega⟩)
    have h22 : ¬ (b = m + 22 ∨ b = m + 23 ∨ b = m + 25) := fun h => hb (Or.inr (Or.inl (by omega)))
    by_cases e : b = m
    · rw [e, hm j (fun h => hT ⟨e, Or.inl h⟩) (fun h => hT ⟨e, Or.inr h⟩), ← e]
      exact b5 b j hb
    · rw [hJ b e (fun h => h22 (Or.inl h)) (fun h => h22 (Or.inr (Or.inl h))) (fun h => h22 (Or.inr (Or.inr h)))]
      exact b5 b j hb
section MH
variable {kad : Nat → Nat} {N : Nat} {Z : AZ} {m s : Nat} {I0 I X : AI}
theorem M242_c {call t5 : Int32} {t : Int32} : ∀ (q p F : Nat), p + q = 256 → q < F → f242_b163 kad N Z F m call t (Int32.ofNat p) (cpI I (m + 24) (m + 25) 0 0 p) = f242_b163 kad N Z 1 m call t (256 : Int32) (cpI I (m + 24) (m + 25) 0 0 256) := by
  intro q
  induction q with
  | zero =>
    intro p F hp hF
    obtain ⟨F, rfl⟩ : ∃ G, F = G + 1 := ⟨F - 1, by omega⟩
    obtain rfl : p = 256 := by omega
    unfold f242_b163
    rw [if_pos (show (256 : Int32) ≤ Int32.ofNat 256 from by decide), if_pos (show (256 : Int32) ≤ 256 from by decide)]
  | succ q ih =>
    intro p F hp hF
    obtain ⟨F, rfl⟩ : ∃ G, F = G + 1 := ⟨F - 1, by omega⟩
    rw [f242_b163, if_neg (show ¬ (256 : Int32) ≤ Int32.ofNat p from fun h => absurd ((of_le (m := 256) (by decide) (by omega)).mp h) (by omega)), ixA_of (by omega), Option.bind_some, Option.bind_some, of_s]
    rw [show cpI I (m + 24) (m + 25) 0 0 p (m + 24) p = I (m + 24) (0 + p) from by rw [cpI_b (by omega), Nat.zero_add]]
    show f242_b163 kad N Z F m call t (Int32.ofNat (p + 1)) (up2 _ (m + 25) p (I (m + 24) (0 + p))) = _
    have e := cp_s (I := I) (a0 := m + 25) (a1 := m + 24) (s := 0) (d := 0) (n := p)
    rw [show (0 + p) = p from Nat.zero_add p] at e ⊢
    rw [e]
    exact ih (p + 1) F (by omega) (by omega)
theorem M242_p (hN : 2000 ≤ N) {call : Int32} (H : MR 0 m s I0 I X) (h : isC call X) (hw : wdk X) (hD : WF (X 9)) (h0 : X 3 0 = 0) (h1 : X 3 1 = 0) {J : AI} {v : Int32} (hv : mS v (pS call X)) (hJ : MW m I J (pW call X)) : Ok (f242_b246 kad N Z m v J) (fun _ J' => MR 0 m s I0 J' (sCallF call X)) := by
  have hsp := h.spec hw hD h0
  obtain ⟨a1, a2⟩ := carry_c h hw hD
  have ef : sCallF call X = sAdds 32 0 (sCarry call (sOpen X)) := by
    have hr : sFileR call X = 0 := by
      unfold sFileR
      rcases h.1 with h' | h' | h' | h' | h'
      all_goals first
        | (rw [if_neg (by rw [h']; decide), if_pos (by rw [h']; decide)]; exact h.2)
        | (rw [if_neg (by rw [h'.1]; decide), if_pos (by rw [h'.1]; decide)]; exact h.2)
    have ex : sFileX call X = sAdds 32 0 (sCarry call (sOpen X)) := by
      unfold sFileX
      rw [if_pos hr]
    obtain ⟨n, n1, n3, ne, q1, q2, q3, q4⟩ := hsp
    unfold sCallF
    rw [ex, if_neg]
    unfold sLeft
    rw [q1, q3 1 (by decide), h1, if_neg (of_nz (n := n) (by omega) (by omega))]
    rw [show (2 : Int32) * Int32.ofNat n + 2 - 0 = Int32.ofNat (2 * n + 2) from by
      rw [show (2 : Int32) * Int32.ofNat n = Int32.ofNat (2 * n) from eM 2 n, show Int32.ofNat (2 * n) + (2 : Int32) = Int32.ofNat (2 * n + 2) from eA _ 2]
      grind]
    exact of_nz (by omega) (by omega)
  rw [ef]
  obtain ⟨n, n1, n3, ne, q1, q2, q3, q4⟩ := hsp
  generalize hY0 : sCarry call (sOpen X) = Y0 at a1 a2 q1 q2 q3 q4
  have y3 : Y0 3 = X 3 := by rw [← hY0]; exact h.keep (by decide)
  unfold f242_b246 f249
  have hl := M249_l (kad := kad) (N := N) (Z := Z) (m := m) (J0 := up2 J m 47 0) (Y0 := Y0) hN hv (fun k hk => by rw [up2_b (by omega), hJ.1 k hk, a1 k hk]) a2 32 0 N 0 (up2 J m 47 0) Y0 rfl (by omega) (by omega) ⟨⟨up2_eq, by rw [y3]; exact h0⟩, fun k hk => absurd hk (by omega), fun k hk => absurd hk (by omega), fun _ _ _ _ => rfl, fun _ _ => rfl, fun _ _ _ _ => rfl⟩
  refine Ok.bind (P := fun _ J' => ∃ J'', PR m (0 + cS (pS call X) 32 0) (up2 J m 47 0) Y0 J'' (sAdds 32 0 Y0) ∧ J' = up2 J'' m 46 (2 * Int32.ofNat (0 + cS (pS call X) 32 0) + 2)) (Ok.w hl) fun u J1 ⟨J2, ⟨⟨g1, g2⟩, g3, g4, g5, g6, g7⟩, hJ1⟩ => Ok.ret ?_
  rw [← ne] at g1 g2 g3 g4 hJ1
  dsimp only
  rw [hJ1]
  refine H.prep (n := n) n1 n3 (fun b c1 c2 c3 c4 => ?_) (fun j c1 c2 => ?_) up2_eq (by rw [up2_ne (by omega)]; exact g1) q1 (by rw [q3 1 (by decide)]; exact h1) (fun c c3 c4 c5 c14 c15 => ?_) (fun k hk => by rw [up2_b (by omega)]; exact g3 k hk) (fun k hk => by rw [up2_b (by omega)]; exact g4 k hk)
  · rw [up2_b c1, g5 b c1 c2 c3, up2_b c1]
    exact hJ.2 b c4
  · rw [up2_ne (fun hh => c1 hh.2), g6 j c2, up2_ne (fun hh => c2 hh.2)]
    exact congrFun (hJ.2 m (by omega)) j
  · rw [q2 c c3 c4 c5, ← hY0]
    exact h.keep ⟨c14, c15⟩
theorem M242 (hN : 2000 ≤ N) (hm : sh11 kad Z m) (H : MR 0 m s I0 I X) (hw : wdk X) (hD : WF (X 9)) (h0 : X 3 0 = 0) (h1 : X 3 1 = 0) {call : Int32} (hc : ¬ call < 0) : Ok (f242 kad N Z m call I) (fun _ J => MR 0 m s I0 J (sCallF call X)) := by
  have zD : Z.1 (m + 24) = some (100, 256) := sh11_a50 hm
  have zW : Z.1 (m + 25) = some (100, 256) := sh11_a51 hm
  have ix0 : ixA 4 (0 : Int32) = some 0 := by decide
  have ix1 : ixA 4 (1 : Int32) = some 1 := by decide
  have ix2 : ixA 4 (2 : Int32) = some 2 := by decide
  have ix3 : ixA 4 (3 : Int32) = some 3 := by decide
  have hR : ∀ k, k < 4 → I (m + 16) k = X 2 k := fun k hk => H.r2 hk
  have hDk : ∀ k, k < 256 → I (m + 24) k = X 9 k := fun k hk => H.r9 hk
  have sL0 : sLeft X = 0 := by unfold sLeft; rw [if_pos h0]
  -- a call that is done at once
  have fin : ∀ (J Y : AI) (r : Int32), MR 0 m s I0 J Y → Ok (f242_b142 kad N Z m r J) (fun _ J => MR 0 m s I0 J (sGo (up2 Y 2 3 r))) := fun J Y r h => by
    unfold f242_b142
    rw [ix3, Option.bind_some]
    refine Ok.w ?_
    have h2 := h.u2 (k := 3) (v := r) (by decide)
    rw [show up2 J (m + 16) 3 r m 27 = up2 Y 2 3 r 1 3 from h2.r1 (k := 3) (by decide)]
    exact Ok.w (Ok.ret (h2.u1 (k := 3) (by decide)))
  have hfi : ∀ o, o < 6 → ¬ Int32.ofNat o = Int32.ofInt (-1) := fun o ho h => of_nn (n := o) (by omega) (by rw [h]; decide)
  unfold f242
  rw [ix0, Option.bind_some, hR 0 (by decide), M236 (D := X 9) hN zD hDk, Option.bind_some]
  dsimp only
  rw [M240 hN zD hR hDk hw hD.1 hc, Option.bind_some]
  dsimp only
  unfold f242_b56 f242_b60
  generalize hi : (if sFind (X 9) (X 2 0) 7 0 < 6 then Int32.ofNat (sFind (X 9) (X 2 0) 7 0) else Int32.ofInt (-1)) = ii
  by_cases hr : sFileR call X = 0
  · -- the result is 0
    have hcc : call ≤ 6 ∧ sRefuse call X = 0 := by
      unfold sFileR at hr
      rw [if_neg hc] at hr
      by_cases h6 : call ≤ 6
      · rw [if_pos h6] at hr
        exact ⟨h6, hr⟩
      · rw [if_neg h6] at hr
        exact absurd hr (by decide)
    have hz := sRefuse0 hcc.2
    have ex : sFileX call X = sAdds 32 0 (sCarry call (sOpen X)) := by
      unfold sFileX
      rw [if_pos hr]
    have ho15 : ∀ c, c < 32 → sOpen X 15 c = 0 := fun c hc' => by unfold sOpen; rw [fl_at hc']
    have o3 : sOpen X 3 = X 3 := sOpen_o (by decide)
    have oo : ∀ c, ¬ c = 14 → ¬ c = 15 → sOpen X c = X c := fun c c1 c2 => sOpen_o ⟨c1, c2⟩
    have o9 : sOpen X 9 = X 9 := sOpen_o (by decide)
    have o2 : sOpen X 2 = X 2 := sOpen_o (by decide)
    have oE : sE (sOpen X) = sE X := sE_cong o2 o9
    rw [if_neg (show ¬ ¬ sFileR call X = 0 from fun h => h hr)]
    -- what is done at once: the class
    have cls : ∀ (Y : AI), sCarry call (sOpen X) = Y → (∀ c, c < 32 → Y 15 c = 0) → Y 3 = X 3 → sCallF call X = sGo (up2 Y 2 3 0) := fun Y hY h15 hy3 => by
      unfold sCallF
      rw [ex, hY, sAdds_none 32 0 Y rfl h15, hr, if_pos (by unfold sLeft; rw [hy3, if_pos h0])]
    have hEi : sE X < 6 → ii = Int32.ofNat (sE X) := fun ht => by
      rw [← hi]
      have eE : sE X = sFind (X 9) (X 2 0) 7 0 := by
        unfold sE at ht ⊢
        split
        · rename_i h; rw [if_pos h] at ht; omega
        · rfl
      rw [← eE, if_pos ht]
    by_cases c3 : call = 3
    · have ht := hz.2 (by rw [c3]; decide)
      rw [if_pos c3, hEi ht]
      unfold f242_b61
      rw [if_neg z10, if_neg (show ¬ ¬ sFileR call X = 0 from fun h => h hr), if_neg (show ¬ ¬ call = 3 from fun h => h c3), ix1, Option.bind_some, hR 1 (by decide)]
      have hlt : nT (X 2 1) < nT (X 9 (40 + 4 * sE X + 1)) := by
        have hs := hw.1 (40 + 4 * sE X + 1) (by omega)
        have hr1 := hw.2 1 (by decide)
        have hrr := hcc.2
        unfold sRefuse at hrr
        rw [if_neg (by rw [c3]; decide), if_neg (show ¬ (¬ sE X < 6 ∨ (call = 6 ∧ X 2 1 = 0)) from fun hh => hh.elim (fun hh => hh ht) (fun hh => absurd (c3.symm.trans hh.1) (by decide))), if_neg (by rw [c3]; decide)] at hrr
        split at hrr
        · exact absurd hrr (by decide)
        · rename_i hh
          refine Nat.lt_of_not_le fun hle => hh ⟨Or.inr c3, ?_⟩
          rw [← of_nT (wd_nn hs), ← of_nT (wd_nn hr1)]
          have h5 := (wd_n hs).2.1
          have h6 := (wd_n hr1).2.1
          exact (of_le (by omega) (by omega)).mpr hle
      have h16 := (hD.1.2 (sE X) ht).2.1
      obtain ⟨b1, b2, b3⟩ := (hD.1.2 (sE X) ht).blk hlt
      have hbn := of_nT (wd_nn (hD.1.1 (40 + 4 * sE X + (2 + nT (X 2 1) / 8)) (by omega)))
      have hpn := of_nT (wd_nn (hw.2 1 (by decide)))
      have e41 := M241 (kad := kad) (N := N) (I := I) (a := m) (p := nT (X 2 1)) zD ht (by omega)
      rw [hpn] at e41
      rw [e41, Option.bind_some, Option.bind_some, ix2]
      dsimp only
      rw [hR 1 (by decide), hDk _ (by omega), mod8 (wd_nn (hw.2 1 (by decide)))]
      have hx : sCarry call (sOpen X) = up2 (sOpen X) 2 2 (X 9 (8 * nT (X 9 (40 + 4 * sE X + (2 + nT (X 2 1) / 8))) + nT (X 2 1) % 8)) := by
        unfold sCarry sFileW
        rw [oE, o9, o2, if_neg (by rw [c3]; decide), if_neg (by rw [c3]; decide), if_neg (by rw [c3]; decide), if_pos c3, p8 (hw.2 1 (by decide)) (by omega)]
        have e := sBlk_of (D := X 9) (p := nT (X 2 1) % 8) b3
        rw [hbn] at e
        rw [e]
      rw [cls _ hx (fun c hc' => by rw [up2_b (by decide)]; exact ho15 c hc') (by rw [up2_b (by decide)]; exact o3)]
      generalize nT (X 9 (40 + 4 * sE X + (2 + nT (X 2 1) / 8))) = b at b2 b3 hbn
      rw [← hbn, show (8 : Int32) * Int32.ofNat b = Int32.ofNat (8 * b) from eM 8 b, eA, ixA_of (by omega), Option.bind_some, Option.bind_some, hDk _ (by omega)]
      refine Ok.w ?_
      unfold f242_b116
      rw [if_neg (show ¬ ¬ sFileR call X = 0 from fun h => h hr), if_pos (show ¬ call = 4 from by rw [c3]; decide), hr]
      exact fin _ _ 0 ((H.o rfl oo).u2 (k := 2) (by decide))
    by_cases c4 : call = 4
    · have ht := hz.2 (by rw [c4]; decide)
      rw [if_neg c3, if_pos c4, hEi ht]
      unfold f242_b61 f242_b116
      rw [if_neg z10, if_neg (show ¬ ¬ sFileR call X = 0 from fun h => h hr), if_pos c3, if_neg (show ¬ ¬ sFileR call X = 0 from fun h => h hr), if_neg (show ¬ ¬ call = 4 from fun h => h c4), M235, Option.bind_some]
      dsimp only
      rw [of_s, ixA_of (by omega), Option.bind_some, ix1, Option.bind_some, hDk _ (by omega), hr]
      have hx : sCarry call (sOpen X) = up2 (sOpen X) 2 1 (X 9 (40 + 4 * sE X + 1)) := by
        unfold sCarry
        rw [oE, o9, if_neg (by rw [c4]; decide), if_neg (by rw [c4]; decide), if_neg (by rw [c4]; decide), if_neg c3, if_pos c4]
      rw [cls _ hx (fun c hc' => by rw [up2_b (by decide)]; exact ho15 c hc') (by rw [up2_b (by decide)]; exact o3)]
      exact Ok.w (fin _ _ 0 ((H.o rfl oo).u2 (k := 1) (by decide)))
    rw [if_neg c3, if_neg c4]
    -- a call that changes blocks
    have chg : isC call X → ii = (if sFind (X 9) (X 2 0) 7 0 < 6 then Int32.ofNat (sFind (X 9) (X 2 0) 7 0) else Int32.ofInt (-1)) → Ok (f242_b61 kad N Z m call ii (sFileR call X) 0 I) (fun _ J => MR 0 m s I0 J (sCallF call X)) := fun hC _ => by
      obtain ⟨f0, fE, f1, f2, f6⟩ := hC.facts hw
      unfold f242_b61
      rw [if_pos rfl]
      have hl := M242_c (kad := kad) (N := N) (Z := Z) (m := m) (I := I) (call := call) (t5 := 0) (t := ii) 256 0 N rfl (by omega)
      rw [cp_0] at hl
      rw [show (0 : Int32) = Int32.ofNat 0 from rfl, hl]
      have hMW : MW m I (cpI I (m + 24) (m + 25) 0 0 256) (X 9) := ⟨fun k hk => by rw [cpI_at (by omega), Nat.zero_add, Nat.sub_zero]; exact hDk k hk, fun b hb => cpI_b hb⟩
      generalize cpI I (m + 24) (m + 25) 0 0 256 = J at hMW
      rw [f242_b163, if_pos (show (256 : Int32) ≤ 256 from by decide)]
      by_cases c0 : call = 0
      · rw [if_neg (show ¬ ¬ call = 0 from fun h => h c0)]
        have ho := (f0 c0).1
        refine (M244 (kad := kad) (N := N) hN zD hDk hMW hD ho).bind fun v J1 ⟨hv, hJ1⟩ => ?_
        refine M242_p hN H hC hw hD h0 h1 ?_ ?_
        · unfold pS; rw [if_pos c0]; exact hv
        · unfold pW; rw [if_pos c0]; rw [hR 0 (by decide)] at hJ1; exact hJ1
      have ht := fE c0
      rw [if_pos c0, hEi ht]
      by_cases c1 : call = 1
      · rw [if_neg (show ¬ ¬ call = 1 from fun h => h c1)]
        refine (M245 (kad := kad) (N := N) hN zD zW hDk hMW hD ht (f1 c1).1 (f1 c1).2).bind fun v J1 ⟨hv, hJ1⟩ => ?_
        refine M242_p hN H hC hw hD h0 h1 ?_ ?_
        · unfold pS; rw [if_neg c0, if_pos c1]; exact hv
        · unfold pW; rw [if_neg c0, if_pos c1]; rw [hR 1 (by decide)] at hJ1; exact hJ1
      rw [if_pos c1]
      by_cases c2 : call = 2
      · rw [if_neg (show ¬ ¬ call = 2 from fun h => h c2)]
        have hpn := of_nT (wd_nn (hw.2 1 (by decide)))
        refine (M246 (kad := kad) (N := N) zW hMW hD ht (p := nT (X 2 1)) (by rw [hpn]; exact hR 1 (by decide)) (f2 c2)).bind fun v J1 ⟨hv, hJ1⟩ => ?_
        refine M242_p hN H hC hw hD h0 h1 ?_ ?_
        · unfold pS; rw [if_neg c0, if_neg c1, if_pos c2]; exact hv
        · unfold pW; rw [if_neg c0, if_neg c1, if_pos c2]; rw [hR 2 (by decide)] at hJ1; exact hJ1
      rw [if_pos c2]
      by_cases c5 : call = 5
      · rw [if_neg (show ¬ ¬ call = 5 from fun h => h c5)]
        refine (M247 (kad := kad) (N := N) hN zW hMW hD ht).bind fun v J1 ⟨hv, hJ1⟩ => ?_
        refine M242_p hN H hC hw hD h0 h1 ?_ ?_
        · unfold pS; rw [if_neg c0, if_neg c1, if_neg c2, if_pos c5]; exact hv
        · unfold pW; rw [if_neg c0, if_neg c1, if_neg c2, if_pos c5]; exact hJ1
      rw [if_pos c5]
      refine (M248 (kad := kad) (N := N) hN zD zW hDk hMW hD ht (hR 1 (by decide))).bind fun v J1 ⟨hv, hJ1⟩ => ?_
      refine M242_p hN H hC hw hD h0 h1 ?_ ?_
      · unfold pS; rw [if_neg c0, if_neg c1, if_neg c2, if_neg c5]; exact hv
      · unfold pW; rw [if_neg c0, if_neg c1, if_neg c2, if_neg c5]; exact hJ1
    have c56 : call = 0 ∨ call = 1 ∨ call = 2 ∨ call = 5 ∨ call = 6 := by
      have hle := hcc.1
      have e1 := of_nT hc
      rw [← e1] at hle c3 c4 ⊢
      have h9 := nT_le (i := 6) (x := call) (by decide) hcc.1
      generalize nT call = k at hle c3 c4 h9 ⊢
      rcases (show k = 0 ∨ k = 1 ∨ k = 2 ∨ k = 3 ∨ k = 4 ∨ k = 5 ∨ k = 6 by omega) with rfl | rfl | rfl | rfl | rfl | rfl | rfl
      · exact Or.inl rfl
      · exact Or.inr (Or.inl rfl)
      · exact Or.inr (Or.inr (Or.inl rfl))
      · exact absurd rfl c3
      · exact absurd rfl c4
      · exact Or.inr (Or.inr (Or.inr (Or.inl rfl)))
      · exact Or.inr (Or.inr (Or.inr (Or.inr rfl)))
    by_cases c6 : call = 6
    · rw [if_neg (show ¬ ¬ call = 6 from fun h => h c6), Option.bind_some, ix1, Option.bind_some]
      have ht := hz.2 (by rw [c6]; decide)
      by_cases he : X 2 0 = X 2 1
      · rw [if_neg (show ¬ ¬ I (m + 16) 0 = I (m + 16) 1 from fun h => h (by rw [hR 0 (by decide), hR 1 (by decide)]; exact he)), hEi ht]
        unfold f242_b61 f242_b116
        rw [if_neg z10, if_neg (show ¬ ¬ sFileR call X = 0 from fun h => h hr), if_pos c3, if_neg (show ¬ ¬ sFileR call X = 0 from fun h => h hr), if_pos c4, hr]
        have hx : sCarry call (sOpen X) = sOpen X := by
          unfold sCarry sRen
          rw [oE, o9, o2, if_neg (by rw [c6]; decide), if_neg (by rw [c6]; decide), if_neg (by rw [c6]; decide), if_neg c3, if_neg c4, if_neg (by rw [c6]; decide)]
          have : sFind (X 9) (X 2 1) 7 0 = sE X := by
            have hn := (sE_at ht).2
            unfold sE
            rw [if_neg hn, he]
          rw [this]
          dsimp only
          rw [if_pos rfl]
        rw [cls _ hx ho15 o3]
        exact fin _ _ 0 (H.o rfl oo)
      · rw [if_pos (show ¬ I (m + 16) 0 = I (m + 16) 1 from fun h => he (by rw [← hR 0 (by decide), ← hR 1 (by decide)]; exact h))]
        exact chg ⟨Or.inr (Or.inr (Or.inr (Or.inr ⟨c6, he⟩))), hcc.2⟩ hi.symm
    · rw [if_pos c6]
      refine chg ⟨?_, hcc.2⟩ hi.symm
      rcases c56 with h | h | h | h | h
      · exact Or.inl h
      · exact Or.inr (Or.inl h)
      · exact Or.inr (Or.inr (Or.inl h))
      · exact Or.inr (Or.inr (Or.inr (Or.inl h)))
      · exact absurd h c6
  · rw [if_pos hr]
    unfold f242_b61 f242_b116
    rw [if_neg z10, if_pos hr, if_pos hr]
    have ex : sCallF call X = sGo (up2 X 2 3 (sFileR call X)) := by
      unfold sCallF
      have : sFileX call X = X := by unfold sFileX; rw [if_neg hr]
      rw [this, if_pos sL0]
    rw [ex]
    exact fin _ _ _ H
end MH
