/-! the model's writes, pushes, pulls, interrupts -/
theorem rel_lo {e : Nat} {X Y : AI} {c k : Nat} (hc : mC c) (h3 : Y 3 = X 3) (h1 : Y 1 = X 1) (h10 : Y 10 = X 10) : rel e Y c k → rel e X c k := by
  unfold mC at hc
  intro h
  rcases hc with rfl | rfl | rfl | rfl | rfl | rfl | rfl | rfl | rfl | rfl | rfl | rfl
  · exact (show k < 14 from h)
  · exact (show k < 4 from h)
  · have h : k < nT (Y 3 0) ∧ k < 3 := h
    rw [h3] at h
    exact h
  · have h : k < 8 * nT (Y 3 0) ∧ k < 24 := h
    rw [h3] at h
    exact h
  · exact (show k < 256 from h)
  · have h : k < nT (Y 1 12) ∧ k < 60 := h
    rw [h1] at h
    exact h
  · exact (show k = 1 from h)
  · exact (show k < 256 from h)
  · exact (show k = 0 from h)
  · have h : k < nT (Y 10 0) ∧ k < 20 := h
    rw [h10] at h
    exact h
  · have h : k < nT (Y 10 0) ∧ k < 20 := h
    rw [h10] at h
    exact h
  · exact (show e = 1 ∧ k < 256 from h)
section M1
variable {kad : Nat → Nat} {N : Nat} {Z : AZ} {e m s : Nat} {I0 I X : AI}
theorem MR.nt (H : MR e m s I0 I X) {Y : AI} {v1 v2 : Int32} (hY : ∀ c, c < 20 → Y c = X c) (h1 : n1 Y = v1) (h2 : n2 Y = v2) : MR e m s I0 (up2 (up2 I (m + 21) s v2) (m + 20) s v1) Y := by
  obtain ⟨b1, ⟨b2, b3⟩, b4, b5⟩ := H
  refine ⟨fun d j hd hj => ?_, ⟨?_, fun h3 => ?_⟩, fun hs => ?_, fun b j hb => ?_⟩
  · have hj' := rel_lo hd (hY 3 (by decide)) (hY 1 (by decide)) (hY 10 (by decide)) hj
    have hd20 : d < 20 := by unfold mC at hd; omega
    have t := (mA_ne (m := m) (c := d) (k := j) (s := s) hd (fun h => by subst h; exact hj')).2
    rw [up2_ne (fun hh => t (Or.inl hh.1)), up2_ne (fun hh => t (Or.inr hh.1)), hY d hd20]
    exact b1 d j hd hj'
  · rw [up2_b (by omega), up2_b (by omega), b2]
    unfold sLeft
    rw [hY 3 (by decide)]
  · rw [hY 3 (by decide)] at h3 ⊢
    rw [up2_b (by omega), up2_b (by omega)]
    exact b3 h3
  · rw [up2_eq, up2_b (by omega), up2_eq, h1, h2]
    exact ⟨rfl, rfl⟩
  · have hn : ¬ ((b = m + 20 ∨ b = m + 21) ∧ j = s) := fun h => hb (Or.inr (Or.inr h))
    rw [up2_ne (fun hh => hn ⟨Or.inl hh.1, hh.2⟩), up2_ne (fun hh => hn ⟨Or.inr hh.1, hh.2⟩)]
    exact b5 b j hb
theorem MR.nt0 (H : MR e m s I0 I X) {Y : AI} (hY : ∀ c, c < 20 → Y c = X c) (hs : ¬ s < 1000) : MR e m s I0 I Y := by
  obtain ⟨b1, ⟨b2, b3⟩, b4, b5⟩ := H
  refine ⟨fun d j hd hj => ?_, ⟨?_, fun h3 => ?_⟩, fun h => absurd h hs, b5⟩
  · have hj' := rel_lo hd (hY 3 (by decide)) (hY 1 (by decide)) (hY 10 (by decide)) hj
    have hd20 : d < 20 := by unfold mC at hd; omega
    rw [hY d hd20]
    exact b1 d j hd hj'
  · rw [b2]
    unfold sLeft
    rw [hY 3 (by decide)]
  · rw [hY 3 (by decide)] at h3 ⊢
    exact b3 h3
/-- so many words are noted of a step yet -/
def nw (w : Nat) (X : AI) : Prop := X 20 1 = Int32.ofNat w ∧ w ≤ 2 ∧ (1 ≤ w → ¬ X 26 0 = Int32.ofInt (-1))
theorem sNote_lo {i w : Int32} {X : AI} {c : Nat} (h : c < 20) : sNote i w X c = X c := by
  unfold sNote
  split
  · rfl
  · split
    · rfl
    · rw [up2_b (by omega), up2_b (by omega), up2_b (by omega)]
theorem nw_note {w : Nat} {i v : Int32} {X : AI} (h : nw w X) (hw : w < 2) (hi : ¬ i < 0) : nw (w + 1) (sNote i v X) ∧ n1 (sNote i v X) = (if w = 0 then i else X 26 0) ∧ n2 (sNote i v X) = (if w = 0 then Int32.ofInt (-1) else i) := by
  obtain ⟨h1, h2, h3⟩ := h
  have e : nT (X 20 1) = w := by rw [h1]; exact nT_of (by omega)
  have es : sNote i v X = up2 (up2 (up2 X 26 w i) 27 w v) 20 1 (Int32.ofNat (w + 1)) := by
    unfold sNote
    rw [e, h1, if_neg (of_nn (by omega)), if_neg (show ¬ (2 : Int32) ≤ Int32.ofNat w from fun h => absurd ((of_le (m := 2) (by decide) (by omega)).mp h) (by omega)), of_s]
  rw [es]
  have g1 : up2 (up2 (up2 X 26 w i) 27 w v) 20 1 (Int32.ofNat (w + 1)) 20 1 = Int32.ofNat (w + 1) := up2_eq
  have g2 : ∀ k, up2 (up2 (up2 X 26 w i) 27 w v) 20 1 (Int32.ofNat (w + 1)) 26 k = up2 X 26 w i 26 k := fun k => by rw [up2_b (by decide), up2_b (by decide)]
  have hi1 : ¬ i = Int32.ofInt (-1) := fun h => hi (by rw [h]; decide)
  have en : nT (Int32.ofNat (w + 1)) = w + 1 := nT_of (by omega)
  refine ⟨⟨g1, by omega, fun _ => ?_⟩, ?_, ?_⟩
  · rw [g2]
    by_cases h0 : w = 0
    · subst h0
      rw [up2_eq]
      exact hi1
    · rw [up2_ne (fun hh => h0 hh.2.symm)]
      exact h3 (by omega)
  · unfold n1
    rw [g1, g2, en, if_pos (by omega)]
    by_cases h0 : w = 0
    · subst h0
      rw [up2_eq, if_pos rfl]
    · rw [up2_ne (fun hh => h0 hh.2.symm), if_neg h0]
  · unfold n2
    rw [g1, g2, en]
    by_cases h0 : w = 0
    · subst h0
      rw [if_neg (by decide), if_pos rfl]
    · have : w = 1 := by omega
      subst this
      rw [if_pos (by decide), up2_eq, if_neg h0]
theorem n12 {w : Nat} {X : AI} (h : nw w X) (hw : w < 2) : n1 X = (if w = 0 then Int32.ofInt (-1) else X 26 0) ∧ n2 X = Int32.ofInt (-1) := by
  have e : nT (X 20 1) = w := by rw [h.1]; exact nT_of (by omega)
  unfold n1 n2
  rw [e]
  refine ⟨?_, if_neg (by omega)⟩
  by_cases h0 : w = 0
  · rw [if_pos h0, if_neg (by omega)]
  · rw [if_neg h0, if_pos (by omega)]
theorem M217 (H : MR e m s I0 I X) (hs : X 1 2 = Int32.ofNat s) (hs2 : s < 2000) {w : Nat} (hw : nw w X) (hw2 : w < 2) {i v : Int32} (hi : ¬ i < 0) : Ok (f217 kad N Z m i I) (fun _ J => MR e m s I0 J (sNote i v X)) := by
  have e2 : I m 38 = Int32.ofNat s := (H.r1 (k := 2) (by decide)).trans hs
  obtain ⟨a1, a2, a3⟩ := nw_note (v := v) hw hw2 hi
  obtain ⟨c1, c2⟩ := n12 hw hw2
  unfold f217 f217_b72
  rw [e2]
  by_cases h : (1000 : Int32) ≤ Int32.ofNat s
  · rw [if_pos h]
    have h9 := (of_le (m := 1000) (by decide) (by omega)).mp h
    exact Ok.ret (H.nt0 (fun c hc => sNote_lo hc) (by omega))
  · rw [if_neg h]
    have h9 : s < 1000 := Nat.lt_of_not_le (fun hh => h ((of_le (m := 1000) (n := s) (by decide) (by omega)).mpr hh))
    rw [ixA_of h9, Option.bind_some]
    obtain ⟨d1, d2⟩ := H.2.2.1 h9
    unfold f217_b36 f217_b71
    rw [d1, c1]
    have fin : ∀ x y, x = n2 (sNote i v X) → y = n1 (sNote i v X) → MR e m s I0 (up2 (up2 I (m + 21) s x) (m + 20) s y) (sNote i v X) := fun x y hx hy => H.nt (fun c hc => sNote_lo hc) hy.symm hx.symm
    have r38 : ∀ x, up2 I (m + 21) s x m 38 = Int32.ofNat s := fun x => by rw [up2_b (by omega)]; exact e2
    have r20 : ∀ x, up2 I (m + 21) s x (m + 20) s = n1 X := fun x => by rw [up2_b (by omega)]; exact d1
    by_cases h0 : w = 0
    · rw [if_pos h0, if_neg (fun hh => hh rfl), ixA_of h9, Option.bind_some]
      refine Ok.w ?_
      rw [r38, ixA_of h9, Option.bind_some, r20, c1, if_pos h0, if_neg (fun hh => hh rfl), Option.bind_some]
      refine Ok.w (Ok.ret (fin _ _ ?_ ?_))
      · rw [a3, if_pos h0]
      · rw [a2, if_pos h0]
    · rw [if_neg h0, if_pos (hw.2.2 (by omega)), ixA_of h9, Option.bind_some]
      refine Ok.w ?_
      rw [r38, ixA_of h9, Option.bind_some, r20, c1, if_neg h0, if_pos (hw.2.2 (by omega)), Option.bind_some, Option.bind_some]
      refine Ok.w (Ok.ret (fin _ _ ?_ ?_))
      · rw [a3, if_neg h0]
      · rw [a2, if_neg h0, r20, c1, if_neg h0]
theorem up2_comm {X : AI} {c k d j : Nat} {v w : Int32} (h : ¬ (c = d ∧ k = j)) : up2 (up2 X c k v) d j w = up2 (up2 X d j w) c k v := by
  funext b q
  unfold up2
  by_cases h1 : b = d ∧ q = j
  · rw [if_pos h1, if_neg (fun hh => h ⟨hh.1.symm.trans h1.1, hh.2.symm.trans h1.2⟩), if_pos h1]
  · rw [if_neg h1]
    by_cases h2 : b = c ∧ q = k
    · rw [if_pos h2, if_pos h2]
    · rw [if_neg h2, if_neg h2, if_neg h1]
theorem ixA_i {n : Nat} {i : Int32} (h0 : ¬ i < 0) (h : nT i < n) (hn : n < 2147483648 := by decide) : ixA n i = some (nT i) := by
  have := ixA_of h hn
  rwa [of_nT h0] at this
theorem sWr_in {i v : Int32} {X : AI} (h0 : ¬ i < 0) (h : nT i < 256) : sWr i v X = up2 (sNote i (X 6 (nT i)) X) 6 (nT i) v := by
  unfold sWr
  rw [if_neg h0, if_neg (fun hh => ?_)]
  rw [← of_nT h0] at hh
  exact absurd ((of_le (m := 256) (by decide) (by omega)).mp hh) (by omega)
theorem M218 (H : MR e m s I0 I X) (hs : X 1 2 = Int32.ofNat s) (hs2 : s < 2000) {w : Nat} (hw : nw w X) (hw2 : w < 2) {i v : Int32} (hi : ¬ i < 0) (hi2 : nT i < 256) : Ok (f218 kad N Z m i v I) (fun _ J => MR e m s I0 J (sWr i v X) ∧ nw (w + 1) (sWr i v X)) := by
  unfold f218
  rw [ixA_i hi hi2, Option.bind_some]
  refine Ok.w ?_
  have H2 := H.u6 (v := v) hi2
  have e12 : up2 X 6 (nT i) v 1 = X 1 := up2_b (by decide)
  have e20 : up2 X 6 (nT i) v 20 = X 20 := up2_b (by decide)
  have e26 : up2 X 6 (nT i) v 26 = X 26 := up2_b (by decide)
  have hw' : nw w (up2 X 6 (nT i) v) := by unfold nw; rw [e20, e26]; exact hw
  refine (M217 (kad := kad) (N := N) (Z := Z) (v := X 6 (nT i)) H2 (by rw [e12]; exact hs) hs2 hw' hw2 hi).bind fun u J HJ => Ok.ret ?_
  have ec : sNote i (X 6 (nT i)) (up2 X 6 (nT i) v) = sWr i v X := by
    rw [sWr_in hi hi2]
    unfold sNote
    rw [e20]
    split
    · rfl
    · split
      · rfl
      · rw [up2_comm (show ¬ ((6 : Nat) = 26 ∧ _) from fun h => absurd h.1 (by decide)), up2_comm (show ¬ ((6 : Nat) = 27 ∧ _) from fun h => absurd h.1 (by decide)), up2_comm (show ¬ ((6 : Nat) = 20 ∧ _) from fun h => absurd h.1 (by decide))]
  rw [ec] at HJ
  refine ⟨HJ, ?_⟩
  have := (nw_note (v := X 6 (nT i)) hw' hw2 hi).1
  rwa [ec] at this
theorem sWr_lo {i v : Int32} {X : AI} {c : Nat} (h : c < 20) (h6 : ¬ c = 6) : sWr i v X c = X c := by
  unfold sWr
  split
  · rfl
  · split
    · rfl
    · rw [up2_b h6, sNote_lo h]
theorem M221 (H : MR e m s I0 I X) (x : Int32) : Ok (f221 kad N Z m x I) (fun _ J => MR e m s I0 J (sFail x X)) := by
  unfold f221 sFail
  exact Ok.w (Ok.w (Ok.ret ((H.u1 (k := 0) (by decide)).u1 (k := 1) (by decide))))
theorem sub1 {x : Int32} {n : Nat} (h : x = Int32.ofNat (n + 1)) : x - 1 = Int32.ofNat n := by
  rw [h, ← of_s]
  grind
theorem M219 (H : MR e m s I0 I X) (hs : X 1 2 = Int32.ofNat s) (hs2 : s < 2000) {w : Nat} (hw : nw w X) (hw2 : w < 2) {p : Nat} (hp : X 1 4 = Int32.ofNat (p + 1)) (hp2 : p < 256) (v : Int32) : Ok (f219 kad N Z m v I) (fun _ J => MR e m s I0 J (sPush v X) ∧ nw (w + 1) (sPush v X)) := by
  unfold f219 sPush
  refine Ok.w ?_
  rw [show I m 28 = X 1 4 from H.r1 (k := 4) (by decide), up2_eq, sub1 hp]
  have H2 := H.u1 (k := 4) (v := Int32.ofNat p) (by decide)
  refine (M218 (kad := kad) (N := N) (Z := Z) H2 (by rw [up2_ne (by decide)]; exact hs) hs2 (w := w) hw hw2 (i := Int32.ofNat p) (v := v) (of_nn (by omega)) (by rw [nT_of (by omega)]; exact hp2)).bind fun u J HJ => Ok.ret HJ
theorem sRd_of {X : AI} {p : Nat} (hp2 : p < 256) : sRd X (Int32.ofNat p) = X 6 p := by
  unfold sRd
  rw [if_neg (of_nn (by omega)), if_neg (show ¬ (256 : Int32) ≤ Int32.ofNat p from fun hh => absurd ((of_le (m := 256) (by decide) (by omega)).mp hh) (by omega)), nT_of (by omega)]
theorem M220 (H : MR e m s I0 I X) {p : Nat} (hp : X 1 4 = Int32.ofNat p) (hp2 : p < 256) : Ok (f220 kad N Z m I) (fun v J => v = sPullV X ∧ MR e m s I0 J (sPullX X)) := by
  unfold f220 sPullX sPullV
  refine Ok.w ?_
  rw [show I m 28 = X 1 4 from H.r1 (k := 4) (by decide), up2_eq]
  have e1 : X 1 4 + 1 - 1 = Int32.ofNat p := by rw [hp]; grind
  rw [e1, ixA_of hp2, Option.bind_some]
  have H2 := H.u1 (k := 4) (v := X 1 4 + 1) (by decide)
  refine Ok.ret ⟨?_, H2⟩
  rw [show up2 I m 28 (X 1 4 + 1) (m + 15) p = I (m + 15) p from by rw [up2_b (by omega)], H.r6 hp2]
  exact (sRd_of hp2).symm
theorem up2_self {X : AI} {c k : Nat} {v : Int32} (h : X c k = v) : up2 X c k v = X := by
  funext b j
  unfold up2
  split
  · rename_i hh
    rw [hh.1, hh.2, h]
  · rfl
theorem sPush_lo {v : Int32} {X : AI} {c k : Nat} (h : c < 20) (h6 : ¬ c = 6) (h4 : ¬ (c = 1 ∧ k = 4)) : sPush v X c k = X c k := by
  unfold sPush
  rw [sWr_lo h h6, up2_ne h4]
theorem M226 (H : MR e m s I0 I X) (hs : X 1 2 = Int32.ofNat s) (hs2 : s < 2000) (hw : nw 0 X) {p : Nat} (hp : X 1 4 = Int32.ofNat p) (hp2 : p ≤ 256) (hb : bl X) : Ok (f226 kad N Z m I) (fun _ J => MR e m s I0 J (sInt X)) := by
  have e4 : I m 28 = X 1 4 := H.r1 (k := 4) (by decide)
  have e8 : I m 32 = X 1 8 := H.r1 (k := 8) (by decide)
  have e9 : I m 33 = X 1 9 := H.r1 (k := 9) (by decide)
  unfold f226 sInt
  rw [e4]
  by_cases h2 : (2 : Int32) ≤ X 1 4
  · rw [if_pos h2, if_pos h2]
    have hp3 : 2 ≤ p := by
      rw [hp] at h2
      exact (of_le (m := 2) (by decide) (by omega)).mp h2
    obtain ⟨p, rfl⟩ : ∃ q, p = q + 2 := ⟨p - 2, by omega⟩
    have tail : ∀ (Y J : AI) (i : Nat), i < 256 → MR e m s I0 J Y → Y 1 2 = Int32.ofNat s → Y 1 4 = Int32.ofNat (p + 2) → nw 0 Y → Ok ((f219 kad N Z m (J m 27) J).bind fun r60_3 => if r60_3.2 m 29 = 0 then f226_b76 kad N Z m (Int32.ofNat i) (0 : Int32) r60_3.2 else f226_b76 kad N Z m (Int32.ofNat i) (1 : Int32) r60_3.2) (fun _ J => MR e m s I0 J (up2 (up2 (sPush (sZL (sPush (Y 1 3) Y)) (sPush (Y 1 3) Y)) 1 7 0) 1 3 (sRd (up2 (sPush (sZL (sPush (Y 1 3) Y)) (sPush (Y 1 3) Y)) 1 7 0) (Int32.ofNat i)))) := fun Y J i hi HY h12 h14 hwY => by
      rw [show J m 27 = Y 1 3 from HY.r1 (k := 3) (by decide)]
      refine (M219 (kad := kad) (N := N) (Z := Z) HY h12 hs2 hwY (by decide) (p := p + 1) h14 (by omega) (Y 1 3)).bind fun u J1 ⟨HJ, hw1⟩ => ?_
      generalize hY1 : sPush (Y 1 3) Y = Y1 at HJ hw1
      have y2 : Y1 1 2 = Int32.ofNat s := by rw [← hY1, sPush_lo (by decide) (by decide) (by decide)]; exact h12
      have y4 : Y1 1 4 = Int32.ofNat (p + 1) := by
        rw [← hY1]
        unfold sPush
        rw [sWr_lo (by decide) (by decide), up2_eq]
        exact sub1 h14
      have fin : ∀ (v : Int32), v = sZL Y1 → Ok ((f219 kad N Z m v J1).bind fun r89_1 => (wI r89_1.2 m 31 (0 : Int32)).bind fun I94_2 => (ixA 256 (Int32.ofNat i)).bind fun j103_3 => (wI I94_2 m 27 (I94_2 (m + 15) j103_3)).bind fun I104_4 => some ((), I104_4)) (fun _ J => MR e m s I0 J (up2 (up2 (sPush (sZL Y1) Y1) 1 7 0) 1 3 (sRd (up2 (sPush (sZL Y1) Y1) 1 7 0) (Int32.ofNat i)))) := fun v hv => by
        subst hv
        refine (M219 (kad := kad) (N := N) (Z := Z) HJ y2 hs2 hw1 (by decide) (p := p) y4 (by omega) _).bind fun u J2 ⟨HJ2, _⟩ => Ok.w ?_
        have H3 := HJ2.u1 (k := 7) (v := 0) (by decide)
        rw [ixA_of hi, Option.bind_some]
        refine Ok.w (Ok.ret ?_)
        rw [sRd_of hi, ← H3.r6 hi]
        exact H3.u1 (k := 3) (by decide)
      unfold f226_b76 f226_b88
      dsimp only
      have e5 : J1 m 29 = Y1 1 5 := HJ.r1 (k := 5) (by decide)
      have e6 : J1 m 30 = Y1 1 6 := HJ.r1 (k := 6) (by decide)
      by_cases h5 : Y1 1 5 = 0
      · rw [if_pos (e5.trans h5)]
        by_cases h6 : Y1 1 6 = 0
        · rw [if_pos (e6.trans h6)]
          exact fin _ (by unfold sZL; rw [if_pos h5, if_pos h6])
        · rw [if_neg (fun h => h6 (e6.symm.trans h))]
          exact fin _ (by unfold sZL; rw [if_pos h5, if_neg h6])
      · rw [if_neg (fun h => h5 (e5.symm.trans h))]
        by_cases h6 : Y1 1 6 = 0
        · rw [if_pos (e6.trans h6)]
          exact fin _ (by unfold sZL; rw [if_neg h5, if_pos h6])
        · rw [if_neg (fun h => h6 (e6.symm.trans h))]
          exact fin _ (by unfold sZL; rw [if_neg h5, if_neg h6])
    have keep : ∀ (Y : AI) , (∀ c, ¬ c = 1 → Y c = X c) → Y 1 2 = X 1 2 → Y 1 4 = X 1 4 → Y 1 2 = Int32.ofNat s ∧ Y 1 4 = Int32.ofNat (p + 2) ∧ nw 0 Y := fun Y h1 h2 h4 => ⟨h2.trans hs, h4.trans hp, by unfold nw; rw [h1 20 (by decide), h1 26 (by decide)]; exact hw⟩
    unfold f226_b26 f226_b46 f226_b47
    by_cases h8 : X 1 8 = 0
    · rw [if_pos (e8.trans h8)]
      rw [if_pos (e8.trans h8)]
      simp only [if_pos h8]
      refine Ok.wb (Or.inl rfl) (Ok.w ?_)
      have H2 := (H.u1 (k := 9) (v := 0) (by decide)).u1 (k := 8) (v := 0) (by decide)
      rw [up2_self (X := up2 X 1 9 0) (by rw [up2_ne (by decide)]; exact h8)] at H2
      obtain ⟨k1, k2, k3⟩ := keep (up2 X 1 9 0) (fun c hc => up2_b hc) (up2_ne (by decide)) (up2_ne (by decide))
      exact tail _ _ 1 (by decide) H2 k1 k2 k3
    · rw [if_neg (fun h => h8 (e8.symm.trans h))]
      rw [if_neg (fun h => h8 (e8.symm.trans h))]
      simp only [if_neg h8]
      have H2 : ∀ v, v = X 1 9 → MR e m s I0 (up2 (up2 I m 33 v) m 32 0) (up2 X 1 8 0) := fun v hv => by
        have := (H.u1 (k := 9) (v := v) (by decide)).u1 (k := 8) (v := 0) (by decide)
        rwa [up2_self hv.symm] at this
      obtain ⟨k1, k2, k3⟩ := keep (up2 X 1 8 0) (fun c hc => up2_b hc) (up2_ne (by decide)) (up2_ne (by decide))
      by_cases h9 : X 1 9 = 0
      · rw [if_pos (e9.trans h9)]
        exact Ok.wb (Or.inl rfl) (Ok.w (tail _ _ 0 (by decide) (H2 0 h9.symm) k1 k2 k3))
      · rw [if_neg (fun h => h9 (e9.symm.trans h))]
        exact Ok.wb (Or.inr rfl) (Ok.w (tail _ _ 0 (by decide) (H2 1 ((hb 9 (by decide) (by decide)).resolve_left h9).symm) k1 k2 k3))
  · rw [if_neg h2, if_neg h2]
    exact (M221 H 3).bind fun v J HJ => Ok.ret HJ
end M1
