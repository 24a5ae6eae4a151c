/-! the class's machine makes the plain one's steps -/
section CL
variable {kad : Nat → Nat} {N : Nat} {e : Nat} {Z : AZ} {a κ : Nat} {I0 I X : AI}
theorem z10 : ¬ (1 : Int32) = 0 := by decide
theorem z00 : ¬ ¬ (0 : Int32) = 0 := by decide
theorem C88 (H : RC e Z a κ I0 I X) : Ok (f88 kad N Z a I) (fun _ J => RC e Z a κ I0 J (sGo X)) := by
  unfold f88 sGo
  refine Ok.w (Ok.ret ?_)
  rw [H.rd (c := 1) (k := 3)]
  exact H.up
theorem C87 (H : RC e Z a κ I0 I X) (x : Int32) : Ok (f87 kad N Z a x I) (fun _ J => RC e Z a κ I0 J (sFail x X)) := by
  unfold f87 sFail
  exact Ok.w (Ok.w (Ok.ret (H.up.up)))
theorem nT_b {i : Int32} {n : Nat} (h0 : ¬ i < 0) (h : ¬ Int32.ofNat n ≤ i) (hn : 0 < n := by decide) (hb : n < 2147483648 := by decide) : nT i < n := by
  have h1 : i < Int32.ofNat n := by
    rw [Int32.lt_iff_toInt_lt]
    rw [Int32.le_iff_toInt_le] at h
    omega
  rcases nT_lt h1 hb with h2 | h2 <;> omega
theorem C89 (H : RC e Z a κ I0 I X) (i : Int32) : Ok (f89 kad N Z a i I) (fun v J => v = sRd X i ∧ RC e Z a κ I0 J X) := by
  unfold f89 sRd f89_b20 f89_b21
  split
  · exact Ok.ret ⟨rfl, H⟩
  · rename_i h0
    split
    · exact Ok.ret ⟨rfl, H⟩
    · rename_i h1
      have hb := nT_b (n := 256) h0 h1
      exact Ok.ix h0 hb (Ok.ret ⟨H.rd (c := 6) (by decide) hb, H⟩)
theorem C98 (H : RC e Z a κ I0 I X) (i : Int32) : Ok (f98 kad N Z a i I) (fun v J => v = sReg X i ∧ RC e Z a κ I0 J X) := by
  unfold f98 sReg f98_b21 f98_b22
  split
  · exact Ok.ret ⟨rfl, H⟩
  · rename_i h0
    split
    · exact Ok.ret ⟨rfl, H⟩
    · rename_i h1
      have hb := nT_b (n := 4) h0 h1
      exact Ok.ix h0 hb (Ok.ret ⟨H.rd (c := 2) (by decide) hb, H⟩)
theorem nc2 {c k : Nat} (h : ¬ c = 3 ∧ ¬ c = 1 ∧ ¬ c = 10 ∧ ¬ c = 20 ∧ ¬ c = 23) : nc c k := by
  unfold nc
  omega
theorem C99 (H : RC e Z a κ I0 I X) (i w : Int32) : Ok (f99 kad N Z a i w I) (fun _ J => RC e Z a κ I0 J (sSet i w X)) := by
  unfold f99 sSet f99_b19
  split
  · exact Ok.ret H
  · rename_i h0
    split
    · exact Ok.ret H
    · rename_i h1
      exact Ok.ix h0 (nT_b (n := 4) h0 h1) (Ok.w (Ok.ret (H.up (c := 2) (by decide) (nc2 (by decide)))))
theorem nT_s {x : Int32} (h0 : ¬ x < 0) (h : nT x < 2147483647) : nT (x + 1) = nT x + 1 := by
  have h1 := nT_eq h0
  have h2 : x + 1 = Int32.ofNat (nT x + 1) := by
    rw [show Int32.ofNat (nT x + 1) = Int32.ofNat (nT x) + Int32.ofNat 1 from Int32.ofNat_add _ _, of_nT h0]
    rfl
  rw [h2, nT_of (by omega)]
theorem C68 (H : RC e Z a κ I0 I X) (i w : Int32) : Ok (f68 kad N Z κ i w I) (fun _ J => RC e Z a κ I0 J (sNote i w X)) := by
  unfold f68 sNote f68_b45
  rw [H.rd0 (Or.inl rfl)]
  split
  · exact Ok.ret H
  · rename_i h0
    split
    · exact Ok.ret H
    · rename_i h1
      have hb := nT_b (n := 2) h0 h1
      refine Ok.ix h0 hb (Ok.w ?_)
      have e1 : up2 I (κ + 6) (nT (X 20 1)) i κ 1 = X 20 1 := by
        rw [up2_b (by omega)]
        exact H.rd0 (Or.inl rfl)
      rw [e1]
      refine Ok.ix h0 hb (Ok.w ?_)
      have e2 : up2 (up2 I (κ + 6) (nT (X 20 1)) i) (κ + 7) (nT (X 20 1)) w κ 1 = X 20 1 := by
        rw [up2_b (by omega)]
        exact e1
      rw [e2]
      refine Ok.w (Ok.ret ?_)
      have H2 := (H.upk (c := 6) (k := nT (X 20 1)) (v := i) (by decide) (nc2 (by decide))).upk (c := 7) (k := nT (X 20 1)) (v := w) (by decide) (nc2 (by decide))
      refine H2.blk (c := 20) (Or.inr (by decide)) (fun b hb => up2_b (by simpa [loc] using hb)) (fun d hd => up2_b hd) (fun d k hd hdc => ?_) (fun k hk => ?_)
      · have hn := nT_s (x := X 20 1) h0 (by omega)
        unfold rel at hd
        split at hd <;> first
          | exact Or.inl hd
          | skip
        · rw [up2_eq, hn] at hd
          by_cases hk : k < nT (X 20 1)
          · exact Or.inl (show k < nT (up2 (up2 X 26 _ i) 27 _ w 20 1) ∧ k < 2 from ⟨by rw [up2_b (by decide), up2_b (by decide)]; exact hk, hd.2⟩)
          · have : k = nT (X 20 1) := by omega
            subst this
            refine Or.inr ?_
            show up2 (up2 I (κ + 6) (nT (X 20 1)) i) (κ + 7) (nT (X 20 1)) w (κ + 6) (nT (X 20 1)) = up2 (up2 X 26 (nT (X 20 1)) i) 27 (nT (X 20 1)) w 26 (nT (X 20 1))
            rw [up2_b (by omega), up2_eq, up2_b (by decide), up2_eq]
        · rw [up2_eq, hn] at hd
          by_cases hk : k < nT (X 20 1)
          · exact Or.inl (show k < nT (up2 (up2 X 26 _ i) 27 _ w 20 1) ∧ k < 2 from ⟨by rw [up2_b (by decide), up2_b (by decide)]; exact hk, hd.2⟩)
          · have : k = nT (X 20 1) := by omega
            subst this
            refine Or.inr ?_
            show up2 (up2 I (κ + 6) (nT (X 20 1)) i) (κ + 7) (nT (X 20 1)) w (κ + 7) (nT (X 20 1)) = up2 (up2 X 26 (nT (X 20 1)) i) 27 (nT (X 20 1)) w 27 (nT (X 20 1))
            rw [up2_eq, up2_eq]
        · exact hd.elim
      · rcases hk with rfl | rfl
        · show up2 _ κ 1 _ κ 1 = _
          rw [up2_eq, up2_eq]
        · show up2 _ κ 1 _ κ 4 = _
          rw [up2_ne (show ¬ (κ = κ ∧ 4 = 1) from by omega), up2_ne (show ¬ (20 = 20 ∧ 4 = 1) from by omega), up2_b (by omega), up2_b (by omega), up2_b (by decide), up2_b (by decide)]
          exact H.rd0 (Or.inr rfl)
theorem C90 (H : RC e Z a κ I0 I X) (i w : Int32) : Ok (f90 kad N Z a i w I) (fun _ J => RC e Z a κ I0 J (sWr i w X)) := by
  unfold f90 sWr f90_b32
  split
  · exact Ok.ret H
  · rename_i h0
    split
    · exact Ok.ret H
    · rename_i h1
      have hb := nT_b (n := 256) h0 h1
      refine Ok.ix h0 hb ?_
      rw [H.kp, H.rd (c := 6) (by decide) hb]
      refine (C68 H i _).bind fun v J HJ => ?_
      exact Ok.ix h0 hb (Ok.w (Ok.ret (HJ.up (c := 6) (by decide) (nc2 (by decide)))))
theorem C91 (H : RC e Z a κ I0 I X) (w : Int32) : Ok (f91 kad N Z a w I) (fun _ J => RC e Z a κ I0 J (sPush w X)) := by
  unfold f91 sPush
  refine Ok.w ?_
  rw [up2_eq, H.rd (c := 1) (k := 4)]
  exact (C90 (H.up (c := 1) (k := 4)) _ _).bind fun v J HJ => Ok.ret HJ
theorem C92 (H : RC e Z a κ I0 I X) : Ok (f92 kad N Z a I) (fun v J => v = sPullV X ∧ RC e Z a κ I0 J (sPullX X)) := by
  unfold f92 sPullV sPullX
  refine Ok.w ?_
  rw [up2_eq, H.rd (c := 1) (k := 4)]
  exact (C89 (H.up (c := 1) (k := 4)) _).bind fun v J HJ => Ok.ret HJ
theorem C93 (H : RC e Z a κ I0 I X) (n : Int32) : Ok (f93 kad N Z a n I) (fun v J => (v = 1 ∧ n ≤ X 1 4 ∧ RC e Z a κ I0 J X) ∨ (v = 0 ∧ ¬ n ≤ X 1 4 ∧ RC e Z a κ I0 J (sFail 3 X))) := by
  unfold f93
  rw [H.rd (c := 1) (k := 4)]
  split
  · rename_i h
    exact Ok.ret (Or.inl ⟨rfl, h, H⟩)
  · rename_i h
    exact (C87 H 3).bind fun v J HJ => Ok.ret (Or.inr ⟨rfl, h, HJ⟩)
theorem C94 (H : RC e Z a κ I0 I X) (n : Int32) : Ok (f94 kad N Z a n I) (fun v J => (v = 1 ∧ X 1 4 + n ≤ 256 ∧ RC e Z a κ I0 J X) ∨ (v = 0 ∧ ¬ X 1 4 + n ≤ 256 ∧ RC e Z a κ I0 J (sFail 3 X))) := by
  unfold f94
  rw [H.rd (c := 1) (k := 4)]
  split
  · rename_i h
    exact Ok.ret (Or.inl ⟨rfl, h, H⟩)
  · rename_i h
    exact (C87 H 3).bind fun v J HJ => Ok.ret (Or.inr ⟨rfl, h, HJ⟩)
theorem C39 (H : RC e Z a κ I0 I X) : Ok (f39 kad N Z (a + 1) I) (fun v J => v = sZL X ∧ RC e Z a κ I0 J X) := by
  unfold f39 f39_b12 f39_b24 sZL
  rw [H.rd (c := 1) (k := 5), H.rd (c := 1) (k := 6)]
  split <;> split <;> exact Ok.ret ⟨rfl, H⟩
theorem C102 (H : RC e Z a κ I0 I X) (op y : Int32) : Ok (f102 kad N Z a op y I) (fun _ J => RC e Z a κ I0 J (sJump op y X)) := by
  unfold f102 f102_b16 f102_b32 f102_b39 f102_b47 sJump
  rw [H.rd (c := 1) (k := 5), H.rd (c := 1) (k := 6)]
  have g := (C88 (kad := kad) (N := N) H).bind (k := fun r33_1 => some ((), r33_1.2)) fun v J HJ => Ok.ret (Q := fun _ J => RC e Z a κ I0 J (sGo X)) (v := ()) HJ
  have u : Ok ((wI I (a + 1) 3 y).bind fun I44_1 => some ((), I44_1)) (fun _ J => RC e Z a κ I0 J (up2 X 1 3 y)) := Ok.w (Ok.ret H.up)
  by_cases h13 : op = 13
  · subst h13
    by_cases h5 : X 1 5 = 0
    · rw [if_neg (by decide), if_pos h5, if_pos (Or.inl ⟨rfl, h5⟩)]
      exact g
    · rw [if_neg (by decide), if_neg h5, if_pos (by decide), if_neg (by rintro (h | h); exact h5 h.2; exact absurd h.1 (by decide))]
      exact u
  · by_cases h14 : op = 14
    · subst h14
      by_cases h6 : X 1 6 = 0
      · rw [if_pos h13, if_neg (by decide), if_neg (fun h => h h6), if_pos (Or.inr ⟨rfl, h6⟩)]
        exact g
      · rw [if_pos h13, if_neg (by decide), if_pos h6, if_neg (by rintro (h | h); exact h13 h.1; exact h6 h.2)]
        exact u
    · rw [if_pos h13, if_pos h14, if_neg (by rintro (h | h); exact h13 h.1; exact h14 h.1)]
      exact u
theorem C101 (op w y : Int32) : Ok (f101 kad N Z op w y I) (fun v J => v = sMade op w y ∧ J = I) := by
  unfold f101 sMade f101_b81
  by_cases h4 : op = 4
  · rw [if_pos h4, if_pos h4]; exact Ok.ret ⟨rfl, rfl⟩
  rw [if_neg h4, if_neg h4]
  by_cases h5 : op = 5
  · rw [if_pos h5, if_pos h5]; exact Ok.ret ⟨rfl, rfl⟩
  rw [if_neg h5, if_neg h5]
  by_cases h6 : op = 6
  · rw [if_pos h6, if_pos h6]; exact Ok.ret ⟨rfl, rfl⟩
  rw [if_neg h6, if_neg h6]
  by_cases h7 : op = 7
  · rw [if_pos h7, if_pos h7]; exact Ok.ret ⟨rfl, rfl⟩
  rw [if_neg h7, if_neg h7]
  by_cases h8 : op = 8
  · rw [if_pos h8, if_pos h8]; exact Ok.ret ⟨rfl, rfl⟩
  rw [if_neg h8, if_neg h8]
  by_cases h9 : op = 9
  · rw [if_pos h9, if_pos h9]; exact Ok.ret ⟨rfl, rfl⟩
  rw [if_neg h9, if_neg h9]
  by_cases h10 : op = 10
  · rw [if_pos h10, if_pos h10]; exact Ok.ret ⟨rfl, rfl⟩
  rw [if_neg h10, if_neg h10]
  exact Ok.ret ⟨rfl, rfl⟩
theorem C100 (H : RC e Z a κ I0 I X) (op d y : Int32) : Ok (f100 kad N Z a op d y I) (fun _ J => RC e Z a κ I0 J (sCalc op d y X)) := by
  unfold f100
  refine (C98 H d).bind fun v J ⟨hv, HJ⟩ => ?_
  subst hv
  refine (C101 op _ y).bind fun r J2 ⟨hr, hJ2⟩ => ?_
  cases hJ2
  have fin : ∀ (Y : AI) (J : AI), RC e Z a κ I0 J Y → Ok (f100_b103 kad N Z a J) (fun _ J => RC e Z a κ I0 J (sGo Y)) := fun Y J h => by
    unfold f100_b103
    exact (C88 h).bind fun v J HJ => Ok.ret HJ
  have last : ∀ (Y J : AI) (w s0 : Int32), s0 = 0 ∨ s0 = 1 → RC e Z a κ I0 J Y → Ok (f100_b87 kad N Z a op d w s0 J) (fun _ J => RC e Z a κ I0 J (sGo (if op = 11 then up2 Y 1 5 s0 else sSet d w (up2 Y 1 5 s0)))) := fun Y J w s0 hs h => by
    unfold f100_b87
    refine Ok.wb hs ?_
    split
    · exact fin _ _ h.up
    · exact (C99 h.up d w).bind fun v J HJ => fin _ _ HJ
  have zer : ∀ (J : AI) (w s0 : Int32), s0 = 0 ∨ s0 = 1 → RC e Z a κ I0 J X → Ok (f100_b70 kad N Z a op d w s0 J) (fun _ J => RC e Z a κ I0 J (sGo (if op = 11 then up2 (up2 X 1 6 s0) 1 5 (if w = 0 then 1 else 0) else sSet d w (up2 (up2 X 1 6 s0) 1 5 (if w = 0 then 1 else 0))))) := fun J w s0 hs h => by
    unfold f100_b70
    refine Ok.wb hs ?_
    by_cases hw : w = 0
    · rw [if_neg (fun hh => hh hw), if_pos hw]
      exact last _ _ _ _ (Or.inr rfl) h.up
    · rw [if_pos hw, if_neg hw]
      exact last _ _ _ _ (Or.inl rfl) h.up
  subst hr
  show Ok _ (fun _ J => RC e Z a κ I0 J (sGo (if op = 11 then up2 (up2 X 1 6 (sLess op (sMade op (sReg X d) y))) 1 5 (if sW16 (sMade op (sReg X d) y) = 0 then 1 else 0) else sSet d (sW16 (sMade op (sReg X d) y)) (up2 (up2 X 1 6 (sLess op (sMade op (sReg X d) y))) 1 5 (if sW16 (sMade op (sReg X d) y) = 0 then 1 else 0)))))
  unfold f100_b28 f100_b29 f100_b69 f100_b65
  have l1 : ∀ r, ¬ (¬ (op < 7) ∧ ¬ ((10 : Int32) < op)) → sLess op r = if lg_cmp r 0 < 0 then 1 else if lg_cmp r 65535 ≤ 0 then 0 else 1 := fun r h => by unfold sLess; rw [if_neg h]
  have l2 : ∀ r, ¬ (op < 7) ∧ ¬ ((10 : Int32) < op) → sLess op r = 0 := fun r h => by unfold sLess; rw [if_pos h]
  generalize sMade op (sReg X d) y = r
  have mid : ¬ (¬ (op < 7) ∧ ¬ ((10 : Int32) < op)) → Ok (if ¬ (0 : Int32) = 0 then f100_b70 kad N Z a op d (r &&& (65535 : Int64)).toInt32 (0 : Int32) J else if lg_cmp r 0 < 0 then f100_b70 kad N Z a op d (r &&& (65535 : Int64)).toInt32 (1 : Int32) J else if lg_cmp r 65535 ≤ 0 then f100_b70 kad N Z a op d (r &&& (65535 : Int64)).toInt32 (0 : Int32) J else f100_b70 kad N Z a op d (r &&& (65535 : Int64)).toInt32 (1 : Int32) J) (fun _ J => RC e Z a κ I0 J (sGo (if op = 11 then up2 (up2 X 1 6 (sLess op r)) 1 5 (if sW16 r = 0 then 1 else 0) else sSet d (sW16 r) (up2 (up2 X 1 6 (sLess op r)) 1 5 (if sW16 r = 0 then 1 else 0))))) := fun hc => by
    rw [l1 r hc, if_neg (by decide)]
    split
    · exact zer J _ _ (Or.inr rfl) HJ
    · split
      · exact zer J _ _ (Or.inl rfl) HJ
      · exact zer J _ _ (Or.inr rfl) HJ
  split
  · rename_i h
    exact mid (fun hh => hh.1 h)
  · rename_i h
    split
    · rename_i h2
      exact mid (fun hh => hh.2 h2)
    · rename_i h2
      rw [if_pos (show ¬ (1 : Int32) = 0 from by decide), l2 r ⟨h, h2⟩]
      exact zer J _ _ (Or.inl rfl) HJ
theorem C97 (H : RC e Z a κ I0 I X) (op d y : Int32) : Ok (f97 kad N Z a op d y I) (fun _ J => RC e Z a κ I0 J (sMove op d y X)) := by
  unfold f97 f97_b84 sMove
  by_cases h0 : op = 0
  · rw [if_neg (fun hh => hh h0), if_pos h0]
    exact Ok.w (Ok.ret H.up)
  rw [if_pos h0, if_neg h0]
  by_cases h1 : op = 1
  · rw [if_neg (fun hh => hh h1), if_pos h1]
    exact (C99 H d y).bind fun v J HJ => (C88 HJ).bind fun v J HJ => Ok.ret HJ
  rw [if_pos h1, if_neg h1]
  by_cases hy : y < 256
  · rw [if_pos hy, if_pos hy]
    by_cases h2 : op = 2
    · rw [if_neg (fun hh => hh h2), if_pos h2]
      refine (C89 H y).bind fun v J ⟨hv, HJ⟩ => ?_
      subst hv
      exact (C99 HJ d _).bind fun v J HJ => (C88 HJ).bind fun v J HJ => Ok.ret HJ
    · rw [if_pos h2, if_neg h2]
      refine (C98 H d).bind fun v J ⟨hv, HJ⟩ => ?_
      subst hv
      exact (C90 HJ y _).bind fun v J HJ => (C88 HJ).bind fun v J HJ => Ok.ret HJ
  · rw [if_neg hy, if_neg hy]
    exact (C87 H 1).bind fun v J HJ => Ok.ret HJ
theorem C103 (H : RC e Z a κ I0 I X) (op d y : Int32) : Ok (f103 kad N Z a op d y I) (fun _ J => RC e Z a κ I0 J (sStack op d y X)) := by
  unfold f103 f103_b12 f103_b17 f103_b44 f103_b43 f103_b135 sStack
  by_cases h15 : op = 15
  · subst h15
    rw [if_pos rfl, if_neg (by decide), if_pos rfl]
    refine (C93 H 1).bind fun v J hv => ?_
    rcases hv with ⟨rfl, hc, HJ⟩ | ⟨rfl, hc, HJ⟩
    · rw [if_pos z10, if_pos rfl, if_pos hc]
      dsimp only
      rw [HJ.rd (c := 1) (k := 3)]
      exact (C91 HJ _).bind fun v J HJ => Ok.w (Ok.ret HJ.up)
    · rw [if_neg z00, if_neg hc]
      exact Ok.ret HJ
  rw [if_neg h15, if_neg h15]
  by_cases h17 : op = 17
  · subst h17
    rw [if_neg (by decide), if_pos rfl, if_neg (by decide)]
    refine (C93 H 1).bind fun v J hv => ?_
    rcases hv with ⟨rfl, hc, HJ⟩ | ⟨rfl, hc, HJ⟩
    · rw [if_pos z10, if_neg (by decide), if_neg (by decide), if_pos rfl, if_pos hc]
      exact (C91 HJ _).bind fun v J HJ => (C88 HJ).bind fun v J HJ => Ok.ret HJ
    · rw [if_neg z00, if_neg hc]
      exact Ok.ret HJ
  rw [if_pos h17, if_neg h17, if_pos rfl]
  refine (C94 H 1).bind fun v J hv => ?_
  rcases hv with ⟨rfl, hc, HJ⟩ | ⟨rfl, hc, HJ⟩
  · rw [if_pos z10, if_neg h15, if_pos hc]
    by_cases h16 : op = 16
    · rw [if_pos h16, if_pos h16]
      refine (C92 HJ).bind fun v J ⟨hv, HJ⟩ => ?_
      subst hv
      exact Ok.w (Ok.ret HJ.up)
    · rw [if_neg h16, if_neg h16, if_neg h17]
      refine (C92 HJ).bind fun v J ⟨hv, HJ⟩ => ?_
      subst hv
      exact (C99 HJ d _).bind fun v J HJ => (C88 HJ).bind fun v J HJ => Ok.ret HJ
  · rw [if_neg z00, if_neg hc]
    exact Ok.ret HJ
theorem C105 (H : RC e Z a κ I0 I X) : Ok (f105 kad N Z a I) (fun _ J => RC e Z a κ I0 J (sRti X)) := by
  unfold f105 f105_b28 f105_b46 f105_b68 sRti
  refine (C94 H 2).bind fun v J hv => ?_
  rcases hv with ⟨rfl, hc, HJ⟩ | ⟨rfl, hc, HJ⟩
  · rw [if_neg z10, if_pos hc]
    refine (C92 HJ).bind fun v J ⟨hv, HJ⟩ => ?_
    subst hv
    dsimp only
    have fin : ∀ (Y J : AI), RC e Z a κ I0 J Y → Ok ((f92 kad N Z a J).bind fun r => (wI r.2 (a + 1) 3 r.1).bind fun I57 => (wI I57 (a + 1) 7 (1 : Int32)).bind fun I65 => some ((), I65)) (fun _ J => RC e Z a κ I0 J (up2 (up2 (sPullX Y) 1 3 (sPullV Y)) 1 7 1)) := fun Y J h => by
      refine (C92 h).bind fun v J ⟨hv, HJ⟩ => ?_
      subst hv
      exact Ok.w (Ok.w (Ok.ret HJ.up.up))
    split
    · rename_i h1
      refine Ok.wb (Or.inl rfl) ?_
      split
      · rename_i h2
        exact Ok.wb (Or.inl rfl) (fin _ _ HJ.up.up)
      · rename_i h2
        exact Ok.wb (Or.inr rfl) (fin _ _ HJ.up.up)
    · rename_i h1
      refine Ok.wb (Or.inr rfl) ?_
      split
      · rename_i h2
        exact Ok.wb (Or.inl rfl) (fin _ _ HJ.up.up)
      · rename_i h2
        exact Ok.wb (Or.inr rfl) (fin _ _ HJ.up.up)
  · rw [if_pos rfl, if_neg hc]
    exact Ok.ret HJ
theorem C95 (H : RC e Z a κ I0 I X) : Ok (f95 kad N Z a I) (fun _ J => RC e Z a κ I0 J (sInt X)) := by
  unfold f95 f95_b24 f95_b54 sInt
  refine (C93 H 2).bind fun v J hv => ?_
  rcases hv with ⟨rfl, hc, HJ⟩ | ⟨rfl, hc, HJ⟩
  · rw [if_pos z10, if_pos hc]
    have fin : ∀ (Y J : AI) (i : Int32), RC e Z a κ I0 J Y → Ok ((f91 kad N Z a (J (a + 1) 3) J).bind fun r62 => (f39 kad N Z (a + 1) r62.2).bind fun r70 => (f91 kad N Z a r70.1 r70.2).bind fun r73 => (wI r73.2 (a + 1) 7 (0 : Int32)).bind fun I81 => (f89 kad N Z a i I81).bind fun r90 => (wI r90.2 (a + 1) 3 r90.1).bind fun I93 => some ((), I93)) (fun _ J => RC e Z a κ I0 J (up2 (up2 (sPush (sZL (sPush (Y 1 3) Y)) (sPush (Y 1 3) Y)) 1 7 0) 1 3 (sRd (up2 (sPush (sZL (sPush (Y 1 3) Y)) (sPush (Y 1 3) Y)) 1 7 0) i))) := fun Y J i h => by
      rw [h.rd (c := 1) (k := 3)]
      refine (C91 h _).bind fun v J HJ => ?_
      refine (C39 HJ).bind fun v J ⟨hv, HJ⟩ => ?_
      subst hv
      refine (C91 HJ _).bind fun v J HJ => Ok.w ?_
      refine (C89 HJ.up i).bind fun v J ⟨hv, HJ⟩ => ?_
      subst hv
      exact Ok.w (Ok.ret HJ.up)
    dsimp only
    have e8 : J (a + 1) 8 = X 1 8 := HJ.rd (c := 1) (k := 8)
    by_cases h8 : X 1 8 = 0
    · simp only [e8, if_pos h8]
      exact Ok.w (fin _ _ _ HJ.up)
    · simp only [e8, if_neg h8]
      exact Ok.w (fin _ _ _ HJ.up)
  · rw [if_neg z00, if_neg hc]
    exact Ok.ret HJ
end CL
