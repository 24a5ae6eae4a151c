/-! the model's faults and jumps -/
def mPulled (op : Int32) : Int32 := if op = 16 ∨ op = 18 then 1 else if op = 21 then 2 else 0
def mFault (op y : Int32) (X : AI) : Int32 := if ¬ op ≤ 26 then 2 else if (op = 2 ∨ op = 3) ∧ ¬ y < 256 then 1 else if (op = 15 ∨ op = 17) ∧ X 1 4 < 1 then 3 else if ¬ X 1 4 + mPulled op ≤ 256 then 3 else if op = 25 ∧ X 1 12 = 60 then 4 else 0
section M3
variable {kad : Nat → Nat} {N : Nat} {Z : AZ} {e m s : Nat} {I0 I X : AI}
theorem M227 (H : MR e m s I0 I X) (op y : Int32) : f227 kad N Z m op y I = some (mFault op y X, I) := by
  have e4 : I m 28 = X 1 4 := H.r1 (k := 4) (by decide)
  have e12 : I m 37 = X 1 12 := H.r1 (k := 12) (by decide)
  have last : ∀ (p : Int32), f227_b86 kad N Z m op p I = some (if ¬ X 1 4 + p ≤ 256 then 3 else if op = 25 ∧ X 1 12 = 60 then 4 else 0, I) := fun p => by
    unfold f227_b86 f227_b99 f227_b120 f227_b121
    rw [e4, e12]
    by_cases h : X 1 4 + p ≤ 256
    · rw [if_pos h]
      by_cases h25 : op = 25
      · by_cases h60 : X 1 12 = 60
        · rw [if_neg (show ¬ ¬ op = 25 from fun hh => hh h25), if_neg (show ¬ ¬ X 1 12 = 60 from fun hh => hh h60), if_neg (show ¬ ¬ X 1 4 + p ≤ 256 from fun hh => hh h), if_pos ⟨h25, h60⟩]
        · rw [if_neg (show ¬ ¬ op = 25 from fun hh => hh h25), if_pos (show ¬ X 1 12 = 60 from h60), if_neg (show ¬ ¬ X 1 4 + p ≤ 256 from fun hh => hh h), if_neg (show ¬ (op = 25 ∧ X 1 12 = 60) from fun hh => h60 hh.2)]
      · rw [if_pos (show ¬ op = 25 from h25), if_neg (show ¬ ¬ X 1 4 + p ≤ 256 from fun hh => hh h), if_neg (show ¬ (op = 25 ∧ X 1 12 = 60) from fun hh => h25 hh.1)]
    · rw [if_neg h, if_pos (show ¬ X 1 4 + p ≤ 256 from h)]
  have mid : ∀ (b p : Int32), (b = 0 ∨ b = 1) → f227_b72 kad N Z m op b p I = some (if b = 1 ∧ X 1 4 < 1 then 3 else if ¬ X 1 4 + p ≤ 256 then 3 else if op = 25 ∧ X 1 12 = 60 then 4 else 0, I) := fun b p hb => by
    unfold f227_b72 f227_b99
    rw [e4, last]
    rcases hb with rfl | rfl
    · rw [if_pos rfl, if_neg (show ¬ ((0 : Int32) = 1 ∧ X 1 4 < 1) from fun h => absurd h.1 (by decide))]
    · rw [if_neg z10]
      by_cases h : X 1 4 < 1
      · rw [if_pos h, if_pos ⟨rfl, h⟩]
      · rw [if_neg h, if_neg (show ¬ ((1 : Int32) = 1 ∧ X 1 4 < 1) from fun hh => h hh.2)]
  have pul : ∀ (b : Int32), (b = 0 ∨ b = 1) → f227_b44 kad N Z m op b I = some (if b = 1 ∧ X 1 4 < 1 then 3 else if ¬ X 1 4 + mPulled op ≤ 256 then 3 else if op = 25 ∧ X 1 12 = 60 then 4 else 0, I) := fun b hb => by
    unfold f227_b44 f227_b57 mPulled
    by_cases h16 : op = 16
    · rw [if_pos h16, if_pos (Or.inl h16), mid b 1 hb]
    · rw [if_neg h16]
      by_cases h18 : op = 18
      · rw [if_neg (show ¬ ¬ op = 18 from fun h => h h18), if_pos (Or.inr h18), mid b 1 hb]
      · rw [if_pos h18, if_neg (show ¬ (op = 16 ∨ op = 18) from fun h => h.elim h16 h18)]
        by_cases h21 : op = 21
        · rw [if_neg (show ¬ ¬ op = 21 from fun h => h h21), if_pos h21, mid b 2 hb]
        · rw [if_pos h21, if_neg h21, mid b 0 hb]
  have psh : f227_b27 kad N Z m op I = some (if (op = 15 ∨ op = 17) ∧ X 1 4 < 1 then 3 else if ¬ X 1 4 + mPulled op ≤ 256 then 3 else if op = 25 ∧ X 1 12 = 60 then 4 else 0, I) := by
    unfold f227_b27 f227_b39
    by_cases h15 : op = 15
    · rw [if_pos h15, pul 1 (Or.inr rfl)]
      simp only [h15, true_or, true_and]
    · rw [if_neg h15]
      by_cases h17 : op = 17
      · rw [if_neg (show ¬ ¬ op = 17 from fun h => h h17), pul 1 (Or.inr rfl)]
        simp only [h17, or_true, true_and]
      · rw [if_pos h17, pul 0 (Or.inl rfl), if_neg (show ¬ ((0 : Int32) = 1 ∧ X 1 4 < 1) from fun h => absurd h.1 (by decide)), if_neg (show ¬ ((op = 15 ∨ op = 17) ∧ X 1 4 < 1) from fun h => h.1.elim h15 h17)]
  unfold f227 f227_b18 mFault
  by_cases h26 : op ≤ 26
  · rw [if_pos h26, if_neg (show ¬ ¬ op ≤ 26 from fun h => h h26), psh]
    have yy : (op = 2 ∨ op = 3) → (if y < (256 : Int32) then some (if (op = 15 ∨ op = 17) ∧ X 1 4 < 1 then (3 : Int32) else if ¬ X 1 4 + mPulled op ≤ 256 then 3 else if op = 25 ∧ X 1 12 = 60 then 4 else 0, I) else some ((1 : Int32), I)) = some (if (op = 2 ∨ op = 3) ∧ ¬ y < 256 then 1 else if (op = 15 ∨ op = 17) ∧ X 1 4 < 1 then 3 else if ¬ X 1 4 + mPulled op ≤ 256 then 3 else if op = 25 ∧ X 1 12 = 60 then 4 else 0, I) := fun h23 => by
      by_cases hy : y < 256
      · rw [if_pos hy, if_neg (show ¬ ((op = 2 ∨ op = 3) ∧ ¬ y < 256) from fun h => h.2 hy)]
      · rw [if_neg hy, if_pos ⟨h23, hy⟩]
    by_cases h2 : op = 2
    · rw [if_pos h2]
      exact yy (Or.inl h2)
    · rw [if_neg h2]
      by_cases h3 : op = 3
      · rw [if_neg (show ¬ ¬ op = 3 from fun h => h h3)]
        exact yy (Or.inr h3)
      · rw [if_pos h3, if_neg (show ¬ ((op = 2 ∨ op = 3) ∧ ¬ y < 256) from fun h => h.1.elim h2 h3)]
  · rw [if_neg h26, if_pos h26]
theorem mFault_no {op d y : Int32} (hs : X 1 4 ≤ 256) (h : ¬ mFault op y X = 0) : sDo op d y X = sFail (mFault op y X) X := by
  unfold mFault at h ⊢
  unfold sDo
  by_cases h26 : op ≤ 26
  · rw [if_pos h26]
    rw [if_neg (show ¬ ¬ op ≤ 26 from fun hh => hh h26)] at h ⊢
    by_cases h1 : (op = 2 ∨ op = 3) ∧ ¬ y < 256
    · rw [if_pos h1, if_pos (by rcases h1.1 with rfl | rfl <;> decide), if_pos (by rcases h1.1 with rfl | rfl <;> decide), if_pos (by rcases h1.1 with rfl | rfl <;> decide), if_pos (by rcases h1.1 with rfl | rfl <;> decide)]
      unfold sMove
      rw [if_neg (by rcases h1.1 with rfl | rfl <;> decide), if_neg (by rcases h1.1 with rfl | rfl <;> decide), if_neg h1.2]
    · rw [if_neg h1] at h ⊢
      by_cases h2 : (op = 15 ∨ op = 17) ∧ X 1 4 < 1
      · rw [if_pos h2, if_pos (by rcases h2.1 with rfl | rfl <;> decide), if_neg (by rcases h2.1 with rfl | rfl <;> decide)]
        unfold sStack
        have hn : ¬ (1 : Int32) ≤ X 1 4 := by have := h2.2; grind
        rcases h2.1 with rfl | rfl
        · rw [if_pos rfl, if_neg hn]
        · rw [if_neg (by decide), if_pos rfl, if_neg hn]
      · rw [if_neg h2] at h ⊢
        by_cases h3 : X 1 4 + mPulled op ≤ 256
        · rw [if_neg (show ¬ ¬ X 1 4 + mPulled op ≤ 256 from fun hh => hh h3)] at h ⊢
          by_cases h4 : op = 25 ∧ X 1 12 = 60
          · obtain ⟨rfl, h60⟩ := h4
            rw [if_pos (show (25 : Int32) = 25 ∧ X 1 12 = 60 from ⟨rfl, h60⟩), if_neg (show ¬ (25 : Int32) < 19 from by decide)]
            unfold sCtl sTape
            rw [if_neg (by decide), if_neg (by decide), if_neg (by decide), if_neg (by decide), if_neg (by decide), if_neg (by decide), if_pos rfl, h60, if_neg (by decide), if_neg (by decide)]
          · rw [if_neg h4] at h
            exact absurd rfl h
        · rw [if_pos h3]
          unfold mPulled at h3
          by_cases h16 : op = 16 ∨ op = 18
          · rw [if_pos h16] at h3
            rw [if_pos (by rcases h16 with rfl | rfl <;> decide), if_neg (by rcases h16 with rfl | rfl <;> decide)]
            unfold sStack
            rw [if_neg (by rcases h16 with rfl | rfl <;> decide), if_neg (by rcases h16 with rfl | rfl <;> decide), if_neg h3]
          · rw [if_neg h16] at h3
            by_cases h21 : op = 21
            · subst h21
              rw [if_pos rfl] at h3
              rw [if_neg (by decide)]
              unfold sCtl sRti
              rw [if_neg (by decide), if_neg (by decide), if_pos rfl, if_neg h3]
            · rw [if_neg h21] at h3
              exact absurd hs (by grind)
  · rw [if_neg h26, if_pos h26]
theorem sPullV_up {X : AI} {z : Int32} : sPullV (up2 X 1 3 z) = sPullV X := by
  unfold sPullV sRd
  rw [up2_ne (by decide), show up2 X 1 3 z 6 = X 6 from up2_b (by decide)]
theorem M232 (H : MR e m s I0 I X) (hs : X 1 2 = Int32.ofNat s) (hs2 : s < 2000) (hw : nw 0 X) {p : Nat} (hp : X 1 4 = Int32.ofNat p) (hp2 : p ≤ 256) {op y : Int32} {d : Nat} (hd : d < 4) (ho : op = 12 ∨ op = 13 ∨ op = 14 ∨ op = 15 ∨ op = 16 ∨ op = 17 ∨ op = 18) (hpush : op = 15 ∨ op = 17 → 1 ≤ p) (hpull : op = 16 ∨ op = 18 → p < 256) : Ok (f232 kad N Z m op (Int32.ofNat d) y I) (fun _ J => MR e m s I0 J (if op < 15 then sJump op y X else sStack op (Int32.ofNat d) y X)) := by
  have e3 : I m 27 = X 1 3 := H.r1 (k := 3) (by decide)
  have e5 : I m 29 = X 1 5 := H.r1 (k := 5) (by decide)
  have e6 : I m 30 = X 1 6 := H.r1 (k := 6) (by decide)
  have one : 1 ≤ p → (1 : Int32) ≤ X 1 4 := fun h => by rw [hp]; exact (of_le (m := 1) (by decide) (by omega)).mpr h
  have big : p < 256 → X 1 4 + 1 ≤ 256 := fun h => by rw [hp, of_s]; exact (of_le (n := 256) (by omega) (by decide)).mpr h
  have set : ∀ (J Y : AI) (v : Int32), MR e m s I0 J Y → Ok ((wI J m 27 v).bind fun I101_1 => some ((), I101_1)) (fun _ J => MR e m s I0 J (up2 Y 1 3 v)) := fun J Y v h => Ok.w (Ok.ret (h.u1 (k := 3) (by decide)))
  unfold f232 f232_b20 f232_b31 f232_b56 f232_b69 f232_b73 f232_b74 f232_b101 f232_b120
  rw [e3]
  rcases ho with rfl | rfl | rfl | rfl | rfl | rfl | rfl
  · rw [if_pos (by decide), if_pos (by decide), if_pos rfl, if_pos (by decide), if_neg z10, if_pos (show (12 : Int32) < 15 from by decide)]
    unfold sJump
    rw [if_neg (show ¬ (((12 : Int32) = 13 ∧ X 1 5 = 0) ∨ ((12 : Int32) = 14 ∧ X 1 6 = 0)) from fun h => h.elim (fun h => absurd h.1 (by decide)) (fun h => absurd h.1 (by decide)))]
    exact Ok.w (Ok.ret (H.u1 (k := 3) (by decide)))
  · rw [if_pos (by decide), if_pos (by decide), if_neg (by decide), if_neg (by decide), if_neg (show ¬ ¬ (13 : Int32) = 13 from by decide), if_pos (show (13 : Int32) < 15 from by decide), e5]
    unfold sJump
    by_cases h5 : X 1 5 = 0
    · rw [if_neg (show ¬ ¬ X 1 5 = 0 from fun h => h h5), if_pos (show ¬ (13 : Int32) = 14 from by decide), if_pos (show ¬ (13 : Int32) = 16 from by decide), if_pos rfl, if_pos (Or.inl ⟨rfl, h5⟩)]
      exact Ok.w (Ok.ret (H.u1 (k := 3) (by decide)))
    · rw [if_pos h5, if_pos (show ¬ (13 : Int32) = 16 from by decide), if_neg z10, if_neg (show ¬ (((13 : Int32) = 13 ∧ X 1 5 = 0) ∨ ((13 : Int32) = 14 ∧ X 1 6 = 0)) from fun h => h.elim (fun h => h5 h.2) (fun h => absurd h.1 (by decide)))]
      exact Ok.w (Ok.ret (H.u1 (k := 3) (by decide)))
  · rw [if_pos (by decide), if_pos (by decide), if_neg (by decide), if_neg (by decide), if_pos (show ¬ (14 : Int32) = 13 from by decide), if_neg (show ¬ ¬ (14 : Int32) = 14 from by decide), if_pos (show (14 : Int32) < 15 from by decide), e6]
    unfold sJump
    by_cases h6 : X 1 6 = 0
    · rw [if_pos h6, if_pos (show ¬ (14 : Int32) = 16 from by decide), if_pos rfl, if_pos (Or.inr ⟨rfl, h6⟩)]
      exact Ok.w (Ok.ret (H.u1 (k := 3) (by decide)))
    · rw [if_neg h6, if_pos (show ¬ (14 : Int32) = 16 from by decide), if_neg z10, if_neg (show ¬ (((14 : Int32) = 13 ∧ X 1 5 = 0) ∨ ((14 : Int32) = 14 ∧ X 1 6 = 0)) from fun h => h.elim (fun h => absurd h.1 (by decide)) (fun h => h6 h.2))]
      exact Ok.w (Ok.ret (H.u1 (k := 3) (by decide)))
  · have h1 := hpush (Or.inl rfl)
    obtain ⟨p, rfl⟩ : ∃ q, p = q + 1 := ⟨p - 1, by omega⟩
    rw [if_neg (show ¬ ¬ (15 : Int32) = 15 from by decide), if_neg (show ¬ (15 : Int32) < 15 from by decide)]
    unfold sStack
    rw [if_pos rfl, if_pos (one h1)]
    refine (M219 (kad := kad) (N := N) (Z := Z) H hs hs2 hw (by decide) hp (by omega) _).bind fun u J ⟨HJ, _⟩ => ?_
    rw [if_pos (show ¬ (15 : Int32) = 17 from by decide), if_neg (by decide), if_pos rfl, if_pos (show ¬ (15 : Int32) = 16 from by decide), if_neg z10]
    exact Ok.w (Ok.ret (HJ.u1 (k := 3) (by decide)))
  · have h1 := hpull (Or.inl rfl)
    rw [if_pos (by decide), if_pos (show ¬ (16 : Int32) = 17 from by decide), if_neg (by decide), if_neg (by decide), if_pos (show ¬ (16 : Int32) = 13 from by decide), if_pos (show ¬ (16 : Int32) = 14 from by decide), if_neg (show ¬ ¬ (16 : Int32) = 16 from by decide), if_neg (show ¬ (16 : Int32) < 15 from by decide)]
    unfold sStack
    rw [if_neg (by decide), if_neg (by decide), if_pos (big h1), if_pos rfl]
    refine (M220 (kad := kad) (N := N) (Z := Z) H hp h1).bind fun v J ⟨hv, HJ⟩ => ?_
    subst hv
    exact Ok.w (Ok.ret (HJ.u1 (k := 3) (by decide)))
  · have h1 := hpush (Or.inr rfl)
    obtain ⟨p, rfl⟩ : ∃ q, p = q + 1 := ⟨p - 1, by omega⟩
    rw [if_pos (by decide), if_neg (show ¬ ¬ (17 : Int32) = 17 from by decide), if_neg (show ¬ (17 : Int32) < 15 from by decide)]
    unfold sStack
    rw [if_neg (by decide), if_pos rfl, if_pos (one h1)]
    refine (M219 (kad := kad) (N := N) (Z := Z) H hs hs2 hw (by decide) hp (by omega) _).bind fun u J ⟨HJ, _⟩ => ?_
    rw [if_neg (by decide), if_neg (by decide), if_pos (show ¬ (17 : Int32) = 13 from by decide), if_pos (show ¬ (17 : Int32) = 14 from by decide), if_pos (show ¬ (17 : Int32) = 16 from by decide), if_pos rfl]
    refine Ok.w (Ok.ret ?_)
    unfold sGo
    rw [sPush_lo (by decide) (by decide) (by decide)]
    exact HJ.u1 (k := 3) (by decide)
  · have h1 := hpull (Or.inr rfl)
    rw [if_pos (by decide), if_pos (show ¬ (18 : Int32) = 17 from by decide), if_neg (by decide), if_neg (by decide), if_pos (show ¬ (18 : Int32) = 13 from by decide), if_pos (show ¬ (18 : Int32) = 14 from by decide), if_pos (show ¬ (18 : Int32) = 16 from by decide), if_pos rfl, if_neg (show ¬ (18 : Int32) < 15 from by decide)]
    unfold sStack
    rw [if_neg (by decide), if_neg (by decide), if_pos (big h1), if_neg (by decide)]
    refine Ok.w ?_
    rw [if_neg (show ¬ ¬ (18 : Int32) = 18 from by decide)]
    have H2 := H.u1 (k := 3) (v := X 1 3 + 2) (by decide)
    refine (M220 (kad := kad) (N := N) (Z := Z) H2 (by rw [up2_ne (by decide)]; exact hp) h1).bind fun v J ⟨hv, HJ⟩ => ?_
    subst hv
    rw [ixA_of hd, Option.bind_some, sSet_of hd, sPullV_up]
    refine Ok.w (Ok.ret ?_)
    have H3 := HJ.u2 (v := sPullV X) hd
    have e14 : sPullX (up2 X 1 3 (X 1 3 + 2)) = up2 (sPullX X) 1 3 (X 1 3 + 2) := by
      unfold sPullX
      rw [up2_ne (by decide), up2_comm (c := 1) (k := 3) (by decide)]
    rw [e14, up2_comm (c := 1) (k := 3) (by omega)] at H3
    unfold sGo
    rw [up2_ne (by omega), show sPullX X 1 3 = X 1 3 from by unfold sPullX; rw [up2_ne (by decide)]]
    exact H3
end M3
