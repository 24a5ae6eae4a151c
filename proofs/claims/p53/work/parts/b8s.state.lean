/-! p53: what a machine's words are while it is on: state, fault, a call that goes on, blocks written; the disk is whole without a call -/
def sR (X : AI) : Prop := X 1 0 = 1 ∧ X 1 1 = 0
def sT (X : AI) : Prop := sR X ∨ (X 3 0 = 0 ∧ ((X 1 0 = 2 ∧ X 1 1 = 0) ∨ (X 1 0 = 3 ∧ (X 1 1 = 1 ∨ X 1 1 = 2 ∨ X 1 1 = 3 ∨ X 1 1 = 4))))
section STT
variable {X Y : AI} {c k : Nat} {v w x y op d call : Int32}
theorem sR.u (h : sR X) (hc : ¬ (c = 1 ∧ (k = 0 ∨ k = 1))) : sR (up2 X c k v) := by
  unfold sR
  rw [up2_ne (fun hh => hc ⟨hh.1.symm, Or.inl hh.2.symm⟩), up2_ne (fun hh => hc ⟨hh.1.symm, Or.inr hh.2.symm⟩)]
  exact h
theorem sR.b (h : sR X) (h0 : Y 1 0 = X 1 0) (h1 : Y 1 1 = X 1 1) : sR Y := by
  unfold sR
  rw [h0, h1]
  exact h
theorem sR.cg (h : sR X) (h1 : Y 1 = X 1) : sR Y := h.b (by rw [h1]) (by rw [h1])
theorem sR.go (h : sR X) : sR (sGo X) := h.u (by decide)
theorem sR.set (h : sR X) : sR (sSet v w X) := h.cg (sSet_o (by decide))
theorem sR.wr (h : sR X) : sR (sWr v w X) := h.cg (sWr_o (by decide))
theorem sR.push (h : sR X) : sR (sPush w X) := h.b (sPush_lo (by decide) (by decide) (by decide)) (sPush_lo (by decide) (by decide) (by decide))
theorem sR.pull (h : sR X) : sR (sPullX X) := h.u (by decide)
theorem sR.t (h : sR X) : sT X := Or.inl h
theorem sT.fail (hz : X 3 0 = 0) (hx : x = 1 ∨ x = 2 ∨ x = 3 ∨ x = 4) : sT (sFail x X) := by
  right
  unfold sFail
  rw [up2_b (by decide), up2_b (by decide), up2_ne (by decide), up2_eq, up2_eq]
  exact ⟨hz, Or.inr ⟨rfl, hx⟩⟩
theorem sT.b (h : sT X) (h0 : Y 1 0 = X 1 0) (h1 : Y 1 1 = X 1 1) (h3 : Y 3 0 = X 3 0) : sT Y := by
  unfold sT sR
  rw [h0, h1, h3]
  exact h
theorem sT.move (h : sR X) (hz : X 3 0 = 0) : sT (sMove op d y X) := by
  unfold sMove
  split
  · right
    rw [up2_b (by decide), up2_eq, up2_ne (by decide)]
    exact ⟨hz, Or.inl ⟨rfl, h.2⟩⟩
  · split
    · exact h.set.go.t
    · split
      · split
        · exact h.set.go.t
        · exact h.wr.go.t
      · exact sT.fail hz (Or.inl rfl)
theorem sR.calc (h : sR X) : sR (sCalc op d y X) := by
  unfold sCalc
  have h1 : sR (up2 (up2 X 1 6 (sLess op (sMade op (sReg X d) y))) 1 5 (if sW16 (sMade op (sReg X d) y) = 0 then 1 else 0)) := (h.u (by decide)).u (by decide)
  dsimp only
  split
  · exact h1.go
  · exact h1.set.go
theorem sR.jump (h : sR X) : sR (sJump op y X) := by
  unfold sJump
  split
  · exact h.go
  · exact h.u (by decide)
theorem sT.stack (h : sR X) (hz : X 3 0 = 0) : sT (sStack op d y X) := by
  have hf : sT (sFail 3 X) := sT.fail hz (Or.inr (Or.inr (Or.inl rfl)))
  unfold sStack
  split
  · split
    · exact (h.push.u (by decide)).t
    · exact hf
  · split
    · split
      · exact h.push.go.t
      · exact hf
    · split
      · split
        · exact (h.pull.u (by decide)).t
        · exact h.pull.set.go.t
      · exact hf
theorem sT.rti (h : sR X) (hz : X 3 0 = 0) : sT (sRti X) := by
  unfold sRti
  split
  · exact ((((h.pull.u (by decide)).u (by decide)).pull.u (by decide)).u (by decide)).t
  · exact sT.fail hz (Or.inr (Or.inr (Or.inl rfl)))
theorem sT.int (h : sR X) (hz : X 3 0 = 0) : sT (sInt X) := by
  unfold sInt
  split
  · have hY : sR (if X 1 8 = 0 then up2 X 1 9 0 else up2 X 1 8 0) := by
      split
      · exact h.u (by decide)
      · exact h.u (by decide)
    exact ((hY.push.push.u (by decide)).u (by decide)).t
  · exact sT.fail hz (Or.inr (Or.inr (Or.inl rfl)))
theorem sKeys_s : sKeys X 1 0 = X 1 0 ∧ sKeys X 1 1 = X 1 1 := by
  unfold sKeys
  split
  · exact ⟨up2_ne (by decide), up2_ne (by decide)⟩
  · exact ⟨rfl, rfl⟩
theorem sTime_s : sTime X 1 0 = X 1 0 ∧ sTime X 1 1 = X 1 1 := by
  unfold sTime
  try dsimp only
  split
  · exact ⟨rfl, rfl⟩
  split
  · exact ⟨by rw [up2_ne (by decide), up2_ne (by decide), up2_ne (by decide)], by rw [up2_ne (by decide), up2_ne (by decide), up2_ne (by decide)]⟩
  · exact ⟨up2_ne (by decide), up2_ne (by decide)⟩
theorem sT.keys (h : sT X) : sT (sKeys X) := h.b sKeys_s.1 sKeys_s.2 (congrFun (sKeys_o (by decide)) 0)
theorem sT.time (h : sT X) : sT (sTime X) := h.b sTime_s.1 sTime_s.2 (congrFun (sTime_o (by decide)) 0)
theorem sR.key (h : sR X) : sR (sKey d X) := by
  unfold sKey
  split
  · exact ((h.u (by decide)).set).go
  · exact h.set.go
theorem sT.tape (h : sR X) (hz : X 3 0 = 0) : sT (sTape w X) := by
  have hf : sT (sFail 4 X) := sT.fail hz (Or.inr (Or.inr (Or.inr rfl)))
  unfold sTape
  split
  · exact hf
  · split
    · exact (((h.u (fun hh => absurd hh.1 (by decide))).u (by decide)).go).t
    · exact hf
theorem sR.filex (h : sR X) : sR (sFileX call X) := h.cg (sFileX_o (by decide) (by decide) (by decide))
theorem sR.callf (h : sR X) : sR (sCallF call X) := by
  unfold sCallF
  split
  · exact (h.filex.u (by decide)).go
  · exact h.filex
theorem sT.ctl (h : sR X) (hz : X 3 0 = 0) : sT (sCtl op d y X) := by
  unfold sCtl
  repeat' split
  · exact (h.u (by decide)).go.t
  · exact (h.u (by decide)).go.t
  · exact sT.rti h hz
  · exact h.t
  · exact h.go.t
  · exact ((h.u (by decide)).u (by decide)).go.t
  · exact h.key.t
  · exact sT.tape h hz
  · exact h.callf.t
theorem sT.do (h : sR X) (hz : X 3 0 = 0) : sT (sDo op d y X) := by
  unfold sDo
  repeat' split
  · exact sT.move h hz
  · exact h.calc.t
  · exact h.jump.t
  · exact sT.stack h hz
  · exact sT.ctl h hz
  · exact sT.fail hz (Or.inr (Or.inl rfl))
theorem sT.ins (h : sR X) (hz : X 3 0 = 0) : sT (sIns X) := by
  unfold sIns
  split
  · exact sT.do h hz
  · exact sT.fail hz (Or.inl rfl)
theorem sR.wbl {b : Nat} {f : Nat → Int32} (h : sR X) : sR (sWBl b f X) := h.cg (sWBl_o (by decide))
theorem sR.done (h : sR X) : sR (sDone X) := by
  unfold sDone
  dsimp only
  split
  · exact ((((h.u (by decide)).u (by decide)).u (by decide)).u (by decide)).go
  · exact h.u (by decide)
theorem sR.wnb (h : sR X) : sR (sWNB X) := by
  unfold sWNB
  dsimp only
  refine sR.done ?_
  repeat' split
  all_goals exact h.wbl
/-- how many writes are left: none, or the machine is in a call -/
theorem FF.left (h : FF X) : (sLeft X = 0 ∧ FI X) ∨ ∃ n r, 1 ≤ n ∧ n ≤ 3 ∧ X 3 0 = Int32.ofNat n ∧ sLeft X = Int32.ofNat r ∧ 1 ≤ r ∧ r ≤ 8 := by
  rcases h with h | ⟨n, d, ⟨⟨⟨w1, w2, w3⟩, ⟨w4, w5⟩, -⟩, -⟩, -⟩
  · exact Or.inl ⟨by unfold sLeft; rw [if_pos h.1.1], h⟩
  · refine Or.inr ⟨n, 2 * n + 2 - d, w1, w2, w4, ?_, by omega, by omega⟩
    unfold sLeft
    rw [w4, w5, if_neg (of_nz (by omega) (by omega)), show (2 : Int32) * Int32.ofNat n = Int32.ofNat (2 * n) from eM 2 n, show Int32.ofNat (2 * n) + (2 : Int32) = Int32.ofNat (2 * n + 2) from eA _ 2]
    have : Int32.ofNat (2 * n + 2) = Int32.ofNat (2 * n + 2 - d) + Int32.ofNat d := by
      rw [eA]; congr 1; omega
    rw [this]
    grind
theorem sT.step (h : sR X) (hF : FF X) : sT (sStep X) := by
  have hB : sR (sBegin X) := h.cg (sBegin_lo (by decide))
  have hFB : FF (sBegin X) := hF.cong (sBegin_lo (by decide)) (sBegin_lo (by decide)) (sBegin_lo (by decide)) (sBegin_lo (by decide)) (by rw [sBegin_lo (by decide)])
  have hC : sT (sCore (sBegin X)) := by
    unfold sCore
    split
    · exact hB.wnb.t
    · rename_i hl
      have hz : sBegin X 3 0 = 0 := by
        rcases hFB.left with ⟨-, h2⟩ | ⟨n, r, -, -, -, h2, h3, h4⟩
        · exact h2.1.1
        · exact absurd (show 0 < sLeft (sBegin X) by rw [h2]; exact (of_lt (m := 0) (by decide) (by omega)).mpr (by omega)) hl
      split
      · exact sT.int hB hz
      · exact sT.ins hB hz
  unfold sStep
  exact (sT.time (sT.b hC (up2_ne (by decide)) (up2_ne (by decide)) (congrFun (up2_b (by decide)) 0))).keys
theorem sT.run (h : sT X) (h1 : X 1 0 = 1) : sR X := by
  rcases h with h | ⟨-, h | h⟩
  · exact h
  · rw [h.1] at h1; exact absurd h1 (by decide)
  · rw [h.1] at h1; exact absurd h1 (by decide)
theorem sT.tr {K B : AI} (hB : sT B) (hF : ∀ j, FF (tr K B j)) : ∀ j, (∀ i, i < j → tr K B i 1 0 = 1) → sT (tr K B j) := by
  intro j
  induction j with
  | zero => exact fun _ => (hB.b (Y := ov K B) (by rw [ov_r1]) (by rw [ov_r1]) (by rw [ov_r3])).keys
  | succ j ih => exact fun hr => sT.step ((ih (fun i hi => hr i (by omega))).run (hr j (by omega))) (hF j)
theorem sT.wake {M D : Nat → Int32} {W : Int32} : sT (wake M D W) := by
  refine Or.inl ⟨?_, ?_⟩
  · rw [wake_1, if_pos rfl]
  · rw [wake_1, if_neg (by decide), if_neg (by decide), if_neg (by decide)]
theorem wake_8 {M D : Nat → Int32} {W : Int32} {k : Nat} : wake M D W 8 k = W := by
  unfold wake
  rw [if_neg (by decide), if_neg (by decide), if_pos rfl]
/-- blocks written in a step -/
theorem sCtl_8 : sCtl op d y X 8 1 = X 8 1 := by
  unfold sCtl
  split
  · rw [sGo_o (by decide), up2_b (by decide)]
  split
  · rw [sGo_o (by decide), up2_b (by decide)]
  split
  · rw [sRti_o (by decide)]
  split
  · split
    · rfl
    · rw [sGo_o (by decide)]
  split
  · rw [sGo_o (by decide), up2_b (by decide), up2_b (by decide)]
  split
  · rw [sKey_o (by decide) (by decide)]
  split
  · rw [sTape_o (by decide) (by decide)]
  · rw [sCallF_o (by decide) (by decide) (by decide) (by decide)]
theorem sDo_8 : sDo op d y X 8 1 = X 8 1 := by
  unfold sDo
  split
  · split
    · split
      · split
        · split
          · rw [sMove_o (by decide) (by decide) (by decide)]
          · rw [sCalc_o (by decide) (by decide)]
        · rw [sJump_o (by decide)]
      · rw [sStack_o (by decide) (by decide) (by decide)]
    · exact sCtl_8
  · rw [sFail_o (by decide)]
theorem sWNB_8 : sWNB X 8 1 = X 8 1 + 1 := by
  unfold sWNB
  try dsimp only
  rw [sDone_o (by decide) (by decide) (by decide)]
  split
  · rw [sWBl_8, if_pos rfl]
  · split
    · rw [sWBl_8, if_pos rfl]
    · split
      · rw [sWBl_8, if_pos rfl]
      · rw [sWBl_8, if_pos rfl]
theorem sCore_8 : sCore X 8 1 = X 8 1 ∨ sCore X 8 1 = X 8 1 + 1 := by
  unfold sCore
  split
  · exact Or.inr sWNB_8
  · left
    split
    · rw [sInt_o (by decide) (by decide)]
    · unfold sIns
      split
      · exact sDo_8
      · rw [sFail_o (by decide)]
theorem sStep_8 : sStep X 8 1 = X 8 1 ∨ sStep X 8 1 = X 8 1 + 1 := by
  unfold sStep
  try dsimp only
  rw [sKeys_o (by decide), sTime_o (by decide), up2_b (by decide)]
  have h := sCore_8 (X := sBegin X)
  rw [sBegin_lo (by decide)] at h
  exact h
theorem tr_8 {K B : AI} : ∀ j, ∃ w, w ≤ j ∧ tr K B j 8 1 = B 8 1 + Int32.ofNat w := by
  intro j
  induction j with
  | zero => exact ⟨0, Nat.le_refl _, by rw [tr_0, sKeys_o (by decide), ov_r8]; show B 8 1 = B 8 1 + 0; grind⟩
  | succ j ih =>
    obtain ⟨w, w1, w2⟩ := ih
    rw [tr_s]
    rcases sStep_8 (X := tr K B j) with h | h
    · exact ⟨w, by omega, h.trans w2⟩
    · refine ⟨w + 1, by omega, ?_⟩
      rw [h, w2, ← of_s]
      grind
end STT
/-! a disk that is whole as far as calls need it is whole -/
section WHO
variable {D : Nat → Int32}
theorem sFind_lt {name : Int32} {t : Nat} (ht : t < 6) (hn : D (40 + 4 * t) = name) : ∀ (n e : Nat), e + n = 7 → e ≤ t → sFind D name n e ≤ t := by
  intro n
  induction n with
  | zero => intro e h h2; omega
  | succ n ih =>
    intro e h h2
    unfold sFind
    rw [if_neg (by omega)]
    split
    · exact h2
    · rename_i hne
      have : ¬ e = t := fun hh => hne (by rw [hh]; exact hn)
      exact ih (e + 1) (by omega) (by omega)
/-- the blocks of the entries so far -/
def bSo (D : Nat → Int32) (t : Nat) (S : Nat → Bool) : Prop := ∀ b, S b = true ↔ (b < 8 ∨ ∃ t' i, t' < t ∧ (i = 2 ∨ i = 3) ∧ ¬ D (40 + 4 * t' + i) = 0 ∧ nT (D (40 + 4 * t' + i)) = b)
theorem wS_t {t i b : Nat} {S : Nat → Bool} : wS D t i S b = true ↔ (S b = true ∨ (¬ D (40 + 4 * t + i) = 0 ∧ b = nT (D (40 + 4 * t + i)))) := by
  unfold wS
  by_cases h : D (40 + 4 * t + i) = 0
  · rw [if_pos h]
    exact ⟨Or.inl, fun hh => hh.elim id (fun hh => absurd h hh.1)⟩
  · rw [if_neg h, sA_t]
    exact ⟨fun hh => hh.elim Or.inl (fun hh => Or.inr ⟨h, hh⟩), fun hh => hh.elim Or.inl (fun hh => Or.inr hh.2)⟩
theorem WF.go (h : WF D) : ∀ (n t : Nat) (S : Nat → Bool), t + n = 6 → bSo D t S → wGo D n t S := by
  obtain ⟨⟨hwd, hl⟩, hm, hi, hx1, hx2⟩ := h
  intro n
  induction n with
  | zero =>
    intro t S ht hS b hb
    obtain rfl : t = 6 := by omega
    have h1 := hS b
    have h2 := hx2 b hb
    cases hs : S b <;> cases hu : uB D b
    · rfl
    · rw [hs] at h1
      exact absurd (h1.mpr (h2.mp hu)) (by decide)
    · rw [hu] at h2
      exact absurd (h2.mpr (h1.mp hs)) (by decide)
    · rfl
  | succ n ih =>
    intro t S ht hS
    have ht6 : t < 6 := by omega
    have key : ∀ i, (i = 2 ∨ i = 3) → ¬ D (40 + 4 * t + i) = 0 → ¬ S (nT (D (40 + 4 * t + i))) = true := fun i hi2 h0 hs => by
      have b8 := ((hl t ht6).2.2.2.2 i hi2 h0).1
      rcases (hS _).mp hs with h1 | ⟨t', i', h1, h2, h3, h4⟩
      · omega
      · have := (hi t' i' t i (by omega) ht6 h2 hi2 h3 (wd_inj (hwd _ (by omega)) (hwd _ (by omega)) h4)).1
        omega
    refine ⟨?_, ⟨fun hh => key 2 (Or.inl rfl) hh.1 hh.2, fun hh => ?_⟩, ih (t + 1) _ (by omega) (fun b => ?_)⟩
    · by_cases h0 : D (40 + 4 * t) = 0
      · exact Or.inl h0
      · right
        have hle := sFind_lt (D := D) ht6 rfl 7 0 rfl (Nat.zero_le _)
        have ha := sFind_at (D := D) (name := D (40 + 4 * t)) 7 0 rfl (by omega)
        exact hx1 _ t (by omega) ht6 (by rw [ha]; exact h0) ha
    · rcases wS_t.mp hh.2 with h1 | ⟨h1, h2⟩
      · exact key 3 (Or.inr rfl) hh.1 h1
      · exact absurd (hi t 3 t 2 ht6 ht6 (Or.inr rfl) (Or.inl rfl) hh.1 (wd_inj (hwd _ (by omega)) (hwd _ (by omega)) h2)).2 (by decide)
    · rw [wS_t, wS_t, hS b]
      constructor
      · rintro (((h1 | ⟨t', i, h1, h2, h3, h4⟩) | ⟨h1, h2⟩) | ⟨h1, h2⟩)
        · exact Or.inl h1
        · exact Or.inr ⟨t', i, by omega, h2, h3, h4⟩
        · exact Or.inr ⟨t, 2, by omega, Or.inl rfl, h1, h2.symm⟩
        · exact Or.inr ⟨t, 3, by omega, Or.inr rfl, h1, h2.symm⟩
      · rintro (h1 | ⟨t', i, h1, h2, h3, h4⟩)
        · exact Or.inl (Or.inl (Or.inl h1))
        · by_cases e : t' = t
          · rw [e] at h3 h4
            rcases h2 with rfl | rfl
            · exact Or.inl (Or.inr ⟨h3, h4.symm⟩)
            · exact Or.inr ⟨h3, h4.symm⟩
          · exact Or.inl (Or.inl (Or.inr ⟨t', i, by omega, h2, h3, h4⟩))
theorem WF.wh (h : WF D) (h0 : D 0 = 0) : isWh D := ⟨h0, h.go 6 0 S255 rfl (fun b => by
  unfold S255
  rw [decide_eq_true_eq]
  exact ⟨Or.inl, fun hh => hh.elim id (fun ⟨t', i, h1, _⟩ => absurd h1 (Nat.not_lt_zero _))⟩)⟩
end WHO
