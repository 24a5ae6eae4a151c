/-! what the class's clerk makes of a file call -/
theorem sFind_at {D : Nat → Int32} {name : Int32} : ∀ (n e : Nat), e + n = 7 → sFind D name n e < 6 → D (40 + 4 * sFind D name n e) = name := by
  intro n
  induction n with
  | zero => intro e h h2; unfold sFind at h2; omega
  | succ n ih =>
    intro e h h2
    unfold sFind at h2 ⊢
    split
    · rename_i h3; rw [if_pos h3] at h2; omega
    · rename_i h3
      rw [if_neg h3] at h2
      split
      · rename_i h4; exact h4
      · rename_i h4
        rw [if_neg h4] at h2
        exact ih (e + 1) (by omega) h2
theorem sFind_no {D : Nat → Int32} {name : Int32} : ∀ (n e : Nat), e + n = 7 → ¬ sFind D name n e < 6 → ∀ t, e ≤ t → t < 6 → ¬ D (40 + 4 * t) = name := by
  intro n
  induction n with
  | zero => intro e h h2 t h3 h4; omega
  | succ n ih =>
    intro e h h2 t h3 h4
    unfold sFind at h2
    rw [if_neg (by omega)] at h2
    by_cases he : D (40 + 4 * e) = name
    · rw [if_pos he] at h2
      omega
    · rw [if_neg he] at h2
      by_cases h5 : t = e
      · rw [h5]; exact he
      · exact ih (e + 1) (by omega) h2 t (by omega) h4
theorem sFind_cong {D E : Nat → Int32} {name : Int32} (h : ∀ k, 40 ≤ k → k < 64 → E k = D k) : ∀ (n e : Nat), sFind E name n e = sFind D name n e := by
  intro n
  induction n with
  | zero => intro e; rfl
  | succ n ih =>
    intro e
    unfold sFind
    by_cases h6 : 6 ≤ e
    · rw [if_pos h6, if_pos h6]
    · rw [if_neg h6, if_neg h6, h _ (by omega) (by omega), ih]
theorem uB_cong {D E : Nat → Int32} {b : Nat} (hb : b < 32) (h : ∀ k, 32 ≤ k → k < 34 → E k = D k) : uB E b = uB D b := by
  unfold uB
  rw [h _ (by omega) (by omega)]
theorem sFree_cong {D E : Nat → Int32} (h : ∀ k, 32 ≤ k → k < 34 → E k = D k) : ∀ (n b : Nat), sFree E n b = sFree D n b := by
  intro n
  induction n with
  | zero => intro e; rfl
  | succ n ih =>
    intro b
    unfold sFree
    by_cases h6 : 32 ≤ b
    · rw [if_pos h6, if_pos h6]
    · rw [if_neg h6, if_neg h6, uB_cong (by omega) h, ih]
theorem p8 {x : Int32} (h : wd x) (h16 : nT x < 16) : (if (8 : Int32) ≤ x then 3 else 2) = 2 + nT x / 8 := by
  have e := of_nT (wd_nn h)
  by_cases h8 : 8 ≤ nT x
  · rw [if_pos (show (8 : Int32) ≤ x from by rw [← e]; exact (of_le (m := 8) (by decide) (by omega)).mpr h8)]
    omega
  · rw [if_neg (show ¬ (8 : Int32) ≤ x from fun hh => h8 (by rw [← e] at hh; exact (of_le (m := 8) (by decide) (by omega)).mp hh))]
    omega
theorem CW.open0 {X : AI} : CW (sOpen X) (X 9) sN := by
  unfold sOpen
  refine ⟨fun k hk => ?_, fun b hb => ?_⟩
  · rw [fl_b (by decide), cpI_at (by omega)]
    congr 1
    omega
  · rw [fl_at hb]
    exact ⟨fun _ => rfl, fun _ => rfl⟩
/-- a word is put at the end: which blocks -/
def pApS (t : Nat) (D : Nat → Int32) : Nat → Bool := if nT (D (40 + 4 * t + 1)) % 8 = 0 then sA (sA (sA (sA (sA sN 4) (5 + t / 2)) (sFree D 25 8)) (sFree D 25 8)) (5 + t / 2) else sA (sA sN (nT (D (40 + 4 * t + (2 + nT (D (40 + 4 * t + 1)) / 8))))) (5 + t / 2)
def pApW (t : Nat) (w : Int32) (D : Nat → Int32) : Nat → Int32 := if nT (D (40 + 4 * t + 1)) % 8 = 0 then pApp1 t (sFree D 25 8) w D else pApp2 t (nT (D (40 + 4 * t + (2 + nT (D (40 + 4 * t + 1)) / 8)))) w D
theorem CW.app {X : AI} {D : Nat → Int32} (h9 : X 9 = D) (h : CW X D sN) (hD : LW D) {t : Nat} (ht : t < 6) (h16 : nT (D (40 + 4 * t + 1)) < 16) (hf : nT (D (40 + 4 * t + 1)) % 8 = 0 → sFree D 25 8 < 32) (w : Int32) : CW (sApp t w X) (pApW t w D) (pApS t D) := by
  have hs := hD.1 (40 + 4 * t + 1) (by omega)
  unfold sApp pApW pApS
  rw [h9]
  dsimp only
  rw [p8 hs h16]
  by_cases h8 : nT (D (40 + 4 * t + 1)) % 8 = 0
  · have hb := hf h8
    rw [if_pos h8, if_pos h8, if_pos h8, if_pos hb]
    unfold sApp2 pApp1
    have h1 := (((h.on hb).pe (w := 2 + nT (D (40 + 4 * t + 1)) / 8) ht (Int32.ofNat (sFree D 25 8))).zero hb 7)
    exact (h1.put (p := nT (D (40 + 4 * t + 1)) % 8) hb w).pe (w := 1) ht (D (40 + 4 * t + 1) + 1)
  · rw [if_neg h8, if_neg h8, if_neg h8]
    unfold sApp2 pApp2
    obtain ⟨b1, b2, b3⟩ := (hD.2 t ht).blk2 rfl h16 h8
    have hx := wd_nn (hD.1 (40 + 4 * t + (2 + nT (D (40 + 4 * t + 1)) / 8)) (by omega))
    exact (h.putw (p := nT (D (40 + 4 * t + 1)) % 8) b3 hx w).pe (w := 1) ht (D (40 + 4 * t + 1) + 1)
theorem CW.rm1 {X : AI} {W : Nat → Int32} {S : Nat → Bool} (h : CW X W S) {x : Int32} (hx : wd x) (hb : nT x < 32) : CW (sRm1 x X) (pOff x W) (if x = 0 then S else sA S 4) := by
  unfold sRm1 pOff
  by_cases h0 : x = 0
  · rw [if_pos h0, if_pos h0, if_pos h0]
    exact h
  · rw [if_neg h0, if_neg h0, if_neg h0]
    have := h.off hb
    rwa [of_nT (wd_nn hx)] at this
theorem CW.rm {X : AI} {D : Nat → Int32} (h9 : X 9 = D) (h : CW X D sN) (hD : LW D) {t : Nat} (ht : t < 6) : CW (sRm t X) (pRm t D) (pRmS t D) := by
  unfold sRm pRm pRmS
  rw [h9]
  have h1 := (h.rm1 (hD.1 (40 + 4 * t + 2) (by omega)) ((hD.2 t ht).b32 (Or.inl rfl))).rm1 (hD.1 (40 + 4 * t + 3) (by omega)) ((hD.2 t ht).b32 (Or.inr rfl))
  have h2 := (((h1.pe (w := 0) ht 0).pe (w := 1) ht 0).pe (w := 2) ht 0).pe (w := 3) ht 0
  rw [sA_2, sA_2, sA_2] at h2
  exact h2
/-- what comes of a call that changes blocks -/
def pW (call : Int32) (X : AI) : Nat → Int32 :=
  if call = 0 then wP (X 9) (40 + 4 * sFind (X 9) 0 7 0) (X 2 0)
  else if call = 1 then pApW (sE X) (X 2 1) (X 9)
  else if call = 2 then wP (X 9) (8 * nT (X 9 (40 + 4 * sE X + (2 + nT (X 2 1) / 8))) + nT (X 2 1) % 8) (X 2 2)
  else if call = 5 then pRm (sE X) (X 9)
  else wP (if sFind (X 9) (X 2 1) 7 0 < 6 then pRm (sFind (X 9) (X 2 1) 7 0) (X 9) else X 9) (40 + 4 * sE X) (X 2 1)
def pS (call : Int32) (X : AI) : Nat → Bool :=
  if call = 0 then sA sN (5 + sFind (X 9) 0 7 0 / 2)
  else if call = 1 then pApS (sE X) (X 9)
  else if call = 2 then sA sN (nT (X 9 (40 + 4 * sE X + (2 + nT (X 2 1) / 8))))
  else if call = 5 then pRmS (sE X) (X 9)
  else sA (if sFind (X 9) (X 2 1) 7 0 < 6 then pRmS (sFind (X 9) (X 2 1) 7 0) (X 9) else sN) (5 + sE X / 2)
/-- such a call -/
def isC (call : Int32) (X : AI) : Prop := (call = 0 ∨ call = 1 ∨ call = 2 ∨ call = 5 ∨ (call = 6 ∧ ¬ X 2 0 = X 2 1)) ∧ sRefuse call X = 0
theorem sE_at {X : AI} (h : sE X < 6) : X 9 (40 + 4 * sE X) = X 2 0 ∧ ¬ X 2 0 = 0 := by
  unfold sE at h ⊢
  by_cases h0 : X 2 0 = 0
  · rw [if_pos h0] at h
    omega
  · rw [if_neg h0] at h ⊢
    exact ⟨sFind_at 7 0 rfl h, h0⟩
/-- what such a call may take as given -/
theorem isC.facts {call : Int32} {X : AI} (h : isC call X) (hw : wdk X) : (call = 0 → sFind (X 9) 0 7 0 < 6 ∧ ¬ X 2 0 = 0) ∧ (¬ call = 0 → sE X < 6) ∧ (call = 1 → nT (X 9 (40 + 4 * sE X + 1)) < 16 ∧ (nT (X 9 (40 + 4 * sE X + 1)) % 8 = 0 → sFree (X 9) 25 8 < 32)) ∧ (call = 2 → nT (X 2 1) < nT (X 9 (40 + 4 * sE X + 1))) ∧ (call = 6 → ¬ X 2 1 = 0) := by
  have hr := h.2
  have hz := sRefuse0 hr
  unfold sRefuse at hr
  refine ⟨fun h0 => ⟨hz.1 h0, fun hh => ?_⟩, hz.2, fun h1 => ?_, fun h2 => ?_, fun h6 hh => ?_⟩
  · rw [if_pos h0, if_pos (Or.inr hh)] at hr
    exact absurd hr (by decide)
  · have h0 : ¬ call = 0 := by rw [h1]; decide
    have ht := hz.2 h0
    have hs := hw.1 (40 + 4 * sE X + 1) (by omega)
    rw [if_neg h0, if_neg (show ¬ (¬ sE X < 6 ∨ (call = 6 ∧ X 2 1 = 0)) from fun hh => hh.elim (fun hh => hh ht) (fun hh => absurd (h1.symm.trans hh.1) (by decide))), if_pos h1] at hr
    split at hr
    · exact absurd hr (by decide)
    · rename_i h16
      split at hr
      · exact absurd hr (by decide)
      · rename_i hf
        refine ⟨?_, fun h8 => ?_⟩
        · rw [← of_nT (wd_nn hs)] at h16
          have h5 := (wd_n hs).2.1
          exact Nat.lt_of_not_le (fun hh => h16 ((of_le (m := 16) (by decide) (by omega)).mpr hh))
        · exact Decidable.byContradiction fun hh => hf ⟨h8, hh⟩
  · have h0 : ¬ call = 0 := by rw [h2]; decide
    have ht := hz.2 h0
    have hs := hw.1 (40 + 4 * sE X + 1) (by omega)
    have hr1 := hw.2 1 (by decide)
    rw [if_neg h0, if_neg (show ¬ (¬ sE X < 6 ∨ (call = 6 ∧ X 2 1 = 0)) from fun hh => hh.elim (fun hh => hh ht) (fun hh => absurd (h2.symm.trans hh.1) (by decide))), if_neg (by rw [h2]; decide)] at hr
    split at hr
    · exact absurd hr (by decide)
    · rename_i hh
      refine Nat.lt_of_not_le fun hle => hh ⟨Or.inl h2, ?_⟩
      rw [← of_nT (wd_nn hs), ← of_nT (wd_nn hr1)]
      have h5 := (wd_n hs).2.1
      have h6 := (wd_n hr1).2.1
      exact (of_le (by omega) (by omega)).mpr hle
  · have h0 : ¬ call = 0 := by rw [h6]; decide
    rw [if_neg h0, if_pos (Or.inr ⟨h6, hh⟩)] at hr
    exact absurd hr (by decide)
theorem isC.ne {call : Int32} {X : AI} (h : isC call X) (h0 : ¬ call = 0) (h1 : ¬ call = 1) (h2 : ¬ call = 2) (h5 : ¬ call = 5) : call = 6 ∧ ¬ X 2 0 = X 2 1 := by
  rcases h.1 with h | h | h | h | h
  · exact absurd h h0
  · exact absurd h h1
  · exact absurd h h2
  · exact absurd h h5
  · exact h
theorem isC.o_ne {X : AI} (hE : sE X < 6) (hn : ¬ X 2 0 = X 2 1) : ¬ sFind (X 9) (X 2 1) 7 0 = sE X := fun hh => by
  have h1 := sFind_at (D := X 9) (name := X 2 1) 7 0 rfl (by rw [hh]; exact hE)
  rw [hh, (sE_at hE).1] at h1
  exact hn h1
theorem carry_c {call : Int32} {X : AI} (h : isC call X) (hw : wdk X) (hD : WF (X 9)) : CW (sCarry call (sOpen X)) (pW call X) (pS call X) := by
  obtain ⟨f0, fE, f1, f2, f6⟩ := h.facts hw
  have o9 : sOpen X 9 = X 9 := sOpen_o (by decide)
  have o2 : sOpen X 2 = X 2 := sOpen_o (by decide)
  have oE : sE (sOpen X) = sE X := sE_cong o2 o9
  have hO : CW (sOpen X) (X 9) sN := CW.open0
  unfold sCarry pW pS
  rw [oE, o9, o2]
  dsimp only
  by_cases c0 : call = 0
  · rw [if_pos c0, if_pos c0, if_pos c0]
    exact hO.pe (w := 0) (f0 c0).1 _
  have ht := fE c0
  rw [if_neg c0, if_neg c0, if_neg c0]
  by_cases c1 : call = 1
  · rw [if_pos c1, if_pos c1, if_pos c1]
    exact CW.app o9 hO hD.1 ht (f1 c1).1 (f1 c1).2 _
  rw [if_neg c1, if_neg c1, if_neg c1]
  by_cases c2 : call = 2
  · rw [if_pos c2, if_pos c2, if_pos c2]
    have hlt := f2 c2
    have h16 := (hD.1.2 (sE X) ht).2.1
    obtain ⟨b1, b2, b3⟩ := (hD.1.2 (sE X) ht).blk hlt
    have hx := wd_nn (hD.1.1 (40 + 4 * sE X + (2 + nT (X 2 1) / 8)) (by omega))
    rw [p8 (hw.2 1 (by decide)) (by omega)]
    exact hO.putw (p := nT (X 2 1) % 8) b3 hx _
  rw [if_neg c2, if_neg c2, if_neg c2]
  have c3 : ¬ call = 3 ∧ ¬ call = 4 := by
    rcases h.1 with h | h | h | h | h
    · exact absurd h c0
    · exact absurd h c1
    · exact absurd h c2
    · rw [h]; decide
    · rw [h.1]; decide
  rw [if_neg c3.1, if_neg c3.2]
  by_cases c5 : call = 5
  · rw [if_pos c5, if_pos c5, if_pos c5]
    exact CW.rm o9 hO hD.1 ht
  rw [if_neg c5, if_neg c5, if_neg c5]
  obtain ⟨c6, hn⟩ := h.ne c0 c1 c2 c5
  unfold sRen
  rw [o9]
  dsimp only
  rw [if_neg (isC.o_ne ht hn)]
  by_cases ho : sFind (X 9) (X 2 1) 7 0 < 6
  · rw [if_pos ho, if_pos ho, if_pos ho]
    exact (CW.rm o9 hO hD.1 ho).pe (w := 0) ht _
  · rw [if_neg ho, if_neg ho, if_neg ho]
    exact hO.pe (w := 0) ht _
theorem pW_WF {call : Int32} {X : AI} (h : isC call X) (hw : wdk X) (hD : WF (X 9)) : WF (pW call X) := by
  obtain ⟨f0, fE, f1, f2, f6⟩ := h.facts hw
  unfold pW
  by_cases c0 : call = 0
  · rw [if_pos c0]
    refine hD.name (f0 c0).1 (hw.2 0 (by decide)) (f0 c0).2 (fun t' ht' hn he => ?_)
    have hr := h.2
    unfold sRefuse at hr
    rw [if_pos c0] at hr
    by_cases hE : sE X < 6 ∨ X 2 0 = 0
    · rw [if_pos hE] at hr
      exact absurd hr (by decide)
    · have hE' : ¬ sFind (X 9) (X 2 0) 7 0 < 6 := fun hh => hE (Or.inl (by unfold sE; rw [if_neg (f0 c0).2]; exact hh))
      exact sFind_no 7 0 rfl hE' t' (Nat.zero_le _) ht' he.symm
  have ht := fE c0
  obtain ⟨n1, n2⟩ := sE_at ht
  rw [if_neg c0]
  by_cases c1 : call = 1
  · rw [if_pos c1]
    obtain ⟨h16, hf⟩ := f1 c1
    unfold pApW
    by_cases h8 : nT (X 9 (40 + 4 * sE X + 1)) % 8 = 0
    · rw [if_pos h8]
      have hfr := sFree_le (D := X 9) 25 8 rfl (by decide)
      exact hD.app1 ht hfr.2 (hf h8) (sFree_un 25 8 rfl (hf h8)) (by rw [n1]; exact n2) h16 h8 (hw.2 1 (by decide))
    · rw [if_neg h8]
      obtain ⟨b1, b2, b3⟩ := (hD.1.2 (sE X) ht).blk2 rfl h16 h8
      exact hD.app2 ht b2 (by rw [n1]; exact n2) h16 h8 (hw.2 1 (by decide))
  rw [if_neg c1]
  by_cases c2 : call = 2
  · rw [if_pos c2]
    obtain ⟨b1, b2, b3⟩ := (hD.1.2 (sE X) ht).blk (f2 c2)
    exact hD.data (by omega) (hw.2 2 (by decide))
  rw [if_neg c2]
  by_cases c5 : call = 5
  · rw [if_pos c5]
    exact hD.rm ht
  rw [if_neg c5]
  obtain ⟨c6, hn⟩ := h.ne c0 c1 c2 c5
  split
  · rename_i ho
    refine (hD.rm ho).name ht (hw.2 1 (by decide)) (f6 c6) (fun t' ht' hn he => ?_)
    by_cases e : t' = sFind (X 9) (X 2 1) 7 0
    · rw [e] at he
      have : pRm (sFind (X 9) (X 2 1) 7 0) (X 9) (40 + 4 * sFind (X 9) (X 2 1) 7 0) = 0 := by
        unfold pRm
        rw [wP_ne (by omega), wP_ne (by omega), wP_ne (by omega), wP_eq]
      exact f6 c6 (he.trans this)
    · rw [pRm_o (hD.1.2 _ ho) (by omega) (by omega)] at he
      have ha := sFind_at (D := X 9) (name := X 2 1) 7 0 rfl ho
      exact e (hD.2.2.2.1 _ _ ho ht' (by rw [ha]; exact f6 c6) (by rw [ha]; exact he)).symm
  · rename_i ho
    exact hD.name ht (hw.2 1 (by decide)) (f6 c6) (fun t' ht' hn he => sFind_no 7 0 rfl ho t' (Nat.zero_le _) ht' he.symm)
/-! how many blocks are changed -/
def cS (S : Nat → Bool) : Nat → Nat → Nat
  | 0, _ => 0
  | n + 1, b => (if S b = true then 1 else 0) + cS S n (b + 1)
theorem cS_3 {S : Nat → Bool} {x y z : Nat} (h : ∀ c, S c = true → c = x ∨ c = y ∨ c = z) : ∀ (n b : Nat), cS S n b ≤ (if b ≤ x ∧ x < b + n then 1 else 0) + (if b ≤ y ∧ y < b + n then 1 else 0) + (if b ≤ z ∧ z < b + n then 1 else 0) := by
  intro n
  induction n with
  | zero => intro b; unfold cS; omega
  | succ n ih =>
    intro b
    have h1 := ih (b + 1)
    unfold cS
    have mono : ∀ w, (if b + 1 ≤ w ∧ w < b + 1 + n then 1 else 0) ≤ (if b ≤ w ∧ w < b + (n + 1) then 1 else 0) := fun w => by
      split
      · rw [if_pos (by omega)]; exact Nat.le_refl _
      · exact Nat.zero_le _
    have here : ∀ w, w = b → (if b + 1 ≤ w ∧ w < b + 1 + n then 1 else 0) = 0 ∧ (if b ≤ w ∧ w < b + (n + 1) then 1 else 0) = 1 := fun w hw => by
      rw [if_neg (by omega), if_pos (by omega)]
      exact ⟨rfl, rfl⟩
    have mx := mono x
    have my := mono y
    have mz := mono z
    by_cases hs : S b = true
    · rw [if_pos hs]
      rcases h b hs with hb | hb | hb
      · have := here x hb.symm; omega
      · have := here y hb.symm; omega
      · have := here z hb.symm; omega
    · rw [if_neg hs]
      omega
theorem cS_pos {S : Nat → Bool} {x : Nat} (h : S x = true) : ∀ (n b : Nat), b ≤ x → x < b + n → 1 ≤ cS S n b := by
  intro n
  induction n with
  | zero => intro b h1 h2; omega
  | succ n ih =>
    intro b h1 h2
    unfold cS
    by_cases hb : x = b
    · rw [← hb, if_pos h]
      omega
    · have := ih (b + 1) (by omega) (by omega)
      omega
theorem sA_t {S : Nat → Bool} {b c : Nat} : sA S b c = true ↔ S c = true ∨ c = b := by
  unfold sA
  rw [Bool.or_eq_true, decide_eq_true_eq]
theorem sN_t {c : Nat} : ¬ sN c = true := by
  unfold sN
  decide
/-- one to three blocks, from the map on -/
theorem pS_3 {call : Int32} {X : AI} (h : isC call X) (hw : wdk X) (hD : WF (X 9)) : (∃ x y z, ∀ c, pS call X c = true → c = x ∨ c = y ∨ c = z) ∧ (∃ x, x < 32 ∧ pS call X x = true) ∧ (∀ c, pS call X c = true → 4 ≤ c ∧ c < 32) := by
  obtain ⟨f0, fE, f1, f2, f6⟩ := h.facts hw
  have rmS : ∀ t, t < 6 → (∀ c, pRmS t (X 9) c = true → c = 4 ∨ c = 5 + t / 2) := fun t ht c hc => by
    unfold pRmS at hc
    rw [sA_t] at hc
    rcases hc with hc | hc
    · left
      split at hc
      · split at hc
        · exact absurd hc sN_t
        · rw [sA_t] at hc
          exact hc.resolve_left sN_t
      · rw [sA_t] at hc
        rcases hc with hc | hc
        · split at hc
          · exact absurd hc sN_t
          · rw [sA_t] at hc
            exact hc.resolve_left sN_t
        · exact hc
    · exact Or.inr hc
  unfold pS
  by_cases c0 : call = 0
  · rw [if_pos c0]
    have ht := (f0 c0).1
    refine ⟨⟨5 + sFind (X 9) 0 7 0 / 2, 0, 0, fun c hc => ?_⟩, ⟨5 + sFind (X 9) 0 7 0 / 2, by omega, by rw [sA_t]; exact Or.inr rfl⟩, fun c hc => ?_⟩
    · rw [sA_t] at hc; exact Or.inl (hc.resolve_left sN_t)
    · rw [sA_t] at hc; have := hc.resolve_left sN_t; omega
  have ht := fE c0
  rw [if_neg c0]
  by_cases c1 : call = 1
  · rw [if_pos c1]
    obtain ⟨h16, hf⟩ := f1 c1
    unfold pApS
    by_cases h8 : nT (X 9 (40 + 4 * sE X + 1)) % 8 = 0
    · rw [if_pos h8]
      have hfr := sFree_le (D := X 9) 25 8 rfl (by decide)
      have hf8 := hf h8
      have key : ∀ c, sA (sA (sA (sA (sA sN 4) (5 + sE X / 2)) (sFree (X 9) 25 8)) (sFree (X 9) 25 8)) (5 + sE X / 2) c = true → c = 4 ∨ c = 5 + sE X / 2 ∨ c = sFree (X 9) 25 8 := fun c hc => by
        rw [sA_t, sA_t, sA_t, sA_t, sA_t] at hc
        rcases hc with (((((hc | hc) | hc) | hc) | hc) | hc)
        · exact absurd hc sN_t
        · exact Or.inl hc
        · exact Or.inr (Or.inl hc)
        · exact Or.inr (Or.inr hc)
        · exact Or.inr (Or.inr hc)
        · exact Or.inr (Or.inl hc)
      refine ⟨⟨_, _, _, key⟩, ⟨4, by decide, ?_⟩, fun c hc => ?_⟩
      · rw [sA_t, sA_t, sA_t, sA_t, sA_t]
        exact Or.inl (Or.inl (Or.inl (Or.inl (Or.inr rfl))))
      · have := key c hc
        omega
    · rw [if_neg h8]
      obtain ⟨b1, b2, b3⟩ := (hD.1.2 (sE X) ht).blk2 rfl h16 h8
      have key : ∀ c, sA (sA sN (nT (X 9 (40 + 4 * sE X + (2 + nT (X 9 (40 + 4 * sE X + 1)) / 8))))) (5 + sE X / 2) c = true → c = nT (X 9 (40 + 4 * sE X + (2 + nT (X 9 (40 + 4 * sE X + 1)) / 8))) ∨ c = 5 + sE X / 2 ∨ c = 0 := fun c hc => by
        rw [sA_t, sA_t] at hc
        rcases hc with (hc | hc) | hc
        · exact absurd hc sN_t
        · exact Or.inl hc
        · exact Or.inr (Or.inl hc)
      refine ⟨⟨_, _, _, key⟩, ⟨5 + sE X / 2, by omega, by rw [sA_t]; exact Or.inr rfl⟩, fun c hc => ?_⟩
      rw [sA_t, sA_t] at hc
      rcases hc with (hc | hc) | hc
      · exact absurd hc sN_t
      · omega
      · omega
  rw [if_neg c1]
  by_cases c2 : call = 2
  · rw [if_pos c2]
    obtain ⟨b1, b2, b3⟩ := (hD.1.2 (sE X) ht).blk (f2 c2)
    refine ⟨⟨nT (X 9 (40 + 4 * sE X + (2 + nT (X 2 1) / 8))), 0, 0, fun c hc => ?_⟩, ⟨nT (X 9 (40 + 4 * sE X + (2 + nT (X 2 1) / 8))), b3, by rw [sA_t]; exact Or.inr rfl⟩, fun c hc => ?_⟩
    · rw [sA_t] at hc; exact Or.inl (hc.resolve_left sN_t)
    · rw [sA_t] at hc; have := hc.resolve_left sN_t; omega
  rw [if_neg c2]
  by_cases c5 : call = 5
  · rw [if_pos c5]
    refine ⟨⟨4, 5 + sE X / 2, 0, fun c hc => ?_⟩, ⟨5 + sE X / 2, by omega, by unfold pRmS; rw [sA_t]; exact Or.inr rfl⟩, fun c hc => ?_⟩
    · rcases rmS _ ht c hc with h | h
      · exact Or.inl h
      · exact Or.inr (Or.inl h)
    · rcases rmS _ ht c hc with h | h <;> omega
  rw [if_neg c5]
  have key : ∀ c, sA (if sFind (X 9) (X 2 1) 7 0 < 6 then pRmS (sFind (X 9) (X 2 1) 7 0) (X 9) else sN) (5 + sE X / 2) c = true → (c = 4 ∨ c = 5 + sFind (X 9) (X 2 1) 7 0 / 2 ∨ c = 5 + sE X / 2) ∧ 4 ≤ c ∧ c < 32 := fun c hc => by
    rw [sA_t] at hc
    rcases hc with hc | hc
    · split at hc
      · rename_i ho
        rcases rmS _ ho c hc with h | h
        · exact ⟨Or.inl h, by omega, by omega⟩
        · exact ⟨Or.inr (Or.inl h), by omega, by omega⟩
      · exact absurd hc sN_t
    · exact ⟨Or.inr (Or.inr hc), by omega, by omega⟩
  exact ⟨⟨_, _, _, fun c hc => (key c hc).1⟩, ⟨5 + sE X / 2, by omega, by rw [sA_t]; exact Or.inr rfl⟩, fun c hc => (key c hc).2⟩
