/-! the file calls, carried out and begun; the instructions -/
theorem sRefuse0 {call : Int32} {X : AI} (h : sRefuse call X = 0) : (call = 0 → sFind (X 9) 0 7 0 < 6) ∧ (¬ call = 0 → sE X < 6) := by
  unfold sRefuse at h
  constructor
  · intro h0
    rw [if_pos h0] at h
    split at h
    · exact absurd h (by decide)
    · split at h
      · assumption
      · exact absurd h (by decide)
  · intro h0
    rw [if_neg h0] at h
    split at h
    · exact absurd h (by decide)
    · rename_i h1
      exact Decidable.byContradiction fun h2 => h1 (Or.inl h2)
section CF
variable {kad : Nat → Nat} {N : Nat} {e : Nat} {Z : AZ} {a κ : Nat} {I0 I X : AI}
theorem C29 (hN : 2000 ≤ N) (H : RC 1 Z a κ I0 I X) (hw : wdk X) (call : Int32) (h0 : call = 0 → sFind (X 9) 0 7 0 < 6) (h1 : ¬ call = 0 → sE X < 6) : Ok (f29 kad N Z (a + 13) call (sEI (sE X)) (a + 1) (a + 8) I) (fun _ J => RC 1 Z a κ I0 J (sCarry call X)) := by
  unfold f29 f29_b156 sCarry
  have r0 : ∀ J Y, RC 1 Z a κ I0 J Y → J (a + 1 + 1) 0 = Y 2 0 := fun J Y h => h.rd (c := 2) (k := 0)
  have r1 : ∀ J Y, RC 1 Z a κ I0 J Y → J (a + 1 + 1) 1 = Y 2 1 := fun J Y h => h.rd (c := 2) (k := 1)
  have r2 : ∀ J Y, RC 1 Z a κ I0 J Y → J (a + 1 + 1) 2 = Y 2 2 := fun J Y h => h.rd (c := 2) (k := 2)
  have ix0 : ixA 4 (0 : Int32) = some 0 := by decide
  have ix1 : ixA 4 (1 : Int32) = some 1 := by decide
  have ix2 : ixA 4 (2 : Int32) = some 2 := by decide
  have hr1 := wd_nn (hw.2 1 (by decide))
  by_cases c0 : call = 0
  · simp only [if_pos c0]
    refine (C51 hN H 0).bind fun v J ⟨hv, hJ⟩ => ?_
    subst hv hJ
    simp only [if_pos (h0 c0)]
    rw [ix0, Option.bind_some, r0 _ _ H]
    exact (C34 H (t := sFind (X 9) 0 7 0) (w := 0) (h0 c0) (by decide) _).bind fun v J HJ => Ok.ret HJ
  have ht := h1 c0
  have e1 : sEI (sE X) = Int32.ofNat (sE X) := by unfold sEI; rw [if_pos ht]
  rw [e1]
  simp only [if_neg c0]
  by_cases c1 : call = 1
  · simp only [if_pos c1]
    rw [ix1, Option.bind_some, r1 _ _ H]
    exact (C30 hN H hw ht _).bind fun v J HJ => Ok.ret HJ
  simp only [if_neg c1]
  by_cases c2 : call = 2
  · simp only [if_pos c2]
    rw [ix1, Option.bind_some, r1 _ _ H]
    refine (C53 H ht _).bind fun v J ⟨hv, hJ⟩ => ?_
    subst hv hJ
    dsimp only
    rw [ix2, Option.bind_some, Option.bind_some, r1 _ _ H, r2 _ _ H, mod8 hr1]
    exact (C35 H _ (p := nT (X 2 1) % 8) (by omega) _).bind fun v J HJ => Ok.ret HJ
  simp only [if_neg c2]
  by_cases c3 : call = 3
  · simp only [if_pos c3]
    rw [ix1, Option.bind_some, r1 _ _ H]
    refine (C54 H ht hr1).bind fun v J ⟨hv, hJ⟩ => ?_
    subst hv hJ
    simp only [ix2, Option.bind_some]
    exact Ok.w (Ok.ret (H.up (c := 2) (k := 2)))
  simp only [if_neg c3]
  by_cases c4 : call = 4
  · simp only [if_pos c4]
    refine (C50 H (t := sE X) (w := 1) ht (by decide)).bind fun v J ⟨hv, hJ⟩ => ?_
    subst hv hJ
    simp only [ix1, Option.bind_some]
    exact Ok.w (Ok.ret (H.up (c := 2) (k := 1)))
  simp only [if_neg c4]
  by_cases c5 : call = 5
  · simp only [if_pos c5]
    exact (C31 hN H ht).bind fun v J HJ => Ok.ret HJ
  simp only [if_neg c5]
  rw [ix1, Option.bind_some, r1 _ _ H]
  exact (C32 hN H ht _).bind fun v J HJ => Ok.ret HJ
theorem C26_a (ha : sh8 kad Z a) : ∀ (n b F : Nat) (I X : AI), b + n = 32 → n < F → RC 1 Z a κ I0 I X → cnt X → Ok (f26_b108 kad N Z F (a + 13) (a + 1) (a + 8) (Int32.ofNat b) I) (fun v J => v = 0 ∧ RC 1 Z a κ I0 J (sAdds n b X) ∧ cnt (sAdds n b X)) := by
  intro n
  induction n with
  | zero =>
    intro b F I X hb hF H hc
    obtain ⟨F, rfl⟩ : ∃ G, F = G + 1 := ⟨F - 1, by omega⟩
    unfold f26_b108 sAdds
    rw [if_pos (show (32 : Int32) ≤ Int32.ofNat b from (of_le (m := 32) (by decide) (by omega)).mpr (by omega))]
    exact Ok.ret ⟨rfl, H, hc⟩
  | succ n ih =>
    intro b F I X hb hF H hc
    obtain ⟨F, rfl⟩ : ∃ G, F = G + 1 := ⟨F - 1, by omega⟩
    unfold f26_b108 sAdds f26_b143
    rw [if_neg (show ¬ (32 : Int32) ≤ Int32.ofNat b from fun h => absurd ((of_le (m := 32) (by decide) (by omega)).mp h) (by omega)), of_s]
    have e1 : nT (Int32.ofNat b) = b := nT_of (by omega)
    refine Ok.ix (of_nn (by omega)) (by rw [e1]; omega) ?_
    rw [e1, show I (a + 13 + 2) b = X 15 b from H.rd (c := 15) (by decide) ⟨rfl, by omega⟩]
    by_cases h : X 15 b = 0
    · rw [if_pos h, if_pos h]
      exact ih (b + 1) F I X (by omega) (by omega) H hc
    · rw [if_neg h, if_neg h]
      exact (C64 ha H hc (b := b) (by omega)).bind fun v J ⟨HJ, hcJ⟩ => ih (b + 1) F J _ (by omega) (by omega) HJ hcJ
theorem C26_c (call r : Int32) (t : Int32) : ∀ (n b F : Nat), b + n = 32 → n < F → f26_b75 kad N Z F (a + 13) (a + 1) (a + 8) call t (Int32.ofNat b) (fl I (a + 15) b 0) = ((f29 kad N Z (a + 13) call t (a + 1) (a + 8) (fl I (a + 15) 32 0)).bind fun r => f26_b108 kad N Z N (a + 13) (a + 1) (a + 8) (0 : Int32) r.2) := by
  intro n
  induction n with
  | zero =>
    intro b F hb hF
    obtain ⟨F, rfl⟩ : ∃ G, F = G + 1 := ⟨F - 1, by omega⟩
    unfold f26_b75
    rw [if_pos (show (32 : Int32) ≤ Int32.ofNat b from (of_le (m := 32) (by decide) (by omega)).mpr (by omega))]
    obtain rfl : b = 32 := by omega
    rfl
  | succ n ih =>
    intro b F hb hF
    obtain ⟨F, rfl⟩ : ∃ G, F = G + 1 := ⟨F - 1, by omega⟩
    unfold f26_b75
    rw [if_neg (show ¬ (32 : Int32) ≤ Int32.ofNat b from fun h => absurd ((of_le (m := 32) (by decide) (by omega)).mp h) (by omega)), of_s]
    have e1 : ixA 32 (Int32.ofNat b) = some b := by
      have e2 : nT (Int32.ofNat b) = b := nT_of (by omega)
      unfold ixA
      rw [if_pos (by rintro (h | h); exact of_nn (by omega) h; have h9 : 32 ≤ nT (Int32.ofNat b) := h; rw [e2] at h9; omega), show (Int32.ofNat b).toNatClampNeg = b from e2]
    rw [e1, Option.bind_some]
    unfold wB
    rw [if_pos (Or.inl rfl), Option.bind_some, show a + 13 + 2 = a + 15 from rfl, fl_s]
    exact ih (b + 1) F (by omega) (by omega)
theorem RC.open1 (H : RC 0 Z a κ I0 I X) : RC 1 Z a κ I0 (fl (cpI I (a + 9) (a + 14) 0 0 256) (a + 15) 32 0) (sOpen X) := by
  unfold sOpen
  have H1 : RC 0 Z a κ I0 (cpI I (a + 9) (a + 14) 0 0 256) (cpI X 9 14 0 0 256) := by
    refine H.blk (c := 14) (Or.inl (by decide)) (fun q hq => cpI_b (by simpa [loc] using hq)) (fun d hd => cpI_b hd) (fun d k hd hdc => Or.inl ?_) (fun k hk => absurd hk.1 (by decide))
    refine (rel_cong ?_ ?_ ?_ ?_ ?_ ?_).mp hd <;> exact congrFun (cpI_b (by decide)) _
  refine H1.blk (c := 15) (Or.inl (by decide)) (fun q hq => fl_b (by simpa [loc] using hq)) (fun d hd => fl_b hd) (fun d k hd hdc => ?_) (fun k hk => ?_)
  · by_cases h14 : d = 14
    · subst h14
      refine Or.inr ?_
      have hk : k < 256 := hd.2
      show cpI I (a + 9) (a + 14) 0 0 256 (a + 14) k = cpI X 9 14 0 0 256 14 k
      rw [cpI_at (by omega), cpI_at (by omega)]
      exact H.rd (c := 9) (by decide) (show 0 + (k - 0) < 256 by omega)
    · refine Or.inl ?_
      unfold rel at hd ⊢
      split at hd <;> first
        | exact absurd rfl hdc
        | exact absurd rfl h14
        | exact absurd hd.1 (by decide)
        | exact hd
  · have hk2 : k < 32 := hk.2
    show fl _ (a + 15) 32 0 (a + 15) k = fl _ 15 32 0 15 k
    rw [fl_at hk2, fl_at hk2]
theorem sZero_o {b : Int32} {X : AI} {c : Nat} (h : ¬ c = 14 ∧ ¬ c = 15) : ∀ n, sZero b n X c = X c := by
  intro n
  induction n with
  | zero => rfl
  | succ n ih =>
    unfold sZero
    rw [sPut_o h]
    exact ih
theorem sApp_o {t : Nat} {w : Int32} {X : AI} {c : Nat} (h : ¬ c = 14 ∧ ¬ c = 15) : sApp t w X c = X c := by
  unfold sApp
  dsimp only
  split
  · unfold sApp2 sPE
    rw [sPut_o h, sPut_o h, sZero_o h, sPut_o h, sUse_o h]
  · unfold sApp2 sPE
    rw [sPut_o h, sPut_o h]
theorem sRen_o {t : Nat} {w : Int32} {X : AI} {c : Nat} (h : ¬ c = 14 ∧ ¬ c = 15) : sRen t w X c = X c := by
  unfold sRen sPE
  split
  · rfl
  · rw [sPut_o h]
    split
    · exact sRm_o h
    · rfl
theorem sCarry_o {call : Int32} {X : AI} {c : Nat} (h : ¬ c = 14 ∧ ¬ c = 15) (h2 : ¬ c = 2) : sCarry call X c = X c := by
  unfold sCarry
  split
  · exact sPut_o h
  split
  · exact sApp_o h
  split
  · exact sPut_o h
  split
  · exact up2_b h2
  split
  · exact up2_b h2
  split
  · exact sRm_o h
  · exact sRen_o h
theorem sOpen_o {X : AI} {c : Nat} (h : ¬ c = 14 ∧ ¬ c = 15) : sOpen X c = X c := by
  unfold sOpen
  rw [fl_b h.2, cpI_b h.1]
theorem sE_cong {X Y : AI} (h2 : Y 2 = X 2) (h9 : Y 9 = X 9) : sE Y = sE X := by
  unfold sE
  rw [h2, h9]
theorem sRefuse_cong {call : Int32} {X Y : AI} (h2 : Y 2 = X 2) (h9 : Y 9 = X 9) : sRefuse call Y = sRefuse call X := by
  unfold sRefuse
  rw [sE_cong h2 h9, h2, h9]
theorem C26 (hN : 2000 ≤ N) (ha : sh8 kad Z a) (H : RC 0 Z a κ I0 I X) (hw : wdk X) (hc : cnt X) (call : Int32) : Ok (f26 kad N Z (a + 13) call (a + 1) (a + 8) I) (fun v J => v = sFileR call X ∧ RC 0 Z a κ I0 J (sFileX call X)) := by
  have main : ¬ call < 0 → call ≤ 6 → Ok (f26_b36 kad N Z (a + 13) (a + 1) (a + 8) call (sEI (sE X)) I) (fun v J => v = sFileR call X ∧ RC 0 Z a κ I0 J (sFileX call X)) := fun hc0 hc6 => by
    have er : sFileR call X = sRefuse call X := by unfold sFileR; rw [if_neg hc0, if_pos hc6]
    unfold f26_b36 sFileX
    refine (C27 hN H hw call hc0 hc6).bind fun v J ⟨hv, hJ⟩ => ?_
    subst hv hJ
    rw [er]
    by_cases h0 : sRefuse call X = 0
    · simp only [if_pos h0]
      have hz := sRefuse0 h0
      rw [show cA J (a + 8 + 1) 256 (0 : Int32) (a + 13 + 1) 256 (0 : Int32) (256 : Int32) = some (cpI J (a + 9) (a + 14) 0 0 256) from cA_ok (s := 0) (d := 0) (n := 256) (by decide) (by decide), Option.bind_some]
      have hl := C26_c (kad := kad) (N := N) (Z := Z) (a := a) (I := cpI J (a + 9) (a + 14) 0 0 256) call call (sEI (sE X)) 32 0 N rfl (by omega)
      rw [fl_0] at hl
      rw [show (0 : Int32) = Int32.ofNat 0 from rfl, hl]
      have HO := H.open1
      have s2 : sOpen X 2 = X 2 := sOpen_o (by decide)
      have s9 : sOpen X 9 = X 9 := sOpen_o (by decide)
      have s3 : sOpen X 3 = X 3 := sOpen_o (by decide)
      have hwO : wdk (sOpen X) := ⟨by rw [s9]; exact hw.1, by rw [s2]; exact hw.2⟩
      have hC := C29 (kad := kad) hN HO hwO call (by rw [s9]; exact hz.1) (by rw [sE_cong s2 s9]; exact hz.2)
      rw [sE_cong s2 s9] at hC
      refine hC.bind fun v J2 HJ => ?_
      have hcn : cnt (sCarry call (sOpen X)) := by
        unfold cnt
        rw [sCarry_o (by decide) (by decide), s3]
        exact hc
      refine (C26_a (kad := kad) (N := N) ha 32 0 N J2 _ rfl (by omega) HJ hcn).mono fun v J3 ⟨hv, HJ3, _⟩ => ⟨?_, HJ3.to0⟩
      rw [hv]
      exact h0.symm
    · simp only [if_neg h0]
      exact Ok.ret ⟨rfl, H⟩
  unfold f26 f26_b10
  have h9 : (¬ call < 0 → ¬ call ≤ 6) → sFileR call X = 9 ∧ sFileX call X = X := fun h => by
    have h1 : sFileR call X = 9 := by
      unfold sFileR
      split
      · rfl
      · rename_i h2
        rw [if_neg (h h2)]
    refine ⟨h1, ?_⟩
    unfold sFileX
    rw [h1, if_neg (by decide)]
  split
  · rename_i h
    rw [(h9 (fun hh => absurd h hh)).1, (h9 (fun hh => absurd h hh)).2]
    exact Ok.ret ⟨rfl, H⟩
  · rename_i h
    split
    · rename_i h6
      have ix0 : ixA 4 (0 : Int32) = some 0 := by decide
      rw [ix0, Option.bind_some, H.rd (c := 2) (k := 0)]
      have hm := main h h6
      unfold sE at hm
      by_cases hz : X 2 0 = 0
      · rw [if_neg (fun hh => hh hz)]
        rw [if_pos hz] at hm
        exact hm
      · rw [if_pos hz, Option.bind_some, H.rd (c := 2) (k := 0)]
        rw [if_neg hz] at hm
        refine (C51 hN H (X 2 0)).bind fun v J ⟨hv, hJ⟩ => ?_
        subst hv hJ
        exact hm
    · rename_i h6
      rw [(h9 (fun _ => h6)).1, (h9 (fun _ => h6)).2]
      exact Ok.ret ⟨rfl, H⟩
theorem C108 (hN : 2000 ≤ N) (ha : sh8 kad Z a) (H : RC 0 Z a κ I0 I X) (hw : wdk X) (hc : cnt X) (call : Int32) : Ok (f108 kad N Z a call I) (fun _ J => RC 0 Z a κ I0 J (sCallF call X)) := by
  unfold f108 f108_b44 sCallF
  refine (C26 hN ha H hw hc call).bind fun v J ⟨hv, HJ⟩ => ?_
  subst hv
  refine (C63 HJ).bind fun v J2 ⟨hv, hJ⟩ => ?_
  subst hv hJ
  dsimp only
  have ix3 : ixA 4 (3 : Int32) = some 3 := by decide
  by_cases h : sLeft (sFileX call X) = 0
  · rw [if_neg (fun hh => hh h), if_pos h, ix3, Option.bind_some]
    refine Ok.w ?_
    exact (C88 (HJ.up (c := 2) (k := 3))).bind fun v J HJ => Ok.ret HJ
  · rw [if_pos h, if_neg h]
    exact Ok.ret HJ
def sCtl (op d y : Int32) (X : AI) : AI :=
  if op = 19 then sGo (up2 X 1 7 1) else if op = 20 then sGo (up2 X 1 7 0) else if op = 21 then sRti X
  else if op = 22 then (if X 1 8 = 0 ∧ X 1 9 = 0 then X else sGo X)
  else if op = 23 then sGo (up2 (up2 X 1 10 y) 1 11 0)
  else if op = 24 then sKey d X else if op = 25 then sTape y X else sCallF y X
theorem C104 (hN : 2000 ≤ N) (ha : sh8 kad Z a) (H : RC 0 Z a κ I0 I X) (hw : wdk X) (hc : cnt X) (op d y : Int32) : Ok (f104 kad N Z a op d y I) (fun _ J => RC 0 Z a κ I0 J (sCtl op d y X)) := by
  unfold f104 f104_b44 f104_b59 f104_b96 f104_b155 sCtl
  by_cases h19 : op = 19
  · subst h19
    rw [if_pos rfl, if_neg (by decide), if_pos rfl]
    exact Ok.wb (Or.inr rfl) ((C88 H.up).bind fun v J HJ => Ok.ret HJ)
  rw [if_neg h19, if_neg h19]
  by_cases h20 : op = 20
  · subst h20
    rw [if_pos rfl, if_pos (by decide), if_pos rfl]
    exact Ok.wb (Or.inl rfl) ((C88 H.up).bind fun v J HJ => Ok.ret HJ)
  rw [if_neg h20, if_neg h20]
  by_cases h21 : op = 21
  · rw [if_pos h21, if_pos h21]
    exact (C105 H).bind fun v J HJ => Ok.ret HJ
  rw [if_neg h21, if_neg h21]
  by_cases h22 : op = 22
  · rw [if_pos h22, if_pos h22, H.rd (c := 1) (k := 8), H.rd (c := 1) (k := 9)]
    by_cases h8 : X 1 8 = 0
    · by_cases h9 : X 1 9 = 0
      · rw [if_neg (fun h => h h8), if_pos h9, if_pos ⟨h8, h9⟩]
        exact Ok.ret H
      · rw [if_neg (fun h => h h8), if_neg h9, if_neg (fun h => h9 h.2)]
        exact (C88 H).bind fun v J HJ => Ok.ret HJ
    · rw [if_pos h8, if_neg (fun h => h8 h.1)]
      exact (C88 H).bind fun v J HJ => Ok.ret HJ
  rw [if_neg h22, if_neg h22]
  by_cases h23 : op = 23
  · rw [if_pos h23, if_pos h23]
    exact Ok.w (Ok.w ((C88 H.up.up).bind fun v J HJ => Ok.ret HJ))
  rw [if_neg h23, if_neg h23]
  by_cases h24 : op = 24
  · rw [if_pos h24, if_pos h24]
    exact C106 hN H d
  rw [if_neg h24, if_neg h24]
  by_cases h25 : op = 25
  · rw [if_pos h25, if_pos h25]
    exact (C107 H y).bind fun v J HJ => Ok.ret HJ
  rw [if_neg h25, if_neg h25]
  exact (C108 hN ha H hw hc y).bind fun v J HJ => Ok.ret HJ
def sDo (op d y : Int32) (X : AI) : AI :=
  if op ≤ 26 then (if op < 19 then (if op < 15 then (if op < 12 then (if op < 4 then sMove op d y X else sCalc op d y X) else sJump op y X) else sStack op d y X) else sCtl op d y X) else sFail 2 X
def sIns (X : AI) : AI :=
  if X 1 3 + 2 ≤ 256 then
    let v := sRd X (X 1 3)
    let x := sRd X (X 1 3 + 1)
    let y := if (v / 4) &&& 3 = v &&& 3 then x else (X 2 (nT (v &&& 3)) + x) &&& 65535
    sDo (v / 16) ((v / 4) &&& 3) y X
  else sFail 1 X
theorem and3 (v : Int32) : ¬ (v &&& 3) < 0 ∧ nT (v &&& 3) < 4 := by
  have h1 : (v &&& 3).toBitVec = v.toBitVec &&& 3#32 := Int32.toBitVec_and v 3
  have h2 : (v &&& 3).toBitVec.toNat < 4 := by
    rw [h1, BitVec.toNat_and]
    have := Nat.and_le_right (n := v.toBitVec.toNat) (m := (3#32).toNat)
    have e : (3#32).toNat = 3 := by decide
    omega
  have h5 : (v &&& 3).toBitVec.toInt = (v &&& 3).toInt := Int32.toInt_toBitVec _
  have h6 := BitVec.toInt_eq_toNat_cond (v &&& 3).toBitVec
  rw [h5] at h6
  have h8 : nT (v &&& 3) = (v &&& 3).toInt.toNat := rfl
  rw [if_pos (by omega)] at h6
  refine ⟨fun h => ?_, by omega⟩
  rw [Int32.lt_iff_toInt_lt, show (0 : Int32).toInt = 0 from by decide] at h
  omega
theorem f89_J {i v : Int32} {J : AI} (h : f89 kad N Z a i I = some (v, J)) : J = I := by
  unfold f89 f89_b20 f89_b21 at h
  split at h
  · cases h; rfl
  · split at h
    · cases h; rfl
    · obtain ⟨j, _, hj⟩ := Option.bind_eq_some_iff.mp h
      cases hj; rfl
theorem C96 (hN : 2000 ≤ N) (ha : sh8 kad Z a) (H : RC 0 Z a κ I0 I X) (hw : wdk X) (hc : cnt X) : Ok (f96 kad N Z a I) (fun _ J => RC 0 Z a κ I0 J (sIns X)) := by
  have main : ∀ (op d y : Int32), Ok (f96_b90 kad N Z a op d y I) (fun _ J => RC 0 Z a κ I0 J (sDo op d y X)) := fun op d y => by
    unfold f96_b90 f96_b184 sDo
    split
    · split
      · split
        · split
          · split
            · exact (C97 H op d y).bind fun v J HJ => Ok.ret HJ
            · exact (C100 H op d y).bind fun v J HJ => Ok.ret HJ
          · exact (C102 H op y).bind fun v J HJ => Ok.ret HJ
        · exact (C103 H op d y).bind fun v J HJ => Ok.ret HJ
      · exact (C104 hN ha H hw hc op d y).bind fun v J HJ => Ok.ret HJ
    · exact (C87 H 2).bind fun v J HJ => Ok.ret HJ
  unfold f96 sIns
  rw [H.rd (c := 1) (k := 3)]
  split
  · obtain ⟨v, J, hJ, rfl, HJ⟩ := C89 (kad := kad) (N := N) H (X 1 3)
    have e1 : J = I := f89_J hJ
    subst e1
    rw [hJ, Option.bind_some]
    dsimp only
    rw [H.rd (c := 1) (k := 3)]
    obtain ⟨v, J2, hJ2, rfl, HJ2⟩ := C89 (kad := kad) (N := N) H (X 1 3 + 1)
    have e1 : J2 = J := f89_J hJ2
    subst e1
    rw [hJ2, Option.bind_some]
    dsimp only
    by_cases hds : (sRd X (X 1 3) / 4) &&& 3 = sRd X (X 1 3) &&& 3
    · rw [if_neg (fun h => h hds), if_pos hds]
      exact main _ _ _
    · obtain ⟨a1, a2⟩ := and3 (sRd X (X 1 3))
      rw [if_pos hds, if_neg hds]
      refine Ok.ix a1 a2 ?_
      rw [H.rd (c := 2) (k := nT (sRd X (X 1 3) &&& 3)) (by decide) a2]
      exact main _ _ _
  · exact (C87 H 1).bind fun v J HJ => Ok.ret HJ
end CF
