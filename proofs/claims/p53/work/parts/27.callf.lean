/-! the file calls, carried out and begun; the instructions -/
theorem sRefuse0 {call : Int32} {X : AI} (h : sRefuse call X = 0) : (call = 0 → sFind (X 9) 0 7 0 < 6) ∧ (¬ call = 0 → sE X < 6) := by
  unfold sRefuse at h
  constructor
  · intro h0
    rw [if_pos h0] at h
    split at h
    · exact absurd h (by decide)
    · split at h
      · assumption
      · exact absurd h (by decide)
  · intro h0
    rw [if_neg h0] at h
    split at h
    · exact absurd h (by decide)
    · rename_i h1
      exact Decidable.byContradiction fun h2 => h1 (Or.inl h2)
section CF
variable {kad : Nat → Nat} {N : Nat} {e : Nat} {Z : AZ} {a κ : Nat} {I0 I X : AI}
theorem RC.open1 (H : RC 0 Z a κ I0 I X) : RC 1 Z a κ I0 (fl (cpI I (a + 9) (a + 14) 0 0 256) (a + 15) 32 0) (sOpen X) := by
  unfold sOpen
  have H1 : RC 0 Z a κ I0 (cpI I (a + 9) (a + 14) 0 0 256) (cpI X 9 14 0 0 256) := by
    refine H.blk (c := 14) (Or.inl (by decide)) (fun q hq => cpI_b (by simpa [loc] using hq)) (fun d hd => cpI_b hd) (fun d k hd hdc => Or.inl ?_) (fun k hk => absurd hk.1 (by decide))
    refine (rel_cong ?_ ?_ ?_ ?_ ?_ ?_).mp hd <;> exact congrFun (cpI_b (by decide)) _
  refine H1.blk (c := 15) (Or.inl (by decide)) (fun q hq => fl_b (by simpa [loc] using hq)) (fun d hd => fl_b hd) (fun d k hd hdc => ?_) (fun k hk => ?_)
  · by_cases h14 : d = 14
    · subst h14
      refine Or.inr ?_
      have hk : k < 256 := hd.2
      show cpI I (a + 9) (a + 14) 0 0 256 (a + 14) k = cpI X 9 14 0 0 256 14 k
      rw [cpI_at (by omega), cpI_at (by omega)]
      exact H.rd (c := 9) (by decide) (show 0 + (k - 0) < 256 by omega)
    · refine Or.inl ?_
      unfold rel at hd ⊢
      split at hd <;> first
        | exact absurd rfl hdc
        | exact absurd rfl h14
        | exact absurd hd.1 (by decide)
        | exact hd
  · have hk2 : k < 32 := hk.2
    show fl _ (a + 15) 32 0 (a + 15) k = fl _ 15 32 0 15 k
    rw [fl_at hk2, fl_at hk2]
theorem C27_l : ∀ (n b F : Nat), b + n = 32 → n < F → f27_b18 kad N Z F (a + 13) (a + 8) (Int32.ofNat b) (fl I (a + 15) b 0) = some ((), fl I (a + 15) 32 0) := by
  intro n
  induction n with
  | zero =>
    intro b F hb hF
    obtain ⟨F, rfl⟩ : ∃ G, F = G + 1 := ⟨F - 1, by omega⟩
    unfold f27_b18
    rw [if_pos (show (32 : Int32) ≤ Int32.ofNat b from (of_le (m := 32) (by decide) (by omega)).mpr (by omega))]
    obtain rfl : b = 32 := by omega
    rfl
  | succ n ih =>
    intro b F hb hF
    obtain ⟨F, rfl⟩ : ∃ G, F = G + 1 := ⟨F - 1, by omega⟩
    unfold f27_b18
    rw [if_neg (show ¬ (32 : Int32) ≤ Int32.ofNat b from fun h => absurd ((of_le (m := 32) (by decide) (by omega)).mp h) (by omega)), of_s, ixA_k (by omega), Option.bind_some]
    unfold wB
    rw [if_pos (Or.inl rfl), Option.bind_some, show a + 13 + 2 = a + 15 from rfl, fl_s]
    exact ih (b + 1) F (by omega) (by omega)
theorem C27 (hN : 2000 ≤ N) (H : RC 0 Z a κ I0 I X) : Ok (f27 kad N Z (a + 13) (a + 8) I) (fun _ J => RC 1 Z a κ I0 J (sOpen X)) := by
  unfold f27
  rw [show cA I (a + 8 + 1) 256 (0 : Int32) (a + 13 + 1) 256 (0 : Int32) (256 : Int32) = some (cpI I (a + 9) (a + 14) 0 0 256) from cA_ok (s := 0) (d := 0) (n := 256) (by decide) (by decide), Option.bind_some]
  have hl := C27_l (kad := kad) (N := N) (Z := Z) (a := a) (I := cpI I (a + 9) (a + 14) 0 0 256) 32 0 N rfl (by omega)
  rw [fl_0] at hl
  rw [show (0 : Int32) = Int32.ofNat 0 from rfl, hl]
  exact Ok.ret H.open1
theorem C32_l (ha : sh8 kad Z a) : ∀ (n b F : Nat) (I X : AI), b + n = 32 → n < F → RC 1 Z a κ I0 I X → cnt X → Ok (f32_b2 kad N Z F (a + 13) (a + 3) (Int32.ofNat b) I) (fun _ J => RC 1 Z a κ I0 J (sAdds n b X) ∧ cnt (sAdds n b X)) := by
  intro n
  induction n with
  | zero =>
    intro b F I X hb hF H hc
    obtain ⟨F, rfl⟩ : ∃ G, F = G + 1 := ⟨F - 1, by omega⟩
    unfold f32_b2 sAdds
    rw [if_pos (show (32 : Int32) ≤ Int32.ofNat b from (of_le (m := 32) (by decide) (by omega)).mpr (by omega))]
    exact Ok.ret ⟨H, hc⟩
  | succ n ih =>
    intro b F I X hb hF H hc
    obtain ⟨F, rfl⟩ : ∃ G, F = G + 1 := ⟨F - 1, by omega⟩
    unfold f32_b2 sAdds f32_b30
    rw [if_neg (show ¬ (32 : Int32) ≤ Int32.ofNat b from fun h => absurd ((of_le (m := 32) (by decide) (by omega)).mp h) (by omega)), of_s]
    have e1 : nT (Int32.ofNat b) = b := nT_of (by omega)
    refine Ok.ix (of_nn (by omega)) (by rw [e1]; omega) ?_
    rw [e1, show I (a + 13 + 2) b = X 15 b from H.rd (c := 15) (by decide) ⟨rfl, by omega⟩]
    by_cases h : X 15 b = 0
    · rw [if_pos h, if_pos h]
      exact ih (b + 1) F I X (by omega) (by omega) H hc
    · rw [if_neg h, if_neg h]
      exact (C64 ha H hc (b := b) (by omega)).bind fun v J ⟨HJ, hcJ⟩ => ih (b + 1) F J _ (by omega) (by omega) HJ hcJ
theorem C32 (hN : 2000 ≤ N) (ha : sh8 kad Z a) (H : RC 1 Z a κ I0 I X) (hc : cnt X) : Ok (f32 kad N Z (a + 13) (a + 3) I) (fun _ J => RC 1 Z a κ I0 J (sAdds 32 0 X) ∧ cnt (sAdds 32 0 X)) := C32_l ha 32 0 N I X rfl (by omega) H hc
theorem sZero_o {b : Int32} {X : AI} {c : Nat} (h : ¬ c = 14 ∧ ¬ c = 15) : ∀ n, sZero b n X c = X c := by
  intro n
  induction n with
  | zero => rfl
  | succ n ih =>
    unfold sZero
    rw [sPut_o h]
    exact ih
theorem sApp_o {t : Nat} {w : Int32} {X : AI} {c : Nat} (h : ¬ c = 14 ∧ ¬ c = 15) : sApp t w X c = X c := by
  unfold sApp
  dsimp only
  split
  · unfold sApp2 sPE
    rw [sPut_o h, sPut_o h, sZero_o h, sPut_o h, sUse_o h]
  · unfold sApp2 sPE
    rw [sPut_o h, sPut_o h]
theorem sRen_o {t : Nat} {w : Int32} {X : AI} {c : Nat} (h : ¬ c = 14 ∧ ¬ c = 15) : sRen t w X c = X c := by
  unfold sRen sPE
  split
  · rfl
  · rw [sPut_o h]
    split
    · exact sRm_o h
    · rfl
theorem sCarry_o {call : Int32} {X : AI} {c : Nat} (h : ¬ c = 14 ∧ ¬ c = 15) (h2 : ¬ c = 2) : sCarry call X c = X c := by
  unfold sCarry
  split
  · exact sPut_o h
  split
  · exact sApp_o h
  split
  · exact sPut_o h
  split
  · exact up2_b h2
  split
  · exact up2_b h2
  split
  · exact sRm_o h
  · exact sRen_o h
theorem sOpen_o {X : AI} {c : Nat} (h : ¬ c = 14 ∧ ¬ c = 15) : sOpen X c = X c := by
  unfold sOpen
  rw [fl_b h.2, cpI_b h.1]
theorem sE_cong {X Y : AI} (h2 : Y 2 = X 2) (h9 : Y 9 = X 9) : sE Y = sE X := by
  unfold sE
  rw [h2, h9]
theorem sRefuse_cong {call : Int32} {X Y : AI} (h2 : Y 2 = X 2) (h9 : Y 9 = X 9) : sRefuse call Y = sRefuse call X := by
  unfold sRefuse
  rw [sE_cong h2 h9, h2, h9]
theorem C29 (hN : 2000 ≤ N) (ha : sh8 kad Z a) (H0 : RC 0 Z a κ I0 I X) (hw0 : wdk X) (hc : cnt X) (call : Int32) (h00 : call = 0 → sFind (X 9) 0 7 0 < 6) (h01 : ¬ call = 0 → sE X < 6) : Ok (f29 kad N Z (a + 13) call (sEI (sE X)) (a + 1) (a + 8) I) (fun _ J => RC 0 Z a κ I0 J (sAdds 32 0 (sCarry call (sOpen X)))) := by
  unfold f29
  refine (C27 hN H0).bind fun v J H => ?_
  have s2 : sOpen X 2 = X 2 := sOpen_o (by decide)
  have s9 : sOpen X 9 = X 9 := sOpen_o (by decide)
  have s3 : sOpen X 3 = X 3 := sOpen_o (by decide)
  have hw : wdk (sOpen X) := ⟨by rw [s9]; exact hw0.1, by rw [s2]; exact hw0.2⟩
  rw [← s9] at h00
  rw [← sE_cong s2 s9] at h01 ⊢
  have hcY : cnt (sOpen X) := by
    unfold cnt
    rw [s3]
    exact hc
  generalize sOpen X = Y at H hw h00 h01 hcY ⊢
  dsimp only
  have fin : ∀ (J Y' : AI), Y' 3 = Y 3 → RC 1 Z a κ I0 J Y' → Ok (f29_b207 kad N Z (a + 13) (a + 1) (a + 8) J) (fun _ J => RC 0 Z a κ I0 J (sAdds 32 0 Y')) := fun J Y' h3 HJ => by
    unfold f29_b207
    have hc' : cnt Y' := by
      unfold cnt
      rw [h3]
      exact hcY
    exact (C32 hN ha HJ hc').bind fun v J ⟨HJ, _⟩ => Ok.ret HJ.to0
  unfold sCarry
  have r0 : ∀ J Y, RC 1 Z a κ I0 J Y → J (a + 1 + 1) 0 = Y 2 0 := fun J Y h => h.rd (c := 2) (k := 0)
  have r1 : ∀ J Y, RC 1 Z a κ I0 J Y → J (a + 1 + 1) 1 = Y 2 1 := fun J Y h => h.rd (c := 2) (k := 1)
  have r2 : ∀ J Y, RC 1 Z a κ I0 J Y → J (a + 1 + 1) 2 = Y 2 2 := fun J Y h => h.rd (c := 2) (k := 2)
  have ix0 : ixA 4 (0 : Int32) = some 0 := by decide
  have ix1 : ixA 4 (1 : Int32) = some 1 := by decide
  have ix2 : ixA 4 (2 : Int32) = some 2 := by decide
  have hr1 := wd_nn (hw.2 1 (by decide))
  by_cases c0 : call = 0
  · simp only [if_pos c0]
    refine (C51 hN H 0).bind fun v J ⟨hv, hJ⟩ => ?_
    subst hv hJ
    simp only [if_pos (h00 c0)]
    rw [ix0, Option.bind_some, r0 _ _ H]
    exact (C34 H (t := sFind (Y 9) 0 7 0) (w := 0) (h00 c0) (by decide) _).bind fun v J HJ => fin _ _ (sPut_o (by decide)) HJ
  have ht := h01 c0
  have e1 : sEI (sE Y) = Int32.ofNat (sE Y) := by unfold sEI; rw [if_pos ht]
  rw [e1]
  simp only [if_neg c0]
  by_cases c1 : call = 1
  · simp only [if_pos c1]
    rw [ix1, Option.bind_some, r1 _ _ H]
    refine (C56 hN H (hw.1 32 (by decide)) (hw.1 33 (by decide))).bind fun v J ⟨hv, hJ⟩ => ?_
    subst hJ
    dsimp only
    exact (C30 hN H hw ht _ v hv).bind fun v J HJ => fin _ _ (sApp_o (by decide)) HJ
  simp only [if_neg c1]
  by_cases c2 : call = 2
  · simp only [if_pos c2]
    rw [ix1, Option.bind_some, r1 _ _ H, f48_ok, Option.bind_some]
    dsimp only
    refine (C50p H ht _).bind fun v J ⟨hv, hJ⟩ => ?_
    subst hv hJ
    dsimp only
    rw [ix2, Option.bind_some, Option.bind_some, r1 _ _ H, r2 _ _ H, mod8 hr1]
    exact (C35 H _ (p := nT (Y 2 1) % 8) (by omega) _).bind fun v J HJ => fin _ _ (sPut_o (by decide)) HJ
  simp only [if_neg c2]
  by_cases c3 : call = 3
  · simp only [if_pos c3]
    rw [ix1, Option.bind_some, r1 _ _ H]
    refine (C54 H ht hr1).bind fun v J ⟨hv, hJ⟩ => ?_
    subst hv hJ
    simp only [ix2, Option.bind_some]
    exact Ok.w (fin _ _ (up2_b (by decide)) (H.up (c := 2) (k := 2)))
  simp only [if_neg c3]
  by_cases c4 : call = 4
  · simp only [if_pos c4]
    refine (C50 H (t := sE Y) (w := 1) ht (by decide)).bind fun v J ⟨hv, hJ⟩ => ?_
    subst hv hJ
    simp only [ix1, Option.bind_some]
    exact Ok.w (fin _ _ (up2_b (by decide)) (H.up (c := 2) (k := 1)))
  simp only [if_neg c4]
  by_cases c5 : call = 5
  · simp only [if_pos c5]
    exact (C31 hN H ht).bind fun v J HJ => fin _ _ (sRm_o (by decide)) HJ
  simp only [if_neg c5]
  rw [ix1, Option.bind_some, r1 _ _ H]
  unfold sRen
  refine (C51 hN H (Y 2 1)).bind fun v J ⟨hv, hJ⟩ => ?_
  subst hv hJ
  dsimp only
  have hle := sFind_le (D := Y 9) (name := Y 2 1) 7 0 rfl (by decide)
  generalize sFind (Y 9) (Y 2 1) 7 0 = o at hle
  generalize sE Y = t at ht
  unfold f29_b191
  by_cases ho : o < 6
  · simp only [if_pos ho]
    rw [if_neg (of_nn (by omega))]
    by_cases hot : o = t
    · subst hot
      rw [if_pos rfl, if_pos rfl, if_pos rfl]
      exact fin _ _ rfl H
    · have hne : ¬ Int32.ofNat o = Int32.ofNat t := fun h => hot ((of_inj (by omega) (by omega)).mp h)
      rw [if_neg hne, if_neg hot]
      refine (C31 hN H ho).bind fun v J HJ => ?_
      dsimp only
      rw [if_neg hne, ix1, Option.bind_some, r1 _ _ HJ, show sRm o Y 2 = Y 2 from sRm_o (by decide)]
      exact (C34 HJ (t := t) (w := 0) ht (by decide) _).bind fun v J HJ => fin _ _ ((sPut_o (by decide)).trans (sRm_o (by decide))) HJ
  · simp only [if_neg ho]
    rw [if_pos (by decide), if_neg (show ¬ Int32.ofInt (-1) = Int32.ofNat t from fun h => of_nn (n := t) (by omega) (by rw [← h]; decide)), if_neg (show ¬ o = t by omega), ix1, Option.bind_some, r1 _ _ H]
    exact (C34 H (t := t) (w := 0) ht (by decide) _).bind fun v J HJ => fin _ _ (sPut_o (by decide)) HJ
theorem C108_b {call : Int32} (HJ : RC 0 Z a κ I0 I (sFileX call X)) (r : Int32) (hr : r = sFileR call X) : Ok (f108_b75 kad N Z a r I) (fun _ J => RC 0 Z a κ I0 J (sCallF call X)) := by
  subst hr
  unfold f108_b75 f108_b102 sCallF
  refine (C63 HJ).bind fun v J2 ⟨hv, hJ⟩ => ?_
  subst hv hJ
  dsimp only
  have ix3 : ixA 4 (3 : Int32) = some 3 := by decide
  by_cases h : sLeft (sFileX call X) = 0
  · rw [if_neg (fun hh => hh h), if_pos h, ix3, Option.bind_some]
    refine Ok.w ?_
    exact (C88 (HJ.up (c := 2) (k := 3))).bind fun v J HJ => Ok.ret HJ
  · rw [if_pos h, if_neg h]
    exact Ok.ret HJ
theorem C108_m (hN : 2000 ≤ N) (ha : sh8 kad Z a) (H : RC 0 Z a κ I0 I X) (hw : wdk X) (hc : cnt X) (call : Int32) : Ok (f108_b32 kad N Z a call (sEI (sE X)) I) (fun _ J => RC 0 Z a κ I0 J (sCallF call X)) := by
  unfold f108_b32
  refine (C26 hN ha H hw call).bind fun v J ⟨hv, hJ⟩ => ?_
  subst hJ
  dsimp only
  by_cases h0 : v = 0
  · rw [if_neg (fun h => h h0)]
    have hr : sFileR call X = 0 := by rw [← hv]; exact h0
    have hz : sRefuse call X = 0 := by
      unfold sFileR at hr
      split at hr
      · exact absurd hr (by decide)
      · split at hr
        · exact hr
        · exact absurd hr (by decide)
    have hz2 := sRefuse0 hz
    refine (C29 hN ha H hw hc call hz2.1 hz2.2).bind fun v2 J2 HJ => ?_
    refine C108_b (call := call) (X := X) ?_ v hv
    unfold sFileX
    rw [if_pos hr]
    exact HJ
  · rw [if_pos h0]
    refine C108_b (call := call) (X := X) ?_ v hv
    unfold sFileX
    rw [if_neg (fun h => h0 (hv.trans h))]
    exact H
theorem C108 (hN : 2000 ≤ N) (ha : sh8 kad Z a) (H : RC 0 Z a κ I0 I X) (hw : wdk X) (hc : cnt X) (call : Int32) : Ok (f108 kad N Z a call I) (fun _ J => RC 0 Z a κ I0 J (sCallF call X)) := by
  unfold f108
  have ix0 : ixA 4 (0 : Int32) = some 0 := by decide
  rw [ix0, Option.bind_some, H.rd (c := 2) (k := 0)]
  have hm := C108_m (kad := kad) hN ha H hw hc call
  unfold sE at hm
  by_cases hz : X 2 0 = 0
  · rw [if_neg (fun hh => hh hz)]
    rw [if_pos hz] at hm
    exact hm
  · rw [if_pos hz, Option.bind_some, H.rd (c := 2) (k := 0)]
    rw [if_neg hz] at hm
    refine (C51 hN H (X 2 0)).bind fun v J ⟨hv, hJ⟩ => ?_
    subst hv hJ
    exact hm
def sCtl (op d y : Int32) (X : AI) : AI :=
  if op = 19 then sGo (up2 X 1 7 1) else if op = 20 then sGo (up2 X 1 7 0) else if op = 21 then sRti X
  else if op = 22 then (if X 1 8 = 0 ∧ X 1 9 = 0 then X else sGo X)
  else if op = 23 then sGo (up2 (up2 X 1 10 y) 1 11 0)
  else if op = 24 then sKey d X else if op = 25 then sTape y X else sCallF y X
theorem op25 {op : Int32} (h1 : ¬ op < 19) (h2 : op ≤ 26) (h3 : ¬ op = 26) (h19 : ¬ op = 19) (h20 : ¬ op = 20) (h21 : ¬ op = 21) (h22 : ¬ op = 22) (h23 : ¬ op = 23) (h24 : ¬ op = 24) : op = 25 := by
  rw [Int32.lt_iff_toInt_lt, show (19 : Int32).toInt = 19 by decide] at h1
  rw [Int32.le_iff_toInt_le, show (26 : Int32).toInt = 26 by decide] at h2
  rw [← Int32.toInt_inj] at h3 h19 h20 h21 h22 h23 h24 ⊢
  rw [show (26 : Int32).toInt = 26 by decide] at h3
  rw [show (19 : Int32).toInt = 19 by decide] at h19
  rw [show (20 : Int32).toInt = 20 by decide] at h20
  rw [show (21 : Int32).toInt = 21 by decide] at h21
  rw [show (22 : Int32).toInt = 22 by decide] at h22
  rw [show (23 : Int32).toInt = 23 by decide] at h23
  rw [show (24 : Int32).toInt = 24 by decide] at h24
  rw [show (25 : Int32).toInt = 25 by decide]
  omega
theorem C104 (hN : 2000 ≤ N) (H : RC 0 Z a κ I0 I X) (op d y : Int32) (h19' : ¬ op < 19) (h26 : op ≤ 26) (h26' : ¬ op = 26) : Ok (f104 kad N Z a op d y I) (fun _ J => RC 0 Z a κ I0 J (sCtl op d y X)) := by
  unfold f104 f104_b40 f104_b55 f104_b92 f104_b143 sCtl
  by_cases h19 : op = 19
  · subst h19
    rw [if_pos rfl, if_neg (by decide), if_pos rfl]
    exact Ok.wb (Or.inr rfl) ((C88 H.up).bind fun v J HJ => Ok.ret HJ)
  rw [if_neg h19, if_neg h19]
  by_cases h20 : op = 20
  · subst h20
    rw [if_pos rfl, if_pos (by decide), if_pos rfl]
    exact Ok.wb (Or.inl rfl) ((C88 H.up).bind fun v J HJ => Ok.ret HJ)
  rw [if_neg h20, if_neg h20]
  by_cases h21 : op = 21
  · rw [if_pos h21, if_pos h21]
    exact (C105 H).bind fun v J HJ => Ok.ret HJ
  rw [if_neg h21, if_neg h21]
  by_cases h22 : op = 22
  · rw [if_pos h22, if_pos h22, H.rd (c := 1) (k := 8), H.rd (c := 1) (k := 9)]
    by_cases h8 : X 1 8 = 0
    · by_cases h9 : X 1 9 = 0
      · rw [if_neg (fun h => h h8), if_pos h9, if_pos ⟨h8, h9⟩]
        exact Ok.ret H
      · rw [if_neg (fun h => h h8), if_neg h9, if_neg (fun h => h9 h.2)]
        exact (C88 H).bind fun v J HJ => Ok.ret HJ
    · rw [if_pos h8, if_neg (fun h => h8 h.1)]
      exact (C88 H).bind fun v J HJ => Ok.ret HJ
  rw [if_neg h22, if_neg h22]
  by_cases h23 : op = 23
  · rw [if_pos h23, if_pos h23]
    exact Ok.w (Ok.w ((C88 H.up.up).bind fun v J HJ => Ok.ret HJ))
  rw [if_neg h23, if_neg h23]
  by_cases h24 : op = 24
  · rw [if_pos h24, if_pos h24]
    exact C106 hN H d
  rw [if_neg h24, if_neg h24]
  have h25 : op = 25 := op25 h19' h26 h26' h19 h20 h21 h22 h23 h24
  rw [if_pos h25]
  exact (C107 H y).bind fun v J HJ => Ok.ret HJ
def sDo (op d y : Int32) (X : AI) : AI :=
  if op ≤ 26 then (if op < 19 then (if op < 15 then (if op < 12 then (if op < 4 then sMove op d y X else sCalc op d y X) else sJump op y X) else sStack op d y X) else sCtl op d y X) else sFail 2 X
def sIns (X : AI) : AI :=
  if X 1 3 + 2 ≤ 256 then
    let v := sRd X (X 1 3)
    let x := sRd X (X 1 3 + 1)
    let y := if (v / 4) &&& 3 = v &&& 3 then x else (X 2 (nT (v &&& 3)) + x) &&& 65535
    sDo (v / 16) ((v / 4) &&& 3) y X
  else sFail 1 X
theorem and3 (v : Int32) : ¬ (v &&& 3) < 0 ∧ nT (v &&& 3) < 4 := by
  have h1 : (v &&& 3).toBitVec = v.toBitVec &&& 3#32 := Int32.toBitVec_and v 3
  have h2 : (v &&& 3).toBitVec.toNat < 4 := by
    rw [h1, BitVec.toNat_and]
    have := Nat.and_le_right (n := v.toBitVec.toNat) (m := (3#32).toNat)
    have e : (3#32).toNat = 3 := by decide
    omega
  have h5 : (v &&& 3).toBitVec.toInt = (v &&& 3).toInt := Int32.toInt_toBitVec _
  have h6 := BitVec.toInt_eq_toNat_cond (v &&& 3).toBitVec
  rw [h5] at h6
  have h8 : nT (v &&& 3) = (v &&& 3).toInt.toNat := rfl
  rw [if_pos (by omega)] at h6
  refine ⟨fun h => ?_, by omega⟩
  rw [Int32.lt_iff_toInt_lt, show (0 : Int32).toInt = 0 from by decide] at h
  omega
theorem f89_J {i v : Int32} {J : AI} (h : f89 kad N Z a i I = some (v, J)) : J = I := by
  unfold f89 f89_b20 f89_b21 at h
  split at h
  · cases h; rfl
  · split at h
    · cases h; rfl
    · obtain ⟨j, _, hj⟩ := Option.bind_eq_some_iff.mp h
      cases hj; rfl
theorem C96 (hN : 2000 ≤ N) (ha : sh8 kad Z a) (H : RC 0 Z a κ I0 I X) (hw : wdk X) (hc : cnt X) : Ok (f96 kad N Z a I) (fun _ J => RC 0 Z a κ I0 J (sIns X)) := by
  have main : ∀ (op d y : Int32), Ok (f96_b90 kad N Z a op d y I) (fun _ J => RC 0 Z a κ I0 J (sDo op d y X)) := fun op d y => by
    unfold f96_b90 f96_b199 sDo
    by_cases h26 : op ≤ 26
    · rw [if_pos h26, if_pos h26]
      by_cases h26' : op = 26
      · subst h26'
        rw [if_neg (fun h => h rfl), if_neg (by decide)]
        unfold sCtl
        rw [if_neg (by decide), if_neg (by decide), if_neg (by decide), if_neg (by decide), if_neg (by decide), if_neg (by decide), if_neg (by decide)]
        exact (C108 hN ha H hw hc y).bind fun v J HJ => Ok.ret HJ
      · rw [if_pos h26']
        split
        · split
          · split
            · split
              · exact (C97 H op d y).bind fun v J HJ => Ok.ret HJ
              · exact (C100 H op d y).bind fun v J HJ => Ok.ret HJ
            · exact (C102 H op y).bind fun v J HJ => Ok.ret HJ
          · exact (C103 H op d y).bind fun v J HJ => Ok.ret HJ
        · rename_i h19
          exact (C104 hN H op d y h19 h26 h26').bind fun v J HJ => Ok.ret HJ
    · rw [if_neg h26, if_neg h26]
      exact (C87 H 2).bind fun v J HJ => Ok.ret HJ
  unfold f96 sIns
  rw [H.rd (c := 1) (k := 3)]
  split
  · obtain ⟨v, J, hJ, rfl, HJ⟩ := C89 (kad := kad) (N := N) H (X 1 3)
    have e1 : J = I := f89_J hJ
    subst e1
    rw [hJ, Option.bind_some]
    dsimp only
    rw [H.rd (c := 1) (k := 3)]
    obtain ⟨v, J2, hJ2, rfl, HJ2⟩ := C89 (kad := kad) (N := N) H (X 1 3 + 1)
    have e1 : J2 = J := f89_J hJ2
    subst e1
    rw [hJ2, Option.bind_some]
    dsimp only
    by_cases hds : (sRd X (X 1 3) / 4) &&& 3 = sRd X (X 1 3) &&& 3
    · rw [if_neg (fun h => h hds), if_pos hds]
      exact main _ _ _
    · obtain ⟨a1, a2⟩ := and3 (sRd X (X 1 3))
      rw [if_pos hds, if_neg hds]
      refine Ok.ix a1 a2 ?_
      rw [H.rd (c := 2) (k := nT (sRd X (X 1 3) &&& 3)) (by decide) a2]
      exact main _ _ _
  · exact (C87 H 1).bind fun v J HJ => Ok.ret HJ
end CF
