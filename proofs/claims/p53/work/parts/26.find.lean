/-! a file call is begun -/
def sAdd (b : Nat) (X : AI) : AI := if 3 ≤ nT (X 3 0) then X else up2 (cpI (up2 X 4 (nT (X 3 0)) (Int32.ofNat b)) 14 5 (8 * b) (8 * nT (X 3 0)) 8) 3 0 (Int32.ofNat (nT (X 3 0) + 1))
def sAdds : Nat → Nat → AI → AI
  | 0, _, X => X
  | n + 1, b, X => sAdds n (b + 1) (if X 15 b = 0 then X else sAdd b X)
def sOpen (X : AI) : AI := fl (cpI X 9 14 0 0 256) 15 32 0
def sFileR (call : Int32) (X : AI) : Int32 := if call < 0 then 9 else if call ≤ 6 then sRefuse call X else 9
def sFileX (call : Int32) (X : AI) : AI := if sFileR call X = 0 then sAdds 32 0 (sCarry call (sOpen X)) else X
def sLeft (X : AI) : Int32 := if X 3 0 = 0 then 0 else 2 * X 3 0 + 2 - X 3 1
def sCallF (call : Int32) (X : AI) : AI := if sLeft (sFileX call X) = 0 then sGo (up2 (sFileX call X) 2 3 (sFileR call X)) else sFileX call X
def cnt (X : AI) : Prop := X 3 0 = Int32.ofNat (nT (X 3 0)) ∧ nT (X 3 0) ≤ 3
section FD
variable {kad : Nat → Nat} {N : Nat} {e : Nat} {Z : AZ} {a κ : Nat} {I0 I X : AI}
theorem C63 (H : RC e Z a κ I0 I X) : Ok (f63 kad N Z (a + 3) I) (fun v J => v = sLeft X ∧ J = I) := by
  unfold f63 f63_b24 sLeft
  rw [H.rd (c := 3) (k := 0), H.rd (c := 3) (k := 1)]
  by_cases h : X 3 0 = 0
  · rw [if_neg (fun hh => hh h), if_pos h]
    exact Ok.ret ⟨rfl, rfl⟩
  · rw [if_pos h, if_neg h]
    exact Ok.ret ⟨rfl, rfl⟩
theorem RC.to0 (H : RC e Z a κ I0 I X) : RC 0 Z a κ I0 I X := by
  refine ⟨H.1, H.2.1, H.2.2.1, fun c k hr => H.2.2.2 c k ?_⟩
  unfold rel at hr ⊢
  split at hr <;> first
    | exact hr
    | exact absurd hr.1 (by decide)
theorem RC.add (H : RC 1 Z a κ I0 I X) {b : Nat} (hb : b < 32) (hn : nT (X 3 0) < 3) : RC 1 Z a κ I0 (up2 (cpI (up2 I (a + 4) (nT (X 3 0)) (Int32.ofNat b)) (a + 14) (a + 5) (8 * b) (8 * nT (X 3 0)) 8) (a + 3) 0 (Int32.ofNat (nT (X 3 0) + 1))) (up2 (cpI (up2 X 4 (nT (X 3 0)) (Int32.ofNat b)) 14 5 (8 * b) (8 * nT (X 3 0)) 8) 3 0 (Int32.ofNat (nT (X 3 0) + 1))) := by
  have H1 := H.up (c := 4) (k := nT (X 3 0)) (v := Int32.ofNat b) (by decide) (nc2 (by decide))
  generalize hn0 : nT (X 3 0) = n at hn H1
  have e30 : up2 X 4 n (Int32.ofNat b) 3 0 = X 3 0 := congrFun (up2_b (show ¬ 3 = 4 by decide)) 0
  have H2 : RC 1 Z a κ I0 (cpI (up2 I (a + 4) n (Int32.ofNat b)) (a + 14) (a + 5) (8 * b) (8 * n) 8) (cpI (up2 X 4 n (Int32.ofNat b)) 14 5 (8 * b) (8 * n) 8) := by
    refine H1.blk (c := 5) (Or.inl (by decide)) (fun q hq => cpI_b (by simpa [loc] using hq)) (fun d hd => cpI_b hd) (fun d k hd hdc => Or.inl ?_) (fun k hk => ?_)
    · refine (rel_cong ?_ ?_ ?_ ?_ ?_ ?_).mp hd <;> exact congrFun (cpI_b (by decide)) _
    · show cpI (up2 I (a + 4) n (Int32.ofNat b)) (a + 14) (a + 5) (8 * b) (8 * n) 8 (a + 5) k = _
      by_cases hk2 : 8 * n ≤ k ∧ k < 8 * n + 8
      · rw [cpI_at hk2, cpI_at hk2]
        exact H1.rd (c := 14) (by decide) ⟨rfl, by omega⟩
      · rw [cpI_out hk2, cpI_out hk2]
        refine H1.rd (c := 5) (by decide) ?_
        have hk3 : k < 8 * nT (cpI (up2 X 4 n (Int32.ofNat b)) 14 5 (8 * b) (8 * n) 8 3 0) ∧ k < 24 := hk
        rw [congrFun (cpI_b (show ¬ 3 = 5 by decide)) 0] at hk3
        exact hk3
  have e31 : cpI (up2 X 4 n (Int32.ofNat b)) 14 5 (8 * b) (8 * n) 8 3 0 = X 3 0 := by rw [congrFun (cpI_b (show ¬ 3 = 5 by decide)) 0, e30]
  refine H2.blk (c := 3) (Or.inl (by decide)) (fun q hq => up2_b (by simpa [loc] using hq)) (fun d hd => up2_b hd) (fun d k hd hdc => ?_) (fun k hk => ?_)
  · have en : nT (Int32.ofNat (n + 1)) = n + 1 := nT_of (by omega)
    unfold rel at hd
    split at hd <;> first
      | exact absurd rfl hdc
      | exact hd.elim
      | exact Or.inl hd
      | skip
    · have hd' : k < nT (up2 (cpI (up2 X 4 n (Int32.ofNat b)) 14 5 (8 * b) (8 * n) 8) 3 0 (Int32.ofNat (n + 1)) 3 0) ∧ k < 3 := hd
      rw [up2_eq, en] at hd'
      by_cases hk : k < n
      · refine Or.inl (show k < nT (cpI (up2 X 4 n (Int32.ofNat b)) 14 5 (8 * b) (8 * n) 8 3 0) ∧ k < 3 from ⟨?_, hd'.2⟩)
        rw [e31, hn0]
        exact hk
      · obtain rfl : k = n := by omega
        refine Or.inr ?_
        show cpI (up2 I (a + 4) k (Int32.ofNat b)) (a + 14) (a + 5) (8 * b) (8 * k) 8 (a + 4) k = cpI (up2 X 4 k (Int32.ofNat b)) 14 5 (8 * b) (8 * k) 8 4 k
        rw [congrFun (cpI_b (show ¬ 4 = 5 by decide)) k, congrFun (cpI_b (show ¬ a + 4 = a + 5 by omega)) k, up2_eq, up2_eq]
    · have hd' : k < 8 * nT (up2 (cpI (up2 X 4 n (Int32.ofNat b)) 14 5 (8 * b) (8 * n) 8) 3 0 (Int32.ofNat (n + 1)) 3 0) ∧ k < 24 := hd
      rw [up2_eq, en] at hd'
      by_cases hk : k < 8 * n
      · refine Or.inl (show k < 8 * nT (cpI (up2 X 4 n (Int32.ofNat b)) 14 5 (8 * b) (8 * n) 8 3 0) ∧ k < 24 from ⟨?_, hd'.2⟩)
        rw [e31, hn0]
        exact hk
      · refine Or.inr ?_
        show cpI (up2 I (a + 4) n (Int32.ofNat b)) (a + 14) (a + 5) (8 * b) (8 * n) 8 (a + 5) k = cpI (up2 X 4 n (Int32.ofNat b)) 14 5 (8 * b) (8 * n) 8 5 k
        rw [cpI_at (by omega), cpI_at (by omega)]
        exact H1.rd (c := 14) (by decide) ⟨rfl, by omega⟩
  · show up2 _ (a + 3) 0 _ (a + 3) k = up2 _ 3 0 _ 3 k
    by_cases hk0 : k = 0
    · subst hk0
      rw [up2_eq, up2_eq]
    · rw [up2_ne (fun h => hk0 h.2), up2_ne (fun h => hk0 h.2)]
      exact H2.rd (c := 3) (by decide) (show k < 2 from hk)
theorem C64 (ha : sh8 kad Z a) (H : RC 1 Z a κ I0 I X) (hc : cnt X) {b : Nat} (hb : b < 32) : Ok (f64 kad N Z (a + 3) (Int32.ofNat b) (a + 14) (Int32.ofNat b * 8) I) (fun _ J => RC 1 Z a κ I0 J (sAdd b X) ∧ cnt (sAdd b X)) := by
  obtain ⟨hc1, hc2⟩ := hc
  unfold f64 f64_b59 sAdd
  rw [H.rd (c := 3) (k := 0)]
  generalize hn : nT (X 3 0) = n at hc1 hc2
  rw [hc1]
  have m8 : Int32.ofNat b * 8 = Int32.ofNat (8 * b) := by
    rw [show Int32.ofNat (8 * b) = Int32.ofNat b * Int32.ofNat 8 from by rw [← Int32.ofNat_mul]; congr 1; omega]
    rfl
  by_cases h3 : 3 ≤ n
  · rw [if_pos (show (3 : Int32) ≤ Int32.ofNat n from (of_le (m := 3) (by decide) (by omega)).mpr h3), if_pos h3]
    exact Ok.ret ⟨H, by rw [cnt, hn]; exact ⟨hc1, hc2⟩⟩
  · rw [if_neg (show ¬ (3 : Int32) ≤ Int32.ofNat n from fun h => h3 ((of_le (m := 3) (by decide) (by omega)).mp h)), if_neg h3, m8, if_neg (of_nn (by omega))]
    have z14 : Z.1 (a + 14) = some (100, 256) := sh1_a0 (sh8_s5 ha)
    have z5 : Z.1 (a + 5) = some (100, 24) := sh4_a3 (sh2_s15 (sh8_s0 ha))
    rw [nL_of z14 (by decide), Option.bind_some, if_neg (show ¬ Int32.ofNat 256 < Int32.ofNat (8 * b) + 8 from fun h => by
      rw [show Int32.ofNat (8 * b) + 8 = Int32.ofNat (8 * b + 8) from (Int32.ofNat_add _ 8).symm, of_lt (by decide) (by omega)] at h; omega)]
    have e1 : nT (Int32.ofNat n) = n := nT_of (by omega)
    refine Ok.ix (of_nn (by omega)) (by rw [e1]; omega) (Ok.w ?_)
    rw [e1]
    have e30 : up2 I (a + 3 + 1) n (Int32.ofNat b) (a + 3) 0 = Int32.ofNat n := by
      rw [congrFun (up2_b (show ¬ a + 3 = a + 3 + 1 by omega)) 0, H.rd (c := 3) (k := 0), hc1]
    rw [e30, show Int32.ofNat n * 8 = Int32.ofNat (8 * n) from by
      rw [show Int32.ofNat (8 * n) = Int32.ofNat n * Int32.ofNat 8 from by rw [← Int32.ofNat_mul]; congr 1; omega]
      rfl]
    rw [show cI Z (up2 I (a + 3 + 1) n (Int32.ofNat b)) (a + 14) (Int32.ofNat (8 * b)) (a + 3 + 2) (Int32.ofNat (8 * n)) (8 : Int32) = some (cpI (up2 I (a + 4) n (Int32.ofNat b)) (a + 14) (a + 5) (8 * b) (8 * n) 8) from cI_ok (n := 8) z14 z5 (by omega) (by omega), Option.bind_some]
    refine Ok.w (Ok.ret ?_)
    rw [show cpI (up2 I (a + 4) n (Int32.ofNat b)) (a + 14) (a + 5) (8 * b) (8 * n) 8 (a + 3) 0 = Int32.ofNat n from by rw [congrFun (cpI_b (show ¬ a + 3 = a + 5 by omega)) 0]; exact e30, of_s]
    have HR := H.add hb (by omega)
    rw [hn] at HR
    refine ⟨HR, ?_⟩
    unfold cnt
    rw [up2_eq, show nT (Int32.ofNat (n + 1)) = n + 1 from nT_of (by omega)]
    exact ⟨rfl, by omega⟩
def sEI (t : Nat) : Int32 := if t < 6 then Int32.ofNat t else Int32.ofInt (-1)
theorem sE_le (X : AI) : sE X ≤ 6 := by
  unfold sE
  split
  · exact Nat.le_refl _
  · exact sFind_le 7 0 rfl (by decide)
theorem C26_b (hN : 2000 ≤ N) (ha : sh8 kad Z a) (H : RC e Z a κ I0 I X) (hw : wdk X) (call : Int32) (ht : sE X < 6) : Ok (f26_b64 kad N Z (a + 13) (a + 8) call (Int32.ofNat (sE X)) (a + 2) I) (fun v J => v = (if call = 1 then (if (16 : Int32) ≤ X 9 (40 + 4 * sE X + 1) then 2 else if nT (X 9 (40 + 4 * sE X + 1)) % 8 = 0 ∧ ¬ sFree (X 9) 25 8 < 32 then 3 else 0) else if (call = 2 ∨ call = 3) ∧ X 9 (40 + 4 * sE X + 1) ≤ X 2 1 then 2 else 0) ∧ J = I) := by
  have r1 : I (a + 2) 1 = X 2 1 := H.rd (c := 2) (k := 1)
  have z2 : Z.1 (a + 2) = some (100, 4) := sh2_a14 (sh8_s0 ha)
  have l1 : lI Z I 100 (a + 2) (1 : Int32) = some (I (a + 2) 1) := lI_a (k := 1) z2 (by decide)
  unfold f26_b64 f26_b109 f26_b110 f26_b121 f26_b133 f26_b134
  have hs := wd_nn (hw.1 (40 + 4 * sE X + 1) (by omega))
  refine (C50 H (t := sE X) (w := 1) ht (by decide)).bind fun v J ⟨hv, hJ⟩ => ?_
  subst hv hJ
  dsimp only
  by_cases h1 : call = 1
  · rw [if_neg (fun h => h h1), if_pos h1]
    by_cases h16 : X 9 (40 + 4 * sE X + 1) < 16
    · rw [if_pos h16, if_neg (show ¬ (16 : Int32) ≤ _ from fun h => by grind), C28 hs, Option.bind_some]
      dsimp only
      by_cases h8 : nT (X 9 (40 + 4 * sE X + 1)) % 8 = 0
      · simp only [if_pos h8]
        rw [if_neg z10]
        refine (C56 hN H (hw.1 32 (by decide)) (hw.1 33 (by decide))).bind fun v J ⟨hv, hJ⟩ => ?_
        subst hv hJ
        dsimp only
        have hf := (sFree_le (D := X 9) 25 8 rfl (by decide)).1
        by_cases hfr : sFree (X 9) 25 8 < 32
        · simp only [if_pos hfr]
          rw [if_pos (show (0 : Int32) ≤ Int32.ofNat _ from (of_le (m := 0) (by decide) (by omega)).mpr (by omega)), if_neg (fun h => h.2 hfr)]
          exact Ok.ret ⟨rfl, rfl⟩
        · simp only [if_neg hfr]
          rw [if_neg (by decide), if_pos ⟨h8, hfr⟩]
          exact Ok.ret ⟨rfl, rfl⟩
      · simp only [if_neg h8]
        rw [if_pos trivial, if_neg (fun h => h8 h.1)]
        exact Ok.ret ⟨rfl, rfl⟩
    · rw [if_neg h16, if_pos (show (16 : Int32) ≤ _ by grind)]
      exact Ok.ret ⟨rfl, rfl⟩
  rw [if_pos h1, if_neg h1, l1, Option.bind_some, r1]
  have cmp : Ok (if X 2 1 < X 9 (40 + 4 * sE X + 1) then some ((0 : Int32), J) else some ((2 : Int32), J)) (fun v J1 => v = (if X 9 (40 + 4 * sE X + 1) ≤ X 2 1 then 2 else 0) ∧ J1 = J) := by
    by_cases hlt : X 2 1 < X 9 (40 + 4 * sE X + 1)
    · rw [if_pos hlt, if_neg (show ¬ _ ≤ X 2 1 from fun h => by grind)]
      exact Ok.ret ⟨rfl, rfl⟩
    · rw [if_neg hlt, if_pos (show _ ≤ X 2 1 by grind)]
      exact Ok.ret ⟨rfl, rfl⟩
  by_cases h2 : call = 2
  · rw [if_pos h2]
    refine cmp.mono fun v J ⟨hv, hJ⟩ => ⟨?_, hJ⟩
    rw [hv]
    simp only [h2, true_or, true_and]
  · by_cases h3 : call = 3
    · rw [if_neg h2, if_neg (fun h => h h3)]
      refine cmp.mono fun v J ⟨hv, hJ⟩ => ⟨?_, hJ⟩
      rw [hv]
      simp only [h3, or_true, true_and]
    · rw [if_neg h2, if_pos h3, if_neg (fun h => h.1.elim h2 h3)]
      exact Ok.ret ⟨rfl, rfl⟩
theorem C26_r (hN : 2000 ≤ N) (ha : sh8 kad Z a) (H : RC e Z a κ I0 I X) (hw : wdk X) (call : Int32) (hc : ¬ call < 0) (hc6 : call ≤ 6) : Ok (f26 kad N Z (a + 13) call (sEI (sE X)) (a + 2) (a + 8) I) (fun v J => v = sRefuse call X ∧ J = I) := by
  have hle := sE_le X
  unfold f26 f26_b27 f26_b45 f26_b62 sRefuse
  rw [if_neg hc, if_pos hc6]
  have r0 : I (a + 2) 0 = X 2 0 := H.rd (c := 2) (k := 0)
  have r1 : I (a + 2) 1 = X 2 1 := H.rd (c := 2) (k := 1)
  have z2 : Z.1 (a + 2) = some (100, 4) := sh2_a14 (sh8_s0 ha)
  have l0 : lI Z I 100 (a + 2) (0 : Int32) = some (I (a + 2) 0) := lI_a (k := 0) z2 (by decide)
  have l1 : lI Z I 100 (a + 2) (1 : Int32) = some (I (a + 2) 1) := lI_a (k := 1) z2 (by decide)
  by_cases h0 : call = 0
  · rw [if_neg (fun h => h h0), if_pos h0]
    unfold sEI
    by_cases ht : sE X < 6
    · rw [if_pos ht, if_pos (show (0 : Int32) ≤ Int32.ofNat (sE X) from (of_le (m := 0) (by decide) (by omega)).mpr (by omega)), if_pos (Or.inl ht)]
      exact Ok.ret ⟨rfl, rfl⟩
    · rw [if_neg ht, if_neg (by decide), l0, Option.bind_some, r0]
      by_cases hz : X 2 0 = 0
      · rw [if_neg (fun h => h hz), if_pos (Or.inr hz)]
        exact Ok.ret ⟨rfl, rfl⟩
      · rw [if_pos hz, if_neg (show ¬ (sE X < 6 ∨ X 2 0 = 0) from fun h => h.elim ht hz)]
        refine (C51 hN H 0).bind fun v J ⟨hv, hJ⟩ => ?_
        subst hv hJ
        dsimp only
        have hf := sFind_le (D := X 9) (name := 0) 7 0 rfl (by decide)
        by_cases h6 : sFind (X 9) 0 7 0 < 6
        · simp only [if_pos h6]
          rw [if_pos (show (0 : Int32) ≤ Int32.ofNat _ from (of_le (m := 0) (by decide) (by omega)).mpr (by omega))]
          exact Ok.ret ⟨rfl, rfl⟩
        · simp only [if_neg h6]
          rw [if_neg (by decide)]
          exact Ok.ret ⟨rfl, rfl⟩
  rw [if_pos h0, if_neg h0]
  by_cases ht : sE X < 6
  · have e1 : sEI (sE X) = Int32.ofNat (sE X) := by unfold sEI; rw [if_pos ht]
    rw [e1, if_neg (of_nn (by omega))]
    have main := C26_b (kad := kad) hN ha H hw call ht
    by_cases h6 : call = 6
    · rw [if_neg (fun h => h h6), l1, Option.bind_some, r1]
      by_cases hz : X 2 1 = 0
      · rw [if_neg (fun h => h hz), if_pos (Or.inr ⟨h6, hz⟩)]
        exact Ok.ret ⟨rfl, rfl⟩
      · rw [if_pos hz, if_neg (show ¬ (¬ sE X < 6 ∨ (call = 6 ∧ X 2 1 = 0)) from fun h => h.elim (fun h => h ht) (fun h => hz h.2))]
        exact main
    · rw [if_pos h6, if_neg (show ¬ (¬ sE X < 6 ∨ (call = 6 ∧ X 2 1 = 0)) from fun h => h.elim (fun h => h ht) (fun h => h6 h.1))]
      exact main
  · have e1 : sEI (sE X) = Int32.ofInt (-1) := by unfold sEI; rw [if_neg ht]
    rw [e1, if_pos (by decide), if_pos (Or.inl ht)]
    exact Ok.ret ⟨rfl, rfl⟩
theorem C26 (hN : 2000 ≤ N) (ha : sh8 kad Z a) (H : RC e Z a κ I0 I X) (hw : wdk X) (call : Int32) : Ok (f26 kad N Z (a + 13) call (sEI (sE X)) (a + 2) (a + 8) I) (fun v J => v = sFileR call X ∧ J = I) := by
  unfold sFileR
  by_cases h : call < 0
  · rw [if_pos h]
    unfold f26 f26_b10
    rw [if_pos h]
    exact Ok.ret ⟨rfl, rfl⟩
  · rw [if_neg h]
    by_cases h6 : call ≤ 6
    · rw [if_pos h6]
      exact C26_r hN ha H hw call h h6
    · rw [if_neg h6]
      unfold f26 f26_b10
      rw [if_neg h, if_neg h6]
      exact Ok.ret ⟨rfl, rfl⟩
end FD
