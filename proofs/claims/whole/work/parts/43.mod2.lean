/-! the model's instructions, but for the file calls -/
theorem sSet_of {X : AI} {d : Nat} {w : Int32} (hd : d < 4) : sSet (Int32.ofNat d) w X = up2 X 2 d w := by
  unfold sSet
  rw [if_neg (of_nn (by omega)), if_neg (show ¬ (4 : Int32) ≤ Int32.ofNat d from fun hh => absurd ((of_le (m := 4) (by decide) (by omega)).mp hh) (by omega)), nT_of (by omega)]
theorem sReg_of {X : AI} {d : Nat} (hd : d < 4) : sReg X (Int32.ofNat d) = X 2 d := by
  unfold sReg
  rw [if_neg (of_nn (by omega)), if_neg (show ¬ (4 : Int32) ≤ Int32.ofNat d from fun hh => absurd ((of_le (m := 4) (by decide) (by omega)).mp hh) (by omega)), nT_of (by omega)]
theorem sNote_up {i v z : Int32} {X : AI} {c k : Nat} (hc : c < 20) : sNote i v (up2 X c k z) = up2 (sNote i v X) c k z := by
  unfold sNote
  rw [show up2 X c k z 20 = X 20 from up2_b (by omega)]
  split
  · rfl
  · split
    · rfl
    · rw [up2_comm (c := c) (k := k) (fun h => absurd h.1 (by omega)), up2_comm (c := c) (k := k) (fun h => absurd h.1 (by omega)), up2_comm (c := c) (k := k) (fun h => absurd h.1 (by omega))]
theorem sWr_up {i v z : Int32} {X : AI} {c k : Nat} (hc : c < 20) (h6 : ¬ c = 6) : sWr i v (up2 X c k z) = up2 (sWr i v X) c k z := by
  unfold sWr
  rw [show up2 X c k z 6 = X 6 from up2_b (by omega)]
  split
  · rfl
  · split
    · rfl
    · rw [sNote_up hc, up2_comm (fun h => h6 h.1)]
theorem M229 {kad : Nat → Nat} {N : Nat} {Z : AZ} {I : AI} (w k : Int32) : f229 kad N Z w k 0 I = some (w >>> (k &&& 31), I) ∧ f229 kad N Z w k 1 I = some ((w <<< (k &&& 31)) - (w <<< (k &&& 31)) / 65536 * 65536, I) := by
  unfold f229 f229_b16
  exact ⟨by rw [if_pos rfl], by rw [if_neg z10]⟩
theorem M230 {kad : Nat → Nat} {N : Nat} {Z : AZ} {I : AI} (op w y : Int32) : f230 kad N Z op w y I = some (mMade op w y, I) := by
  unfold f230 f230_b24 f230_b88 f230_b92 mMade
  by_cases h4 : op = 4
  · rw [if_neg (fun h => h h4), if_pos h4]
  rw [if_pos h4, if_neg h4]
  by_cases h5 : op = 5
  · rw [if_pos h5, if_pos (Or.inl h5)]
  rw [if_neg h5]
  by_cases h11 : op = 11
  · rw [if_neg (fun h => h h11), if_pos (Or.inr h11)]
  rw [if_pos h11, if_neg (show ¬ (op = 5 ∨ op = 11) from fun h => h.elim h5 h11)]
  by_cases h6 : op = 6
  · rw [if_neg (fun h => h h6), if_pos h6]
  rw [if_pos h6, if_neg h6]
  by_cases h7 : op = 7
  · rw [if_neg (fun h => h h7), if_pos h7]
  rw [if_pos h7, if_neg h7]
  by_cases h8 : op = 8
  · rw [if_neg (fun h => h h8), if_pos h8]
  rw [if_pos h8, if_neg h8]
  by_cases h9 : op = 9
  · rw [if_neg (fun h => h h9), if_pos h9, (M229 _ _).2, Option.bind_some]
  rw [if_pos h9, if_neg h9, (M229 _ _).1, Option.bind_some]
section M2
variable {kad : Nat → Nat} {N : Nat} {Z : AZ} {e m s : Nat} {I0 I X : AI}
theorem M231_4 (H : MR e m s I0 I X) {op y : Int32} {d : Nat} (hd : d < 4) (hr : ∀ k, k < 4 → wd (X 2 k)) (hy : wd y) (ho : op = 4 ∨ op = 5 ∨ op = 6 ∨ op = 7 ∨ op = 8 ∨ op = 9 ∨ op = 10 ∨ op = 11) : Ok (f231 kad N Z m op (Int32.ofNat d) y I) (fun _ J => MR e m s I0 J (sCalc op (Int32.ofNat d) y X)) := by
  have n0 : ¬ op = 0 ∧ ¬ op = 1 ∧ ¬ op = 2 ∧ ¬ op = 3 := by
    rcases ho with rfl | rfl | rfl | rfl | rfl | rfl | rfl | rfl <;> decide
  obtain ⟨q1, q2⟩ := made_w (hr d hd) hy ho
  unfold f231 f231_b162
  rw [if_pos n0.1, show I m 27 = X 1 3 from H.r1 (k := 3) (by decide)]
  refine Ok.w ?_
  have H1 := H.u1 (k := 3) (v := X 1 3 + 2) (by decide)
  rw [if_pos n0.2.1, if_pos n0.2.2.1, if_pos n0.2.2.2, ixA_of hd, Option.bind_some, show up2 I m 27 (X 1 3 + 2) (m + 16) d = X 2 d from by rw [up2_b (by omega)]; exact H.r2 hd, M230, Option.bind_some]
  unfold sCalc
  dsimp only
  rw [sReg_of hd, q1, q2]
  have c0 : (0 : Int64).toInt = 0 := by decide
  have c6 : (65536 : Int64).toInt = 65536 := by decide
  have hw : wd (mW16 (mMade op (X 2 d) y)) := by rw [← q1]; exact sW16_wd _
  generalize mMade op (X 2 d) y = r at hw
  show Ok (if lg_cmp r 0 < 0 then f231_b117 kad N Z m op (Int32.ofNat d) (mW16 r) _ else if lg_cmp r 65536 < 0 then f231_b122 kad N Z m op (Int32.ofNat d) (mW16 r) (0 : Int32) _ else f231_b117 kad N Z m op (Int32.ofNat d) (mW16 r) _) _
  unfold f231_b117
  have fin : ∀ (l : Int32), l = 0 ∨ l = 1 → Ok (f231_b122 kad N Z m op (Int32.ofNat d) (mW16 r) l (up2 I m 27 (X 1 3 + 2))) (fun _ J => MR e m s I0 J (sGo (if op = 11 then up2 (up2 X 1 6 l) 1 5 (if mW16 r = 0 then 1 else 0) else sSet (Int32.ofNat d) (mW16 r) (up2 (up2 X 1 6 l) 1 5 (if mW16 r = 0 then 1 else 0))))) := fun l hl => by
    unfold f231_b122
    refine Ok.wb hl ?_
    have H2 := H1.u1 (k := 6) (v := l) (by decide)
    have last : ∀ (z : Int32), z = 0 ∨ z = 1 → Ok (f231_b136 kad N Z m op (Int32.ofNat d) (mW16 r) z (up2 (up2 I m 27 (X 1 3 + 2)) m 30 l)) (fun _ J => MR e m s I0 J (sGo (if op = 11 then up2 (up2 X 1 6 l) 1 5 z else sSet (Int32.ofNat d) (mW16 r) (up2 (up2 X 1 6 l) 1 5 z)))) := fun z hz => by
      unfold f231_b136 f231_b161 f231_b162
      refine Ok.wb hz ?_
      have H3 := H2.u1 (k := 5) (v := z) (by decide)
      have c1 : up2 (up2 (up2 X 1 3 (X 1 3 + 2)) 1 6 l) 1 5 z = up2 (up2 (up2 X 1 6 l) 1 5 z) 1 3 (X 1 3 + 2) := by
        rw [up2_comm (c := 1) (k := 3) (by decide), up2_comm (c := 1) (k := 3) (by decide)]
      rw [c1] at H3
      have g3 : up2 (up2 X 1 6 l) 1 5 z 1 3 = X 1 3 := by rw [up2_ne (by decide), up2_ne (by decide)]
      by_cases h11 : op = 11
      · rw [if_neg (fun h => h h11), if_pos h11, ixA_of hd, Option.bind_some, Option.bind_some]
        refine Ok.w (Ok.ret ?_)
        unfold sGo
        rw [g3]
        rw [up2_self (c := m + 16) (k := d) rfl]
        exact H3
      · rw [if_pos h11, if_neg h11, ixA_of hd, Option.bind_some]
        refine Ok.w (Ok.ret ?_)
        rw [sSet_of hd]
        unfold sGo
        rw [up2_ne (by omega), g3]
        have := H3.u2 (v := mW16 r) hd
        rwa [up2_comm (c := 1) (k := 3) (by omega)] at this
    by_cases h0 : mW16 r = 0
    · rw [if_neg (fun h => h h0), if_pos h0]
      exact last 1 (Or.inr rfl)
    · rw [if_pos h0, if_neg h0]
      exact last 0 (Or.inl rfl)
  by_cases h0 : r.toInt < 0
  · rw [if_pos ((lgc_lt _ _).mpr (by rw [c0]; exact h0)), if_pos h0]
    exact fin 1 (Or.inr rfl)
  · rw [if_neg (fun h => h0 (by have := (lgc_lt _ _).mp h; rwa [c0] at this)), if_neg h0]
    by_cases h1 : r.toInt < 65536
    · rw [if_pos ((lgc_lt _ _).mpr (by rw [c6]; exact h1)), if_pos h1]
      exact fin 0 (Or.inl rfl)
    · rw [if_neg (fun h => h1 (by have := (lgc_lt _ _).mp h; rwa [c6] at this)), if_neg h1]
      exact fin 1 (Or.inr rfl)
theorem M231_0 (H : MR e m s I0 I X) (hs : X 1 2 = Int32.ofNat s) (hs2 : s < 2000) (hw : nw 0 X) {op y : Int32} {d : Nat} (hd : d < 4) (hy : ¬ y < 0) (ho : op = 0 ∨ op = 1 ∨ op = 2 ∨ op = 3) (hy2 : op = 2 ∨ op = 3 → nT y < 256) : Ok (f231 kad N Z m op (Int32.ofNat d) y I) (fun _ J => MR e m s I0 J (sMove op (Int32.ofNat d) y X)) := by
  unfold f231 f231_b162 sMove
  have e3 : I m 27 = X 1 3 := H.r1 (k := 3) (by decide)
  have y256 : nT y < 256 → y < 256 := fun h => by
    rw [← of_nT hy]
    exact (of_lt (n := 256) (by omega) (by decide)).mpr h
  by_cases h0 : op = 0
  · rw [if_neg (fun h => h h0), if_pos h0]
    exact Ok.w (Ok.ret (H.u1 (k := 0) (by decide)))
  rw [if_pos h0, if_neg h0, e3]
  refine Ok.w ?_
  have H1 := H.u1 (k := 3) (v := X 1 3 + 2) (by decide)
  by_cases h1 : op = 1
  · rw [if_neg (fun h => h h1), if_pos h1, ixA_of hd, Option.bind_some, sSet_of hd]
    refine Ok.w (Ok.ret ?_)
    have := H1.u2 (v := y) hd
    unfold sGo
    rw [up2_ne (by omega)]
    rwa [up2_comm (c := 1) (k := 3) (by omega)] at this
  rw [if_pos h1, if_neg h1]
  by_cases h2 : op = 2
  · have hb := hy2 (Or.inl h2)
    rw [if_neg (fun h => h h2), if_pos (y256 hb), if_pos h2, ixA_i hy hb, Option.bind_some, ixA_of hd, Option.bind_some, sSet_of hd]
    refine Ok.w (Ok.ret ?_)
    have hv : up2 I m 27 (X 1 3 + 2) (m + 15) (nT y) = sRd X y := by
      rw [up2_b (by omega), H.r6 hb]
      have := sRd_of (X := X) hb
      rw [of_nT hy] at this
      exact this.symm
    rw [hv]
    have := H1.u2 (v := sRd X y) hd
    unfold sGo
    rw [up2_ne (by omega)]
    rwa [up2_comm (c := 1) (k := 3) (by omega)] at this
  have h3 : op = 3 := by
    rcases ho with h | h | h | h
    · exact absurd h h0
    · exact absurd h h1
    · exact absurd h h2
    · exact h
  have hb := hy2 (Or.inr h3)
  rw [if_pos h2, if_neg (fun h => h h3), if_pos (y256 hb), if_neg h2, ixA_of hd, Option.bind_some, show up2 I m 27 (X 1 3 + 2) (m + 16) d = X 2 d from by rw [up2_b (by omega)]; exact H.r2 hd, sReg_of hd]
  refine (M218 (kad := kad) (N := N) (Z := Z) (v := X 2 d) H1 (by rw [up2_ne (by decide)]; exact hs) hs2 (w := 0) hw (by decide) hy hb).bind fun u J ⟨HJ, _⟩ => Ok.ret ?_
  rw [sWr_up (by decide) (by decide)] at HJ
  unfold sGo
  rwa [show sWr y (X 2 d) X 1 = X 1 from sWr_lo (by decide) (by decide)]
end M2
