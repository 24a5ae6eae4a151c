/-! a shape that holds such cells -/
def HB (kad : Nat → Nat) (Z : AZ) (a : Nat) (L : List AEnt) : Prop := ∀ j e, L[j]? = some e → Z.1 (a + j) = some (e.1, e.2.1) ∧ (¬ e.1 = 7 → ¬ e.1 = 8 → ∀ k r, e.2.2 k = .ref r → ∀ x, Z.2.1 (a + j) k x = r) ∧ (e.1 = 8 → ∀ k r, ¬ k = 7 → e.2.2 k = .ref r → ∀ x, Z.2.1 (a + j) k x = r) ∧ (e.1 = 7 → (∀ x, Z.2.1 (a + j) 0 x = kad (dzo x)) ∧ ∀ i, i < 9 → Z.2.2 (a + j) 0 (kad i) = Int32.ofNat i)
section HBS
variable {kad : Nat → Nat} {Z : AZ} {a o j n k r : Nat} {e : AEnt} {L L' : List AEnt}
theorem HB.sub (h : HB kad Z a L) (hs : ∀ j e, L'[j]? = some e → L[o + j]? = some e) : HB kad Z (a + o) L' := fun j e hj => by
  have := h (o + j) e (hs j e hj)
  rw [← Nat.add_assoc] at this
  exact this
theorem HB.zz (h : HB kad Z a L) (hj : L[j]? = some e) : Z.1 (a + j) = some (e.1, e.2.1) := (h j e hj).1
theorem HB.rf (h : HB kad Z a L) (hj : L[j]? = some e) (h7 : ¬ e.1 = 7) (h8 : ¬ e.1 = 8) (hk : e.2.2 k = .ref r) : ∀ x, Z.2.1 (a + j) k x = r := (h j e hj).2.1 h7 h8 k r hk
theorem HB.r8 (h : HB kad Z a L) (hj : L[j]? = some e) (h8 : e.1 = 8) (h7 : ¬ k = 7) (hk : e.2.2 k = .ref r) : ∀ x, Z.2.1 (a + j) k x = r := (h j e hj).2.2.1 h8 k r h7 hk
theorem sh7_of (h : HB kad Z a (Lc7 kad a)) : sh7 kad Z a := ⟨h.zz (j := 0) rfl, ((h 0 _ rfl).2.2.2 rfl).1, ((h 0 _ rfl).2.2.2 rfl).2⟩
theorem sh3_of (h : HB kad Z a (Lc3 a)) : sh3 kad Z a := ⟨h.zz (j := 0) rfl, h.rf (j := 0) rfl (show ¬ (3 : Nat) = 7 by decide) (show ¬ (3 : Nat) = 8 by decide) rfl, h.zz (j := 1) rfl⟩
theorem sh4_of (h : HB kad Z a (Lc4 a)) : sh4 kad Z a := ⟨h.zz (j := 0) rfl, h.rf (j := 0) rfl (show ¬ (4 : Nat) = 7 by decide) (show ¬ (4 : Nat) = 8 by decide) rfl, h.zz (j := 1) rfl, h.rf (j := 0) rfl (show ¬ (4 : Nat) = 7 by decide) (show ¬ (4 : Nat) = 8 by decide) rfl, h.zz (j := 2) rfl⟩
theorem sh6_of (h : HB kad Z a (Lc6 a)) : sh6 kad Z a := ⟨h.zz (j := 0) rfl, h.rf (j := 0) rfl (show ¬ (6 : Nat) = 7 by decide) (show ¬ (6 : Nat) = 8 by decide) rfl, h.zz (j := 1) rfl, h.rf (j := 0) rfl (show ¬ (6 : Nat) = 7 by decide) (show ¬ (6 : Nat) = 8 by decide) rfl, h.zz (j := 2) rfl⟩
theorem sh1_of (h : HB kad Z a (Lc1 a)) : sh1 kad Z a := ⟨h.zz (j := 0) rfl, h.rf (j := 0) rfl (show ¬ (1 : Nat) = 7 by decide) (show ¬ (1 : Nat) = 8 by decide) rfl, h.zz (j := 1) rfl, h.rf (j := 0) rfl (show ¬ (1 : Nat) = 7 by decide) (show ¬ (1 : Nat) = 8 by decide) rfl, h.zz (j := 2) rfl⟩
theorem sh9_of (h : HB kad Z a (Lc9 a)) : sh9 kad Z a := ⟨h.zz (j := 0) rfl, h.rf (j := 0) rfl (show ¬ (9 : Nat) = 7 by decide) (show ¬ (9 : Nat) = 8 by decide) rfl, h.zz (j := 1) rfl, h.rf (j := 0) rfl (show ¬ (9 : Nat) = 7 by decide) (show ¬ (9 : Nat) = 8 by decide) rfl, h.zz (j := 2) rfl⟩
theorem sh2_of (h : HB kad Z a (Lc2 a)) : sh2 kad Z a := by
  refine ⟨h.zz (j := 0) rfl, h.rf (j := 0) rfl (show ¬ (2 : Nat) = 7 by decide) (show ¬ (2 : Nat) = 8 by decide) rfl, h.zz (j := 1) rfl, h.rf (j := 0) rfl (show ¬ (2 : Nat) = 7 by decide) (show ¬ (2 : Nat) = 8 by decide) rfl, sh4_of (h.sub fun j e hj => ?_)⟩
  match j, hj with
  | 0, hj => exact hj
  | 1, hj => exact hj
  | 2, hj => exact hj
  | n + 3, hj => cases hj
theorem sh5_of (h : HB kad Z a (Lc5 a)) : sh5 kad Z a := by
  have d7 : ¬ (5 : Nat) = 7 := by decide
  have d8 : ¬ (5 : Nat) = 8 := by decide
  refine ⟨h.zz (j := 0) rfl, h.rf (j := 0) rfl d7 d8 rfl, sh2_of (h.sub fun j e hj => ?_), h.rf (j := 0) rfl d7 d8 rfl, h.zz (j := 6) rfl, h.rf (j := 0) rfl d7 d8 rfl, h.zz (j := 7) rfl, h.rf (j := 0) rfl d7 d8 rfl, h.zz (j := 8) rfl⟩
  match j, hj with
  | 0, hj => exact hj
  | 1, hj => exact hj
  | 2, hj => exact hj
  | 3, hj => exact hj
  | 4, hj => exact hj
  | n + 5, hj => cases hj
theorem sh8_of (h : HB kad Z a (Lc8 a)) (hk : ∀ x, sh5 kad Z (Z.2.1 a 7 x)) : sh8 kad Z a := by
  refine ⟨h.zz (j := 0) rfl, h.r8 (j := 0) rfl rfl (by decide) rfl, sh2_of (h.sub fun j e hj => ?_), h.r8 (j := 0) rfl rfl (by decide) rfl, h.zz (j := 6) rfl, h.r8 (j := 0) rfl rfl (by decide) rfl, h.zz (j := 7) rfl, h.r8 (j := 0) rfl rfl (by decide) rfl, sh3_of (h.sub fun j e hj => ?_), h.r8 (j := 0) rfl rfl (by decide) rfl, sh6_of (h.sub fun j e hj => ?_), h.r8 (j := 0) rfl rfl (by decide) rfl, sh1_of (h.sub fun j e hj => ?_), h.r8 (j := 0) rfl rfl (by decide) rfl, h.zz (j := 16) rfl, hk⟩
  · match j, hj with
    | 0, hj => exact hj
    | 1, hj => exact hj
    | 2, hj => exact hj
    | 3, hj => exact hj
    | 4, hj => exact hj
    | n + 5, hj => cases hj
  · match j, hj with
    | 0, hj => exact hj
    | 1, hj => exact hj
    | n + 2, hj => cases hj
  · match j, hj with
    | 0, hj => exact hj
    | 1, hj => exact hj
    | 2, hj => exact hj
    | n + 3, hj => cases hj
  · match j, hj with
    | 0, hj => exact hj
    | 1, hj => exact hj
    | 2, hj => exact hj
    | n + 3, hj => cases hj
theorem sh8_own (h : HB kad Z a (Lc8 a)) : sh5 kad Z (a + 17) := by
  refine sh5_of (h.sub fun j e hj => ?_)
  match j, hj with
  | 0, hj => exact hj
  | 1, hj => exact hj
  | 2, hj => exact hj
  | 3, hj => exact hj
  | 4, hj => exact hj
  | 5, hj => exact hj
  | 6, hj => exact hj
  | 7, hj => exact hj
  | 8, hj => exact hj
  | n + 9, hj => cases hj
/-- the made rows' own cells -/
theorem cJ_at {LC : Nat → List AEnt} {ci N : Nat} {f : Nat → Value} {R : List AEnt} {q w p' k0 i t : Nat} (hw : ∀ b, (LC b).length = w) (hR : R.length + 1 = q) (ht : t < w) (hi : i < n) : (cJ LC ci N f R a q w p' k0 n n)[q + (w * i + t)]? = (LC (a + (q + w * i)))[t]? := by
  have e : ((ci, (N, f)) :: R.set p' (100 + k0, (n, aJ a q w n))).length = q := by
    show (R.set p' _).length + 1 = q
    rw [List.length_set]
    exact hR
  show (((ci, (N, f)) :: R.set p' (100 + k0, (n, aJ a q w n))) ++ gJ LC a q w n)[q + (w * i + t)]? = _
  rw [List.getElem?_append_right (by rw [e]; omega), e, Nat.add_sub_cancel_left]
  exact gJ_at hw ht hi
theorem cJ_lo {LC : Nat → List AEnt} {ci N : Nat} {f : Nat → Value} {R : List AEnt} {q w p' k0 : Nat} (h : j < R.length) (hp : ¬ p' = j) : (cJ LC ci N f R a q w p' k0 n n)[j + 1]? = R[j]? := by
  show (R.set p' (100 + k0, (n, aJ a q w n)) ++ gJ LC a q w n)[j]? = R[j]?
  rw [List.getElem?_append_left (by rw [List.length_set]; exact h), List.getElem?_set_ne hp]
theorem cJ_row {LC : Nat → List AEnt} {ci N : Nat} {f : Nat → Value} {R : List AEnt} {q w p' k0 : Nat} (h : p' < R.length) : (cJ LC ci N f R a q w p' k0 n n)[p' + 1]? = some (100 + k0, (n, aJ a q w n)) := by
  show (R.set p' (100 + k0, (n, aJ a q w n)) ++ gJ LC a q w n)[p']? = _
  rw [List.getElem?_append_left (by rw [List.length_set]; exact h), List.getElem?_set_self h]
theorem sh0_of (h : HB kad Z a (Lc0 kad a)) : sh0 kad Z a := by
  have d7 : ¬ (0 : Nat) = 7 := by decide
  have d8 : ¬ (0 : Nat) = 8 := by decide
  have hrow : (Lc0 kad a)[2]? = some (104, (100, aJ a 12 1 100)) := cJ_row (by decide)
  have hlo : ∀ j, j < 11 → ¬ 1 = j → (Lc0 kad a)[j + 1]? = Lr0[j]? := fun j h1 h2 => cJ_lo h1 h2
  refine ⟨h.zz (j := 0) rfl, h.rf (j := 0) rfl d7 d8 rfl, h.zz (j := 1) (hlo 0 (by decide) (by decide)), h.rf (j := 0) rfl d7 d8 rfl, h.zz hrow, fun j hj => ?_, fun j hj => ?_, h.rf (j := 0) rfl d7 d8 rfl, h.zz (j := 3) (hlo 2 (by decide) (by decide)), h.rf (j := 0) rfl d7 d8 rfl, h.zz (j := 4) (hlo 3 (by decide) (by decide)), h.rf (j := 0) rfl d7 d8 rfl, h.zz (j := 5) (hlo 4 (by decide) (by decide)), h.rf (j := 0) rfl d7 d8 rfl, h.zz (j := 6) (hlo 5 (by decide) (by decide)), h.rf (j := 0) rfl d7 d8 rfl, h.zz (j := 7) (hlo 6 (by decide) (by decide)), h.rf (j := 0) rfl d7 d8 rfl, h.zz (j := 8) (hlo 7 (by decide) (by decide)), h.rf (j := 0) rfl d7 d8 rfl, h.zz (j := 9) (hlo 8 (by decide) (by decide)), h.rf (j := 0) rfl d7 d8 rfl, h.zz (j := 10) (hlo 9 (by decide) (by decide)), h.rf (j := 0) rfl d7 d8 rfl, h.zz (j := 11) (hlo 10 (by decide) (by decide))⟩
  · have h1 := aJ_at (a := a) (q := 12) (w := 1) hj
    rw [Nat.one_mul] at h1
    exact h.rf hrow (show ¬ (104 : Nat) = 7 by decide) (show ¬ (104 : Nat) = 8 by decide) h1
  · refine sh7_of (h.sub fun i e hi => ?_)
    match i, hi with
    | 0, hi =>
      have h1 := cJ_at (LC := Lc7 kad) (ci := 0) (N := 16) (f := Lf0 a) (R := Lr0) (a := a) (q := 12) (w := 1) (p' := 1) (k0 := 4) (t := 0) (fun b => Lc7_len) rfl (by decide) hj
      rw [Nat.one_mul] at h1
      exact h1.trans hi
    | n + 1, hi => cases hi
end HBS
