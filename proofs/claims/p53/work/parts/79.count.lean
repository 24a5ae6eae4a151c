/-! another count of what was written, the same steps -/
def aw (t : Int32) (X : AI) : AI := fun c k => if c = 8 then X c k + t else X c k
section AW
variable {t : Int32} {X : AI}
theorem aw_r {c : Nat} (h : ¬ c = 8) : aw t X c = X c := by
  funext k
  unfold aw
  rw [if_neg h]
theorem aw_8 {k : Nat} : aw t X 8 k = X 8 k + t := by
  unfold aw
  rw [if_pos rfl]
theorem aw_u {c k : Nat} {v : Int32} (h : ¬ c = 8) : up2 (aw t X) c k v = aw t (up2 X c k v) := by
  funext b j
  by_cases hb : b = 8
  · subst hb
    rw [up2_ne (fun hh => h hh.1.symm), aw_8, aw_8, up2_ne (fun hh => h hh.1.symm)]
  · rw [aw_r hb]
    by_cases e : b = c ∧ j = k
    · obtain ⟨rfl, rfl⟩ := e
      rw [up2_eq, up2_eq]
    · rw [up2_ne e, up2_ne e, aw_r hb]
theorem aw_ite {p : Prop} [Decidable p] {a b : AI} : (if p then aw t a else aw t b) = aw t (if p then a else b) := by
  split <;> rfl
theorem aw_cp {a b s d n : Nat} (ha : ¬ a = 8) (hb : ¬ b = 8) : cpI (aw t X) a b s d n = aw t (cpI X a b s d n) := by
  funext c j
  by_cases hc : c = 8
  · subst hc
    rw [aw_8]
    unfold cpI
    rw [if_neg (fun hh : 8 = b ∧ d ≤ j ∧ j < d + n => hb hh.1.symm), aw_8, if_neg (fun hh : 8 = b ∧ d ≤ j ∧ j < d + n => hb hh.1.symm)]
  · rw [aw_r hc]
    unfold cpI
    rw [aw_r ha, aw_r hc]
theorem aw_fl {b n : Nat} {v : Int32} (hb : ¬ b = 8) : fl (aw t X) b n v = aw t (fl X b n v) := by
  funext c j
  by_cases hc : c = 8
  · subst hc
    rw [aw_8]
    unfold fl
    rw [if_neg (fun hh : 8 = b ∧ j < n => hb hh.1.symm), aw_8, if_neg (fun hh : 8 = b ∧ j < n => hb hh.1.symm)]
  · rw [aw_r hc]
    unfold fl
    rw [aw_r hc]
theorem aw_r1 : aw t X 1 = X 1 := aw_r (by decide)
theorem aw_r2 : aw t X 2 = X 2 := aw_r (by decide)
theorem aw_r3 : aw t X 3 = X 3 := aw_r (by decide)
theorem aw_r4 : aw t X 4 = X 4 := aw_r (by decide)
theorem aw_r5 : aw t X 5 = X 5 := aw_r (by decide)
theorem aw_r6 : aw t X 6 = X 6 := aw_r (by decide)
theorem aw_r7 : aw t X 7 = X 7 := aw_r (by decide)
theorem aw_r9 : aw t X 9 = X 9 := aw_r (by decide)
theorem aw_r10 : aw t X 10 = X 10 := aw_r (by decide)
theorem aw_r11 : aw t X 11 = X 11 := aw_r (by decide)
theorem aw_r12 : aw t X 12 = X 12 := aw_r (by decide)
theorem aw_r14 : aw t X 14 = X 14 := aw_r (by decide)
theorem aw_r15 : aw t X 15 = X 15 := aw_r (by decide)
theorem aw_r20 : aw t X 20 = X 20 := aw_r (by decide)
theorem aw_r26 : aw t X 26 = X 26 := aw_r (by decide)
theorem aw_r27 : aw t X 27 = X 27 := aw_r (by decide)
theorem aw_u1 {k : Nat} {v : Int32} : up2 (aw t X) 1 k v = aw t (up2 X 1 k v) := aw_u (by decide)
theorem aw_u2 {k : Nat} {v : Int32} : up2 (aw t X) 2 k v = aw t (up2 X 2 k v) := aw_u (by decide)
theorem aw_u3 {k : Nat} {v : Int32} : up2 (aw t X) 3 k v = aw t (up2 X 3 k v) := aw_u (by decide)
theorem aw_u4 {k : Nat} {v : Int32} : up2 (aw t X) 4 k v = aw t (up2 X 4 k v) := aw_u (by decide)
theorem aw_u5 {k : Nat} {v : Int32} : up2 (aw t X) 5 k v = aw t (up2 X 5 k v) := aw_u (by decide)
theorem aw_u6 {k : Nat} {v : Int32} : up2 (aw t X) 6 k v = aw t (up2 X 6 k v) := aw_u (by decide)
theorem aw_u7 {k : Nat} {v : Int32} : up2 (aw t X) 7 k v = aw t (up2 X 7 k v) := aw_u (by decide)
theorem aw_u14 {k : Nat} {v : Int32} : up2 (aw t X) 14 k v = aw t (up2 X 14 k v) := aw_u (by decide)
theorem aw_u15 {k : Nat} {v : Int32} : up2 (aw t X) 15 k v = aw t (up2 X 15 k v) := aw_u (by decide)
theorem aw_u20 {k : Nat} {v : Int32} : up2 (aw t X) 20 k v = aw t (up2 X 20 k v) := aw_u (by decide)
theorem aw_u26 {k : Nat} {v : Int32} : up2 (aw t X) 26 k v = aw t (up2 X 26 k v) := aw_u (by decide)
theorem aw_u27 {k : Nat} {v : Int32} : up2 (aw t X) 27 k v = aw t (up2 X 27 k v) := aw_u (by decide)
theorem sGo_aw : sGo (aw t X) = aw t (sGo X) := by
  simp only [sGo, aw_r1, aw_r2, aw_r3, aw_r4, aw_r5, aw_r6, aw_r7, aw_r9, aw_r10, aw_r11, aw_r12, aw_r14, aw_r15, aw_r20, aw_r26, aw_r27, aw_u1, aw_u2, aw_u3, aw_u4, aw_u5, aw_u6, aw_u7, aw_u14, aw_u15, aw_u20, aw_u26, aw_u27, aw_ite]
theorem sFail_aw {x : Int32} : sFail x (aw t X) = aw t (sFail x X) := by
  simp only [sFail, aw_r1, aw_r2, aw_r3, aw_r4, aw_r5, aw_r6, aw_r7, aw_r9, aw_r10, aw_r11, aw_r12, aw_r14, aw_r15, aw_r20, aw_r26, aw_r27, aw_u1, aw_u2, aw_u3, aw_u4, aw_u5, aw_u6, aw_u7, aw_u14, aw_u15, aw_u20, aw_u26, aw_u27, aw_ite, sGo_aw]
theorem sRd_aw {i : Int32} : sRd (aw t X) i = sRd X i := by
  simp only [sRd, aw_r1, aw_r2, aw_r3, aw_r4, aw_r5, aw_r6, aw_r7, aw_r9, aw_r10, aw_r11, aw_r12, aw_r14, aw_r15, aw_r20, aw_r26, aw_r27]
theorem sReg_aw {i : Int32} : sReg (aw t X) i = sReg X i := by
  simp only [sReg, aw_r1, aw_r2, aw_r3, aw_r4, aw_r5, aw_r6, aw_r7, aw_r9, aw_r10, aw_r11, aw_r12, aw_r14, aw_r15, aw_r20, aw_r26, aw_r27]
theorem sNote_aw {i w : Int32} : sNote i w (aw t X) = aw t (sNote i w X) := by
  simp only [sNote, aw_r1, aw_r2, aw_r3, aw_r4, aw_r5, aw_r6, aw_r7, aw_r9, aw_r10, aw_r11, aw_r12, aw_r14, aw_r15, aw_r20, aw_r26, aw_r27, aw_u1, aw_u2, aw_u3, aw_u4, aw_u5, aw_u6, aw_u7, aw_u14, aw_u15, aw_u20, aw_u26, aw_u27, aw_ite, sGo_aw, sFail_aw, sRd_aw, sReg_aw]
theorem sWr_aw {i w : Int32} : sWr i w (aw t X) = aw t (sWr i w X) := by
  simp only [sWr, aw_r1, aw_r2, aw_r3, aw_r4, aw_r5, aw_r6, aw_r7, aw_r9, aw_r10, aw_r11, aw_r12, aw_r14, aw_r15, aw_r20, aw_r26, aw_r27, aw_u1, aw_u2, aw_u3, aw_u4, aw_u5, aw_u6, aw_u7, aw_u14, aw_u15, aw_u20, aw_u26, aw_u27, aw_ite, sGo_aw, sFail_aw, sRd_aw, sReg_aw, sNote_aw]
theorem sPush_aw {w : Int32} : sPush w (aw t X) = aw t (sPush w X) := by
  simp only [sPush, aw_r1, aw_r2, aw_r3, aw_r4, aw_r5, aw_r6, aw_r7, aw_r9, aw_r10, aw_r11, aw_r12, aw_r14, aw_r15, aw_r20, aw_r26, aw_r27, aw_u1, aw_u2, aw_u3, aw_u4, aw_u5, aw_u6, aw_u7, aw_u14, aw_u15, aw_u20, aw_u26, aw_u27, aw_ite, sGo_aw, sFail_aw, sRd_aw, sReg_aw, sNote_aw, sWr_aw]
theorem sPullV_aw : sPullV (aw t X) = sPullV X := by
  simp only [sPullV, aw_r1, aw_r2, aw_r3, aw_r4, aw_r5, aw_r6, aw_r7, aw_r9, aw_r10, aw_r11, aw_r12, aw_r14, aw_r15, aw_r20, aw_r26, aw_r27, sGo_aw, sFail_aw, sRd_aw, sReg_aw, sNote_aw, sWr_aw, sPush_aw]
theorem sPullX_aw : sPullX (aw t X) = aw t (sPullX X) := by
  simp only [sPullX, aw_r1, aw_r2, aw_r3, aw_r4, aw_r5, aw_r6, aw_r7, aw_r9, aw_r10, aw_r11, aw_r12, aw_r14, aw_r15, aw_r20, aw_r26, aw_r27, aw_u1, aw_u2, aw_u3, aw_u4, aw_u5, aw_u6, aw_u7, aw_u14, aw_u15, aw_u20, aw_u26, aw_u27, aw_ite, sGo_aw, sFail_aw, sRd_aw, sReg_aw, sNote_aw, sWr_aw, sPush_aw, sPullV_aw]
theorem sZL_aw : sZL (aw t X) = sZL X := by
  simp only [sZL, aw_r1, aw_r2, aw_r3, aw_r4, aw_r5, aw_r6, aw_r7, aw_r9, aw_r10, aw_r11, aw_r12, aw_r14, aw_r15, aw_r20, aw_r26, aw_r27, sGo_aw, sFail_aw, sRd_aw, sReg_aw, sNote_aw, sWr_aw, sPush_aw, sPullV_aw, sPullX_aw]
theorem sSet_aw {i w : Int32} : sSet i w (aw t X) = aw t (sSet i w X) := by
  simp only [sSet, aw_r1, aw_r2, aw_r3, aw_r4, aw_r5, aw_r6, aw_r7, aw_r9, aw_r10, aw_r11, aw_r12, aw_r14, aw_r15, aw_r20, aw_r26, aw_r27, aw_u1, aw_u2, aw_u3, aw_u4, aw_u5, aw_u6, aw_u7, aw_u14, aw_u15, aw_u20, aw_u26, aw_u27, aw_ite, sGo_aw, sFail_aw, sRd_aw, sReg_aw, sNote_aw, sWr_aw, sPush_aw, sPullV_aw, sPullX_aw, sZL_aw]
theorem sJump_aw {op y : Int32} : sJump op y (aw t X) = aw t (sJump op y X) := by
  simp only [sJump, aw_r1, aw_r2, aw_r3, aw_r4, aw_r5, aw_r6, aw_r7, aw_r9, aw_r10, aw_r11, aw_r12, aw_r14, aw_r15, aw_r20, aw_r26, aw_r27, aw_u1, aw_u2, aw_u3, aw_u4, aw_u5, aw_u6, aw_u7, aw_u14, aw_u15, aw_u20, aw_u26, aw_u27, aw_ite, sGo_aw, sFail_aw, sRd_aw, sReg_aw, sNote_aw, sWr_aw, sPush_aw, sPullV_aw, sPullX_aw, sZL_aw, sSet_aw]
theorem sCalc_aw {op d y : Int32} : sCalc op d y (aw t X) = aw t (sCalc op d y X) := by
  simp only [sCalc, aw_r1, aw_r2, aw_r3, aw_r4, aw_r5, aw_r6, aw_r7, aw_r9, aw_r10, aw_r11, aw_r12, aw_r14, aw_r15, aw_r20, aw_r26, aw_r27, aw_u1, aw_u2, aw_u3, aw_u4, aw_u5, aw_u6, aw_u7, aw_u14, aw_u15, aw_u20, aw_u26, aw_u27, aw_ite, sGo_aw, sFail_aw, sRd_aw, sReg_aw, sNote_aw, sWr_aw, sPush_aw, sPullV_aw, sPullX_aw, sZL_aw, sSet_aw, sJump_aw]
theorem sMove_aw {op d y : Int32} : sMove op d y (aw t X) = aw t (sMove op d y X) := by
  simp only [sMove, aw_r1, aw_r2, aw_r3, aw_r4, aw_r5, aw_r6, aw_r7, aw_r9, aw_r10, aw_r11, aw_r12, aw_r14, aw_r15, aw_r20, aw_r26, aw_r27, aw_u1, aw_u2, aw_u3, aw_u4, aw_u5, aw_u6, aw_u7, aw_u14, aw_u15, aw_u20, aw_u26, aw_u27, aw_ite, sGo_aw, sFail_aw, sRd_aw, sReg_aw, sNote_aw, sWr_aw, sPush_aw, sPullV_aw, sPullX_aw, sZL_aw, sSet_aw, sJump_aw, sCalc_aw]
theorem sStack_aw {op d y : Int32} : sStack op d y (aw t X) = aw t (sStack op d y X) := by
  simp only [sStack, aw_r1, aw_r2, aw_r3, aw_r4, aw_r5, aw_r6, aw_r7, aw_r9, aw_r10, aw_r11, aw_r12, aw_r14, aw_r15, aw_r20, aw_r26, aw_r27, aw_u1, aw_u2, aw_u3, aw_u4, aw_u5, aw_u6, aw_u7, aw_u14, aw_u15, aw_u20, aw_u26, aw_u27, aw_ite, sGo_aw, sFail_aw, sRd_aw, sReg_aw, sNote_aw, sWr_aw, sPush_aw, sPullV_aw, sPullX_aw, sZL_aw, sSet_aw, sJump_aw, sCalc_aw, sMove_aw]
theorem sRti_aw : sRti (aw t X) = aw t (sRti X) := by
  simp only [sRti, aw_r1, aw_r2, aw_r3, aw_r4, aw_r5, aw_r6, aw_r7, aw_r9, aw_r10, aw_r11, aw_r12, aw_r14, aw_r15, aw_r20, aw_r26, aw_r27, aw_u1, aw_u2, aw_u3, aw_u4, aw_u5, aw_u6, aw_u7, aw_u14, aw_u15, aw_u20, aw_u26, aw_u27, aw_ite, sGo_aw, sFail_aw, sRd_aw, sReg_aw, sNote_aw, sWr_aw, sPush_aw, sPullV_aw, sPullX_aw, sZL_aw, sSet_aw, sJump_aw, sCalc_aw, sMove_aw, sStack_aw]
theorem sInt_aw : sInt (aw t X) = aw t (sInt X) := by
  simp only [sInt, aw_r1, aw_r2, aw_r3, aw_r4, aw_r5, aw_r6, aw_r7, aw_r9, aw_r10, aw_r11, aw_r12, aw_r14, aw_r15, aw_r20, aw_r26, aw_r27, aw_u1, aw_u2, aw_u3, aw_u4, aw_u5, aw_u6, aw_u7, aw_u14, aw_u15, aw_u20, aw_u26, aw_u27, aw_ite, sGo_aw, sFail_aw, sRd_aw, sReg_aw, sNote_aw, sWr_aw, sPush_aw, sPullV_aw, sPullX_aw, sZL_aw, sSet_aw, sJump_aw, sCalc_aw, sMove_aw, sStack_aw, sRti_aw]
theorem sTime_aw : sTime (aw t X) = aw t (sTime X) := by
  simp only [sTime, aw_r1, aw_r2, aw_r3, aw_r4, aw_r5, aw_r6, aw_r7, aw_r9, aw_r10, aw_r11, aw_r12, aw_r14, aw_r15, aw_r20, aw_r26, aw_r27, aw_u1, aw_u2, aw_u3, aw_u4, aw_u5, aw_u6, aw_u7, aw_u14, aw_u15, aw_u20, aw_u26, aw_u27, aw_ite, sGo_aw, sFail_aw, sRd_aw, sReg_aw, sNote_aw, sWr_aw, sPush_aw, sPullV_aw, sPullX_aw, sZL_aw, sSet_aw, sJump_aw, sCalc_aw, sMove_aw, sStack_aw, sRti_aw, sInt_aw]
theorem sTape_aw {w : Int32} : sTape w (aw t X) = aw t (sTape w X) := by
  simp only [sTape, aw_r1, aw_r2, aw_r3, aw_r4, aw_r5, aw_r6, aw_r7, aw_r9, aw_r10, aw_r11, aw_r12, aw_r14, aw_r15, aw_r20, aw_r26, aw_r27, aw_u1, aw_u2, aw_u3, aw_u4, aw_u5, aw_u6, aw_u7, aw_u14, aw_u15, aw_u20, aw_u26, aw_u27, aw_ite, sGo_aw, sFail_aw, sRd_aw, sReg_aw, sNote_aw, sWr_aw, sPush_aw, sPullV_aw, sPullX_aw, sZL_aw, sSet_aw, sJump_aw, sCalc_aw, sMove_aw, sStack_aw, sRti_aw, sInt_aw, sTime_aw]
theorem sPut_aw {b : Int32} {p : Nat} {w : Int32} : sPut b p w (aw t X) = aw t (sPut b p w X) := by
  simp only [sPut, aw_r1, aw_r2, aw_r3, aw_r4, aw_r5, aw_r6, aw_r7, aw_r9, aw_r10, aw_r11, aw_r12, aw_r14, aw_r15, aw_r20, aw_r26, aw_r27, aw_u1, aw_u2, aw_u3, aw_u4, aw_u5, aw_u6, aw_u7, aw_u14, aw_u15, aw_u20, aw_u26, aw_u27, aw_ite, sGo_aw, sFail_aw, sRd_aw, sReg_aw, sNote_aw, sWr_aw, sPush_aw, sPullV_aw, sPullX_aw, sZL_aw, sSet_aw, sJump_aw, sCalc_aw, sMove_aw, sStack_aw, sRti_aw, sInt_aw, sTime_aw, sTape_aw]
theorem sPE_aw {i w : Nat} {v : Int32} : sPE i w v (aw t X) = aw t (sPE i w v X) := by
  simp only [sPE, aw_r1, aw_r2, aw_r3, aw_r4, aw_r5, aw_r6, aw_r7, aw_r9, aw_r10, aw_r11, aw_r12, aw_r14, aw_r15, aw_r20, aw_r26, aw_r27, aw_u1, aw_u2, aw_u3, aw_u4, aw_u5, aw_u6, aw_u7, aw_u14, aw_u15, aw_u20, aw_u26, aw_u27, aw_ite, sGo_aw, sFail_aw, sRd_aw, sReg_aw, sNote_aw, sWr_aw, sPush_aw, sPullV_aw, sPullX_aw, sZL_aw, sSet_aw, sJump_aw, sCalc_aw, sMove_aw, sStack_aw, sRti_aw, sInt_aw, sTime_aw, sTape_aw, sPut_aw]
theorem sUse_aw {b : Int32} {u : Bool} : sUse b u (aw t X) = aw t (sUse b u X) := by
  simp only [sUse, aw_r1, aw_r2, aw_r3, aw_r4, aw_r5, aw_r6, aw_r7, aw_r9, aw_r10, aw_r11, aw_r12, aw_r14, aw_r15, aw_r20, aw_r26, aw_r27, aw_u1, aw_u2, aw_u3, aw_u4, aw_u5, aw_u6, aw_u7, aw_u14, aw_u15, aw_u20, aw_u26, aw_u27, aw_ite, sGo_aw, sFail_aw, sRd_aw, sReg_aw, sNote_aw, sWr_aw, sPush_aw, sPullV_aw, sPullX_aw, sZL_aw, sSet_aw, sJump_aw, sCalc_aw, sMove_aw, sStack_aw, sRti_aw, sInt_aw, sTime_aw, sTape_aw, sPut_aw, sPE_aw]
theorem sZero_aw {b : Int32} : ∀ n, sZero b n (aw t X) = aw t (sZero b n X) := by
  intro n
  induction n with
  | zero => rfl
  | succ n ih =>
    unfold sZero
    rw [ih, sPut_aw]
theorem sApp2_aw {i : Nat} {w z b : Int32} : sApp2 i w z b (aw t X) = aw t (sApp2 i w z b X) := by
  simp only [sApp2, aw_r1, aw_r2, aw_r3, aw_r4, aw_r5, aw_r6, aw_r7, aw_r9, aw_r10, aw_r11, aw_r12, aw_r14, aw_r15, aw_r20, aw_r26, aw_r27, aw_u1, aw_u2, aw_u3, aw_u4, aw_u5, aw_u6, aw_u7, aw_u14, aw_u15, aw_u20, aw_u26, aw_u27, aw_ite, sGo_aw, sFail_aw, sRd_aw, sReg_aw, sNote_aw, sWr_aw, sPush_aw, sPullV_aw, sPullX_aw, sZL_aw, sSet_aw, sJump_aw, sCalc_aw, sMove_aw, sStack_aw, sRti_aw, sInt_aw, sTime_aw, sTape_aw, sPut_aw, sPE_aw, sUse_aw, sZero_aw]
theorem sApp_aw {i : Nat} {w : Int32} : sApp i w (aw t X) = aw t (sApp i w X) := by
  simp only [sApp, aw_r1, aw_r2, aw_r3, aw_r4, aw_r5, aw_r6, aw_r7, aw_r9, aw_r10, aw_r11, aw_r12, aw_r14, aw_r15, aw_r20, aw_r26, aw_r27, aw_u1, aw_u2, aw_u3, aw_u4, aw_u5, aw_u6, aw_u7, aw_u14, aw_u15, aw_u20, aw_u26, aw_u27, aw_ite, sGo_aw, sFail_aw, sRd_aw, sReg_aw, sNote_aw, sWr_aw, sPush_aw, sPullV_aw, sPullX_aw, sZL_aw, sSet_aw, sJump_aw, sCalc_aw, sMove_aw, sStack_aw, sRti_aw, sInt_aw, sTime_aw, sTape_aw, sPut_aw, sPE_aw, sUse_aw, sZero_aw, sApp2_aw]
theorem sRm1_aw {b : Int32} : sRm1 b (aw t X) = aw t (sRm1 b X) := by
  simp only [sRm1, aw_r1, aw_r2, aw_r3, aw_r4, aw_r5, aw_r6, aw_r7, aw_r9, aw_r10, aw_r11, aw_r12, aw_r14, aw_r15, aw_r20, aw_r26, aw_r27, aw_u1, aw_u2, aw_u3, aw_u4, aw_u5, aw_u6, aw_u7, aw_u14, aw_u15, aw_u20, aw_u26, aw_u27, aw_ite, sGo_aw, sFail_aw, sRd_aw, sReg_aw, sNote_aw, sWr_aw, sPush_aw, sPullV_aw, sPullX_aw, sZL_aw, sSet_aw, sJump_aw, sCalc_aw, sMove_aw, sStack_aw, sRti_aw, sInt_aw, sTime_aw, sTape_aw, sPut_aw, sPE_aw, sUse_aw, sZero_aw, sApp2_aw, sApp_aw]
theorem sRm_aw {i : Nat} : sRm i (aw t X) = aw t (sRm i X) := by
  simp only [sRm, aw_r1, aw_r2, aw_r3, aw_r4, aw_r5, aw_r6, aw_r7, aw_r9, aw_r10, aw_r11, aw_r12, aw_r14, aw_r15, aw_r20, aw_r26, aw_r27, aw_u1, aw_u2, aw_u3, aw_u4, aw_u5, aw_u6, aw_u7, aw_u14, aw_u15, aw_u20, aw_u26, aw_u27, aw_ite, sGo_aw, sFail_aw, sRd_aw, sReg_aw, sNote_aw, sWr_aw, sPush_aw, sPullV_aw, sPullX_aw, sZL_aw, sSet_aw, sJump_aw, sCalc_aw, sMove_aw, sStack_aw, sRti_aw, sInt_aw, sTime_aw, sTape_aw, sPut_aw, sPE_aw, sUse_aw, sZero_aw, sApp2_aw, sApp_aw, sRm1_aw]
theorem sRen_aw {i : Nat} {w : Int32} : sRen i w (aw t X) = aw t (sRen i w X) := by
  simp only [sRen, aw_r1, aw_r2, aw_r3, aw_r4, aw_r5, aw_r6, aw_r7, aw_r9, aw_r10, aw_r11, aw_r12, aw_r14, aw_r15, aw_r20, aw_r26, aw_r27, aw_u1, aw_u2, aw_u3, aw_u4, aw_u5, aw_u6, aw_u7, aw_u14, aw_u15, aw_u20, aw_u26, aw_u27, aw_ite, sGo_aw, sFail_aw, sRd_aw, sReg_aw, sNote_aw, sWr_aw, sPush_aw, sPullV_aw, sPullX_aw, sZL_aw, sSet_aw, sJump_aw, sCalc_aw, sMove_aw, sStack_aw, sRti_aw, sInt_aw, sTime_aw, sTape_aw, sPut_aw, sPE_aw, sUse_aw, sZero_aw, sApp2_aw, sApp_aw, sRm1_aw, sRm_aw]
theorem sE_aw : sE (aw t X) = sE X := by
  simp only [sE, aw_r1, aw_r2, aw_r3, aw_r4, aw_r5, aw_r6, aw_r7, aw_r9, aw_r10, aw_r11, aw_r12, aw_r14, aw_r15, aw_r20, aw_r26, aw_r27, sGo_aw, sFail_aw, sRd_aw, sReg_aw, sNote_aw, sWr_aw, sPush_aw, sPullV_aw, sPullX_aw, sZL_aw, sSet_aw, sJump_aw, sCalc_aw, sMove_aw, sStack_aw, sRti_aw, sInt_aw, sTime_aw, sTape_aw, sPut_aw, sPE_aw, sUse_aw, sZero_aw, sApp2_aw, sApp_aw, sRm1_aw, sRm_aw, sRen_aw]
theorem sRefuse_aw {call : Int32} : sRefuse call (aw t X) = sRefuse call X := by
  simp only [sRefuse, aw_r1, aw_r2, aw_r3, aw_r4, aw_r5, aw_r6, aw_r7, aw_r9, aw_r10, aw_r11, aw_r12, aw_r14, aw_r15, aw_r20, aw_r26, aw_r27, sGo_aw, sFail_aw, sRd_aw, sReg_aw, sNote_aw, sWr_aw, sPush_aw, sPullV_aw, sPullX_aw, sZL_aw, sSet_aw, sJump_aw, sCalc_aw, sMove_aw, sStack_aw, sRti_aw, sInt_aw, sTime_aw, sTape_aw, sPut_aw, sPE_aw, sUse_aw, sZero_aw, sApp2_aw, sApp_aw, sRm1_aw, sRm_aw, sRen_aw, sE_aw]
theorem sCarry_aw {call : Int32} : sCarry call (aw t X) = aw t (sCarry call X) := by
  simp only [sCarry, aw_r1, aw_r2, aw_r3, aw_r4, aw_r5, aw_r6, aw_r7, aw_r9, aw_r10, aw_r11, aw_r12, aw_r14, aw_r15, aw_r20, aw_r26, aw_r27, aw_u1, aw_u2, aw_u3, aw_u4, aw_u5, aw_u6, aw_u7, aw_u14, aw_u15, aw_u20, aw_u26, aw_u27, aw_ite, sGo_aw, sFail_aw, sRd_aw, sReg_aw, sNote_aw, sWr_aw, sPush_aw, sPullV_aw, sPullX_aw, sZL_aw, sSet_aw, sJump_aw, sCalc_aw, sMove_aw, sStack_aw, sRti_aw, sInt_aw, sTime_aw, sTape_aw, sPut_aw, sPE_aw, sUse_aw, sZero_aw, sApp2_aw, sApp_aw, sRm1_aw, sRm_aw, sRen_aw, sE_aw, sRefuse_aw]
theorem sOpen_aw : sOpen (aw t X) = aw t (sOpen X) := by
  unfold sOpen
  rw [aw_cp (by decide) (by decide), aw_fl (by decide)]
theorem sAdd_aw {b : Nat} : sAdd b (aw t X) = aw t (sAdd b X) := by
  unfold sAdd
  rw [aw_r3]
  by_cases h : 3 ≤ nT (X 3 0)
  · rw [if_pos h, if_pos h]
  · rw [if_neg h, if_neg h, aw_u4, aw_cp (by decide) (by decide), aw_u3]
theorem sAdds_aw : ∀ (n b : Nat) (X : AI), sAdds n b (aw t X) = aw t (sAdds n b X) := by
  intro n
  induction n with
  | zero => intro b X; rfl
  | succ n ih =>
    intro b X
    unfold sAdds
    rw [aw_r15]
    by_cases h : X 15 b = 0
    · rw [if_pos h, if_pos h, ih]
    · rw [if_neg h, if_neg h, sAdd_aw, ih]
theorem sFileR_aw {call : Int32} : sFileR call (aw t X) = sFileR call X := by
  simp only [sFileR, aw_r1, aw_r2, aw_r3, aw_r4, aw_r5, aw_r6, aw_r7, aw_r9, aw_r10, aw_r11, aw_r12, aw_r14, aw_r15, aw_r20, aw_r26, aw_r27, sGo_aw, sFail_aw, sRd_aw, sReg_aw, sNote_aw, sWr_aw, sPush_aw, sPullV_aw, sPullX_aw, sZL_aw, sSet_aw, sJump_aw, sCalc_aw, sMove_aw, sStack_aw, sRti_aw, sInt_aw, sTime_aw, sTape_aw, sPut_aw, sPE_aw, sUse_aw, sZero_aw, sApp2_aw, sApp_aw, sRm1_aw, sRm_aw, sRen_aw, sE_aw, sRefuse_aw, sCarry_aw, sOpen_aw, sAdd_aw, sAdds_aw]
theorem sFileX_aw {call : Int32} : sFileX call (aw t X) = aw t (sFileX call X) := by
  simp only [sFileX, aw_r1, aw_r2, aw_r3, aw_r4, aw_r5, aw_r6, aw_r7, aw_r9, aw_r10, aw_r11, aw_r12, aw_r14, aw_r15, aw_r20, aw_r26, aw_r27, aw_u1, aw_u2, aw_u3, aw_u4, aw_u5, aw_u6, aw_u7, aw_u14, aw_u15, aw_u20, aw_u26, aw_u27, aw_ite, sGo_aw, sFail_aw, sRd_aw, sReg_aw, sNote_aw, sWr_aw, sPush_aw, sPullV_aw, sPullX_aw, sZL_aw, sSet_aw, sJump_aw, sCalc_aw, sMove_aw, sStack_aw, sRti_aw, sInt_aw, sTime_aw, sTape_aw, sPut_aw, sPE_aw, sUse_aw, sZero_aw, sApp2_aw, sApp_aw, sRm1_aw, sRm_aw, sRen_aw, sE_aw, sRefuse_aw, sCarry_aw, sOpen_aw, sAdd_aw, sAdds_aw, sFileR_aw]
theorem sLeft_aw : sLeft (aw t X) = sLeft X := by
  simp only [sLeft, aw_r1, aw_r2, aw_r3, aw_r4, aw_r5, aw_r6, aw_r7, aw_r9, aw_r10, aw_r11, aw_r12, aw_r14, aw_r15, aw_r20, aw_r26, aw_r27, sGo_aw, sFail_aw, sRd_aw, sReg_aw, sNote_aw, sWr_aw, sPush_aw, sPullV_aw, sPullX_aw, sZL_aw, sSet_aw, sJump_aw, sCalc_aw, sMove_aw, sStack_aw, sRti_aw, sInt_aw, sTime_aw, sTape_aw, sPut_aw, sPE_aw, sUse_aw, sZero_aw, sApp2_aw, sApp_aw, sRm1_aw, sRm_aw, sRen_aw, sE_aw, sRefuse_aw, sCarry_aw, sOpen_aw, sAdd_aw, sAdds_aw, sFileR_aw, sFileX_aw]
theorem sCallF_aw {call : Int32} : sCallF call (aw t X) = aw t (sCallF call X) := by
  simp only [sCallF, aw_r1, aw_r2, aw_r3, aw_r4, aw_r5, aw_r6, aw_r7, aw_r9, aw_r10, aw_r11, aw_r12, aw_r14, aw_r15, aw_r20, aw_r26, aw_r27, aw_u1, aw_u2, aw_u3, aw_u4, aw_u5, aw_u6, aw_u7, aw_u14, aw_u15, aw_u20, aw_u26, aw_u27, aw_ite, sGo_aw, sFail_aw, sRd_aw, sReg_aw, sNote_aw, sWr_aw, sPush_aw, sPullV_aw, sPullX_aw, sZL_aw, sSet_aw, sJump_aw, sCalc_aw, sMove_aw, sStack_aw, sRti_aw, sInt_aw, sTime_aw, sTape_aw, sPut_aw, sPE_aw, sUse_aw, sZero_aw, sApp2_aw, sApp_aw, sRm1_aw, sRm_aw, sRen_aw, sE_aw, sRefuse_aw, sCarry_aw, sOpen_aw, sAdd_aw, sAdds_aw, sFileR_aw, sFileX_aw, sLeft_aw]
theorem sWBl_8 {b k : Nat} {f : Nat → Int32} : sWBl b f X 8 k = if k = 1 then X 8 1 + 1 else X 8 k := by
  unfold sWBl
  rw [if_neg (by omega), if_neg (by omega), if_neg (by omega)]
  by_cases hk : k = 1
  · rw [if_pos ⟨rfl, hk⟩, if_pos hk]
  · rw [if_neg (fun hh => hk hh.2), if_neg hk]
theorem sWBl_aw {b : Nat} {f : Nat → Int32} : sWBl b f (aw t X) = aw t (sWBl b f X) := by
  funext c k
  by_cases hc : c = 8
  · subst hc
    rw [aw_8, sWBl_8, sWBl_8, aw_8, aw_8]
    by_cases hk : k = 1
    · rw [if_pos hk, if_pos hk]
      grind
    · rw [if_neg hk, if_neg hk]
  · rw [aw_r hc]
    unfold sWBl
    rw [aw_r9, aw_r hc]
    by_cases h : c = 8 ∧ k = 1
    · exact absurd h.1 hc
    · simp only [if_neg h]
theorem sBegin_aw : sBegin (aw t X) = aw t (sBegin X) := by
  funext c k
  by_cases hc : c = 8
  · subst hc
    rw [aw_8, sBegin_lo (by omega), sBegin_lo (by omega), aw_8]
  · rw [aw_r hc]
    unfold sBegin
    rw [aw_r1, aw_r2, aw_r3, aw_r4, aw_r5, aw_r hc]
theorem sDone_aw : sDone (aw t X) = aw t (sDone X) := by
  simp only [sDone, aw_r1, aw_r2, aw_r3, aw_r4, aw_r5, aw_r6, aw_r7, aw_r9, aw_r10, aw_r11, aw_r12, aw_r14, aw_r15, aw_r20, aw_r26, aw_r27, aw_u1, aw_u2, aw_u3, aw_u4, aw_u5, aw_u6, aw_u7, aw_u14, aw_u15, aw_u20, aw_u26, aw_u27, aw_ite, sGo_aw, sFail_aw, sRd_aw, sReg_aw, sNote_aw, sWr_aw, sPush_aw, sPullV_aw, sPullX_aw, sZL_aw, sSet_aw, sJump_aw, sCalc_aw, sMove_aw, sStack_aw, sRti_aw, sInt_aw, sTime_aw, sTape_aw, sPut_aw, sPE_aw, sUse_aw, sZero_aw, sApp2_aw, sApp_aw, sRm1_aw, sRm_aw, sRen_aw, sE_aw, sRefuse_aw, sCarry_aw, sOpen_aw, sAdd_aw, sAdds_aw, sFileR_aw, sFileX_aw, sLeft_aw, sCallF_aw, sWBl_aw, sBegin_aw]
theorem sWNB_aw : sWNB (aw t X) = aw t (sWNB X) := by
  simp only [sWNB, aw_r1, aw_r2, aw_r3, aw_r4, aw_r5, aw_r6, aw_r7, aw_r9, aw_r10, aw_r11, aw_r12, aw_r14, aw_r15, aw_r20, aw_r26, aw_r27, aw_u1, aw_u2, aw_u3, aw_u4, aw_u5, aw_u6, aw_u7, aw_u14, aw_u15, aw_u20, aw_u26, aw_u27, aw_ite, sGo_aw, sFail_aw, sRd_aw, sReg_aw, sNote_aw, sWr_aw, sPush_aw, sPullV_aw, sPullX_aw, sZL_aw, sSet_aw, sJump_aw, sCalc_aw, sMove_aw, sStack_aw, sRti_aw, sInt_aw, sTime_aw, sTape_aw, sPut_aw, sPE_aw, sUse_aw, sZero_aw, sApp2_aw, sApp_aw, sRm1_aw, sRm_aw, sRen_aw, sE_aw, sRefuse_aw, sCarry_aw, sOpen_aw, sAdd_aw, sAdds_aw, sFileR_aw, sFileX_aw, sLeft_aw, sCallF_aw, sWBl_aw, sBegin_aw, sDone_aw]
theorem sCome_aw {s : Int32} : ∀ n i, sCome (aw t X) s n i = sCome X s n i := by
  intro n
  induction n with
  | zero => intro i; rfl
  | succ n ih =>
    intro i
    unfold sCome
    rw [ih, aw_r10, aw_r12]
theorem sTold_aw {s : Int32} : ∀ n i, sTold (aw t X) s n i = sTold X s n i := by
  intro n
  induction n with
  | zero => intro i; rfl
  | succ n ih =>
    intro i
    unfold sTold
    rw [ih, aw_r10, aw_r12]
theorem sKeyV_aw {i : Int32} : sKeyV (aw t X) i = sKeyV X i := by
  simp only [sKeyV, aw_r1, aw_r2, aw_r3, aw_r4, aw_r5, aw_r6, aw_r7, aw_r9, aw_r10, aw_r11, aw_r12, aw_r14, aw_r15, aw_r20, aw_r26, aw_r27]
theorem sKey_aw {d : Int32} : sKey d (aw t X) = aw t (sKey d X) := by
  simp only [sKey, aw_r1, aw_r2, aw_r3, aw_r4, aw_r5, aw_r6, aw_r7, aw_r9, aw_r10, aw_r11, aw_r12, aw_r14, aw_r15, aw_r20, aw_r26, aw_r27, aw_u1, aw_u2, aw_u3, aw_u4, aw_u5, aw_u6, aw_u7, aw_u14, aw_u15, aw_u20, aw_u26, aw_u27, aw_ite, sGo_aw, sFail_aw, sRd_aw, sReg_aw, sNote_aw, sWr_aw, sPush_aw, sPullV_aw, sPullX_aw, sZL_aw, sSet_aw, sJump_aw, sCalc_aw, sMove_aw, sStack_aw, sRti_aw, sInt_aw, sTime_aw, sTape_aw, sPut_aw, sPE_aw, sUse_aw, sZero_aw, sApp2_aw, sApp_aw, sRm1_aw, sRm_aw, sRen_aw, sE_aw, sRefuse_aw, sCarry_aw, sOpen_aw, sAdd_aw, sAdds_aw, sFileR_aw, sFileX_aw, sLeft_aw, sCallF_aw, sWBl_aw, sBegin_aw, sDone_aw, sWNB_aw, sCome_aw, sTold_aw, sKeyV_aw]
theorem sCtl_aw {op d y : Int32} : sCtl op d y (aw t X) = aw t (sCtl op d y X) := by
  simp only [sCtl, aw_r1, aw_r2, aw_r3, aw_r4, aw_r5, aw_r6, aw_r7, aw_r9, aw_r10, aw_r11, aw_r12, aw_r14, aw_r15, aw_r20, aw_r26, aw_r27, aw_u1, aw_u2, aw_u3, aw_u4, aw_u5, aw_u6, aw_u7, aw_u14, aw_u15, aw_u20, aw_u26, aw_u27, aw_ite, sGo_aw, sFail_aw, sRd_aw, sReg_aw, sNote_aw, sWr_aw, sPush_aw, sPullV_aw, sPullX_aw, sZL_aw, sSet_aw, sJump_aw, sCalc_aw, sMove_aw, sStack_aw, sRti_aw, sInt_aw, sTime_aw, sTape_aw, sPut_aw, sPE_aw, sUse_aw, sZero_aw, sApp2_aw, sApp_aw, sRm1_aw, sRm_aw, sRen_aw, sE_aw, sRefuse_aw, sCarry_aw, sOpen_aw, sAdd_aw, sAdds_aw, sFileR_aw, sFileX_aw, sLeft_aw, sCallF_aw, sWBl_aw, sBegin_aw, sDone_aw, sWNB_aw, sCome_aw, sTold_aw, sKeyV_aw, sKey_aw]
theorem sDo_aw {op d y : Int32} : sDo op d y (aw t X) = aw t (sDo op d y X) := by
  simp only [sDo, aw_r1, aw_r2, aw_r3, aw_r4, aw_r5, aw_r6, aw_r7, aw_r9, aw_r10, aw_r11, aw_r12, aw_r14, aw_r15, aw_r20, aw_r26, aw_r27, aw_u1, aw_u2, aw_u3, aw_u4, aw_u5, aw_u6, aw_u7, aw_u14, aw_u15, aw_u20, aw_u26, aw_u27, aw_ite, sGo_aw, sFail_aw, sRd_aw, sReg_aw, sNote_aw, sWr_aw, sPush_aw, sPullV_aw, sPullX_aw, sZL_aw, sSet_aw, sJump_aw, sCalc_aw, sMove_aw, sStack_aw, sRti_aw, sInt_aw, sTime_aw, sTape_aw, sPut_aw, sPE_aw, sUse_aw, sZero_aw, sApp2_aw, sApp_aw, sRm1_aw, sRm_aw, sRen_aw, sE_aw, sRefuse_aw, sCarry_aw, sOpen_aw, sAdd_aw, sAdds_aw, sFileR_aw, sFileX_aw, sLeft_aw, sCallF_aw, sWBl_aw, sBegin_aw, sDone_aw, sWNB_aw, sCome_aw, sTold_aw, sKeyV_aw, sKey_aw, sCtl_aw]
theorem sIns_aw : sIns (aw t X) = aw t (sIns X) := by
  simp only [sIns, aw_r1, aw_r2, aw_r3, aw_r4, aw_r5, aw_r6, aw_r7, aw_r9, aw_r10, aw_r11, aw_r12, aw_r14, aw_r15, aw_r20, aw_r26, aw_r27, aw_u1, aw_u2, aw_u3, aw_u4, aw_u5, aw_u6, aw_u7, aw_u14, aw_u15, aw_u20, aw_u26, aw_u27, aw_ite, sGo_aw, sFail_aw, sRd_aw, sReg_aw, sNote_aw, sWr_aw, sPush_aw, sPullV_aw, sPullX_aw, sZL_aw, sSet_aw, sJump_aw, sCalc_aw, sMove_aw, sStack_aw, sRti_aw, sInt_aw, sTime_aw, sTape_aw, sPut_aw, sPE_aw, sUse_aw, sZero_aw, sApp2_aw, sApp_aw, sRm1_aw, sRm_aw, sRen_aw, sE_aw, sRefuse_aw, sCarry_aw, sOpen_aw, sAdd_aw, sAdds_aw, sFileR_aw, sFileX_aw, sLeft_aw, sCallF_aw, sWBl_aw, sBegin_aw, sDone_aw, sWNB_aw, sCome_aw, sTold_aw, sKeyV_aw, sKey_aw, sCtl_aw, sDo_aw]
theorem sCore_aw : sCore (aw t X) = aw t (sCore X) := by
  simp only [sCore, aw_r1, aw_r2, aw_r3, aw_r4, aw_r5, aw_r6, aw_r7, aw_r9, aw_r10, aw_r11, aw_r12, aw_r14, aw_r15, aw_r20, aw_r26, aw_r27, aw_u1, aw_u2, aw_u3, aw_u4, aw_u5, aw_u6, aw_u7, aw_u14, aw_u15, aw_u20, aw_u26, aw_u27, aw_ite, sGo_aw, sFail_aw, sRd_aw, sReg_aw, sNote_aw, sWr_aw, sPush_aw, sPullV_aw, sPullX_aw, sZL_aw, sSet_aw, sJump_aw, sCalc_aw, sMove_aw, sStack_aw, sRti_aw, sInt_aw, sTime_aw, sTape_aw, sPut_aw, sPE_aw, sUse_aw, sZero_aw, sApp2_aw, sApp_aw, sRm1_aw, sRm_aw, sRen_aw, sE_aw, sRefuse_aw, sCarry_aw, sOpen_aw, sAdd_aw, sAdds_aw, sFileR_aw, sFileX_aw, sLeft_aw, sCallF_aw, sWBl_aw, sBegin_aw, sDone_aw, sWNB_aw, sCome_aw, sTold_aw, sKeyV_aw, sKey_aw, sCtl_aw, sDo_aw, sIns_aw]
theorem sKeys_aw : sKeys (aw t X) = aw t (sKeys X) := by
  simp only [sKeys, aw_r1, aw_r2, aw_r3, aw_r4, aw_r5, aw_r6, aw_r7, aw_r9, aw_r10, aw_r11, aw_r12, aw_r14, aw_r15, aw_r20, aw_r26, aw_r27, aw_u1, aw_u2, aw_u3, aw_u4, aw_u5, aw_u6, aw_u7, aw_u14, aw_u15, aw_u20, aw_u26, aw_u27, aw_ite, sGo_aw, sFail_aw, sRd_aw, sReg_aw, sNote_aw, sWr_aw, sPush_aw, sPullV_aw, sPullX_aw, sZL_aw, sSet_aw, sJump_aw, sCalc_aw, sMove_aw, sStack_aw, sRti_aw, sInt_aw, sTime_aw, sTape_aw, sPut_aw, sPE_aw, sUse_aw, sZero_aw, sApp2_aw, sApp_aw, sRm1_aw, sRm_aw, sRen_aw, sE_aw, sRefuse_aw, sCarry_aw, sOpen_aw, sAdd_aw, sAdds_aw, sFileR_aw, sFileX_aw, sLeft_aw, sCallF_aw, sWBl_aw, sBegin_aw, sDone_aw, sWNB_aw, sCome_aw, sTold_aw, sKeyV_aw, sKey_aw, sCtl_aw, sDo_aw, sIns_aw, sCore_aw]
theorem sStep_aw : sStep (aw t X) = aw t (sStep X) := by
  simp only [sStep, aw_r1, aw_r2, aw_r3, aw_r4, aw_r5, aw_r6, aw_r7, aw_r9, aw_r10, aw_r11, aw_r12, aw_r14, aw_r15, aw_r20, aw_r26, aw_r27, aw_u1, aw_u2, aw_u3, aw_u4, aw_u5, aw_u6, aw_u7, aw_u14, aw_u15, aw_u20, aw_u26, aw_u27, aw_ite, sGo_aw, sFail_aw, sRd_aw, sReg_aw, sNote_aw, sWr_aw, sPush_aw, sPullV_aw, sPullX_aw, sZL_aw, sSet_aw, sJump_aw, sCalc_aw, sMove_aw, sStack_aw, sRti_aw, sInt_aw, sTime_aw, sTape_aw, sPut_aw, sPE_aw, sUse_aw, sZero_aw, sApp2_aw, sApp_aw, sRm1_aw, sRm_aw, sRen_aw, sE_aw, sRefuse_aw, sCarry_aw, sOpen_aw, sAdd_aw, sAdds_aw, sFileR_aw, sFileX_aw, sLeft_aw, sCallF_aw, sWBl_aw, sBegin_aw, sDone_aw, sWNB_aw, sCome_aw, sTold_aw, sKeyV_aw, sKey_aw, sCtl_aw, sDo_aw, sIns_aw, sCore_aw, sKeys_aw]
theorem sFl_aw : sFl (aw t X) = sFl X := by
  simp only [sFl, aw_r1, aw_r2, aw_r3, aw_r4, aw_r5, aw_r6, aw_r7, aw_r9, aw_r10, aw_r11, aw_r12, aw_r14, aw_r15, aw_r20, aw_r26, aw_r27, sGo_aw, sFail_aw, sRd_aw, sReg_aw, sNote_aw, sWr_aw, sPush_aw, sPullV_aw, sPullX_aw, sZL_aw, sSet_aw, sJump_aw, sCalc_aw, sMove_aw, sStack_aw, sRti_aw, sInt_aw, sTime_aw, sTape_aw, sPut_aw, sPE_aw, sUse_aw, sZero_aw, sApp2_aw, sApp_aw, sRm1_aw, sRm_aw, sRen_aw, sE_aw, sRefuse_aw, sCarry_aw, sOpen_aw, sAdd_aw, sAdds_aw, sFileR_aw, sFileX_aw, sLeft_aw, sCallF_aw, sWBl_aw, sBegin_aw, sDone_aw, sWNB_aw, sCome_aw, sTold_aw, sKeyV_aw, sKey_aw, sCtl_aw, sDo_aw, sIns_aw, sCore_aw, sKeys_aw, sStep_aw]
theorem sumX_aw : sumX (aw t X) = sumX X := by
  unfold sumX sS4 sS3 sS2 sS1
  rw [aw_r1, aw_r2, aw_r6, aw_r7, aw_r9, sFl_aw, sLeft_aw]
theorem sIt_aw : ∀ (j : Nat) (X : AI), sIt j (aw t X) = aw t (sIt j X) := by
  intro j
  induction j with
  | zero => intro X; rfl
  | succ j ih =>
    intro X
    unfold sIt
    rw [ih, sStep_aw]
theorem aw_ov {K : AI} : ov K (aw t X) = aw t (ov K X) := by
  funext c k
  by_cases hc : c = 8
  · subst hc
    rw [aw_8, ov_r8, ov_r8, aw_8]
  · rw [aw_r hc]
    unfold ov
    rw [aw_r hc]
theorem aw_wake {M D : Nat → Int32} {W V : Int32} : wake M D V = aw (V - W) (wake M D W) := by
  funext c k
  by_cases hc : c = 8
  · subst hc
    rw [aw_8]
    unfold wake
    rw [if_neg (by decide), if_neg (by decide), if_pos rfl, if_neg (by decide), if_neg (by decide), if_pos rfl]
    grind
  · rw [aw_r hc]
    unfold wake
    rw [if_neg hc, if_neg hc]
theorem tr_aw {K : AI} {M D : Nat → Int32} {W V : Int32} (j : Nat) : tr K (wake M D V) j = aw (V - W) (tr K (wake M D W) j) := by
  unfold tr
  rw [aw_wake (V := V) (W := W), aw_ov, sKeys_aw, sIt_aw]
end AW
