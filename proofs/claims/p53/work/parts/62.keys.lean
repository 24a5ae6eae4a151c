/-! other keys, the same steps -/
def ov (K X : AI) : AI := fun c k => if 10 ≤ c ∧ c ≤ 12 then K c k else X c k
section OV
variable {K X : AI}
theorem ov_r {c : Nat} (h : ¬ (10 ≤ c ∧ c ≤ 12)) : ov K X c = X c := by
  funext k
  unfold ov
  rw [if_neg h]
theorem ov_k {c : Nat} (h : 10 ≤ c ∧ c ≤ 12) : ov K X c = K c := by
  funext k
  unfold ov
  rw [if_pos h]
theorem ov_u {c k : Nat} {v : Int32} (h : ¬ (10 ≤ c ∧ c ≤ 12)) : up2 (ov K X) c k v = ov K (up2 X c k v) := by
  funext b j
  by_cases hb : 10 ≤ b ∧ b ≤ 12
  · have hbc : ¬ b = c := fun e => h (e ▸ hb)
    rw [up2_ne (fun hh => hbc hh.1), ov_k hb, ov_k hb]
  · rw [ov_r hb]
    by_cases e : b = c ∧ j = k
    · obtain ⟨rfl, rfl⟩ := e
      rw [up2_eq, up2_eq]
    · rw [up2_ne e, up2_ne e, ov_r hb]
theorem ov_ite {p : Prop} [Decidable p] {a b : AI} : (if p then ov K a else ov K b) = ov K (if p then a else b) := by
  split <;> rfl
theorem ov_ov {J : AI} : ov K (ov J X) = ov K X := by
  funext b j
  unfold ov
  by_cases hb : 10 ≤ b ∧ b ≤ 12
  · rw [if_pos hb, if_pos hb]
  · rw [if_neg hb, if_neg hb, if_neg hb]
theorem ov_cp {a b s d n : Nat} (ha : ¬ (10 ≤ a ∧ a ≤ 12)) (hb : ¬ (10 ≤ b ∧ b ≤ 12)) : cpI (ov K X) a b s d n = ov K (cpI X a b s d n) := by
  funext c j
  by_cases hc : 10 ≤ c ∧ c ≤ 12
  · rw [ov_k hc]
    unfold cpI
    rw [if_neg (fun hh : c = b ∧ d ≤ j ∧ j < d + n => hb (hh.1 ▸ hc)), ov_k hc]
  · rw [ov_r hc]
    unfold cpI
    rw [ov_r ha, ov_r hc]
theorem ov_fl {b n : Nat} {v : Int32} (hb : ¬ (10 ≤ b ∧ b ≤ 12)) : fl (ov K X) b n v = ov K (fl X b n v) := by
  funext c j
  by_cases hc : 10 ≤ c ∧ c ≤ 12
  · rw [ov_k hc]
    unfold fl
    rw [if_neg (fun hh : c = b ∧ j < n => hb (hh.1 ▸ hc)), ov_k hc]
  · rw [ov_r hc]
    unfold fl
    rw [ov_r hc]
theorem ov_r1 : ov K X 1 = X 1 := ov_r (by decide)
theorem ov_r2 : ov K X 2 = X 2 := ov_r (by decide)
theorem ov_r3 : ov K X 3 = X 3 := ov_r (by decide)
theorem ov_r4 : ov K X 4 = X 4 := ov_r (by decide)
theorem ov_r5 : ov K X 5 = X 5 := ov_r (by decide)
theorem ov_r6 : ov K X 6 = X 6 := ov_r (by decide)
theorem ov_r7 : ov K X 7 = X 7 := ov_r (by decide)
theorem ov_r8 : ov K X 8 = X 8 := ov_r (by decide)
theorem ov_r9 : ov K X 9 = X 9 := ov_r (by decide)
theorem ov_r14 : ov K X 14 = X 14 := ov_r (by decide)
theorem ov_r15 : ov K X 15 = X 15 := ov_r (by decide)
theorem ov_r20 : ov K X 20 = X 20 := ov_r (by decide)
theorem ov_r26 : ov K X 26 = X 26 := ov_r (by decide)
theorem ov_r27 : ov K X 27 = X 27 := ov_r (by decide)
theorem ov_u1 {k : Nat} {v : Int32} : up2 (ov K X) 1 k v = ov K (up2 X 1 k v) := ov_u (by decide)
theorem ov_u2 {k : Nat} {v : Int32} : up2 (ov K X) 2 k v = ov K (up2 X 2 k v) := ov_u (by decide)
theorem ov_u3 {k : Nat} {v : Int32} : up2 (ov K X) 3 k v = ov K (up2 X 3 k v) := ov_u (by decide)
theorem ov_u4 {k : Nat} {v : Int32} : up2 (ov K X) 4 k v = ov K (up2 X 4 k v) := ov_u (by decide)
theorem ov_u5 {k : Nat} {v : Int32} : up2 (ov K X) 5 k v = ov K (up2 X 5 k v) := ov_u (by decide)
theorem ov_u6 {k : Nat} {v : Int32} : up2 (ov K X) 6 k v = ov K (up2 X 6 k v) := ov_u (by decide)
theorem ov_u7 {k : Nat} {v : Int32} : up2 (ov K X) 7 k v = ov K (up2 X 7 k v) := ov_u (by decide)
theorem ov_u8 {k : Nat} {v : Int32} : up2 (ov K X) 8 k v = ov K (up2 X 8 k v) := ov_u (by decide)
theorem ov_u14 {k : Nat} {v : Int32} : up2 (ov K X) 14 k v = ov K (up2 X 14 k v) := ov_u (by decide)
theorem ov_u15 {k : Nat} {v : Int32} : up2 (ov K X) 15 k v = ov K (up2 X 15 k v) := ov_u (by decide)
theorem ov_u20 {k : Nat} {v : Int32} : up2 (ov K X) 20 k v = ov K (up2 X 20 k v) := ov_u (by decide)
theorem ov_u26 {k : Nat} {v : Int32} : up2 (ov K X) 26 k v = ov K (up2 X 26 k v) := ov_u (by decide)
theorem ov_u27 {k : Nat} {v : Int32} : up2 (ov K X) 27 k v = ov K (up2 X 27 k v) := ov_u (by decide)
theorem sGo_ov : sGo (ov K X) = ov K (sGo X) := by
  simp only [sGo, ov_r1, ov_r2, ov_r3, ov_r4, ov_r5, ov_r6, ov_r7, ov_r8, ov_r9, ov_r14, ov_r15, ov_r20, ov_r26, ov_r27, ov_u1, ov_u2, ov_u3, ov_u4, ov_u5, ov_u6, ov_u7, ov_u8, ov_u14, ov_u15, ov_u20, ov_u26, ov_u27, ov_ite]
theorem sFail_ov {x : Int32} : sFail x (ov K X) = ov K (sFail x X) := by
  simp only [sFail, ov_r1, ov_r2, ov_r3, ov_r4, ov_r5, ov_r6, ov_r7, ov_r8, ov_r9, ov_r14, ov_r15, ov_r20, ov_r26, ov_r27, ov_u1, ov_u2, ov_u3, ov_u4, ov_u5, ov_u6, ov_u7, ov_u8, ov_u14, ov_u15, ov_u20, ov_u26, ov_u27, ov_ite, sGo_ov]
theorem sRd_ov {i : Int32} : sRd (ov K X) i = sRd X i := by
  simp only [sRd, ov_r1, ov_r2, ov_r3, ov_r4, ov_r5, ov_r6, ov_r7, ov_r8, ov_r9, ov_r14, ov_r15, ov_r20, ov_r26, ov_r27]
theorem sReg_ov {i : Int32} : sReg (ov K X) i = sReg X i := by
  simp only [sReg, ov_r1, ov_r2, ov_r3, ov_r4, ov_r5, ov_r6, ov_r7, ov_r8, ov_r9, ov_r14, ov_r15, ov_r20, ov_r26, ov_r27]
theorem sNote_ov {i w : Int32} : sNote i w (ov K X) = ov K (sNote i w X) := by
  simp only [sNote, ov_r1, ov_r2, ov_r3, ov_r4, ov_r5, ov_r6, ov_r7, ov_r8, ov_r9, ov_r14, ov_r15, ov_r20, ov_r26, ov_r27, ov_u1, ov_u2, ov_u3, ov_u4, ov_u5, ov_u6, ov_u7, ov_u8, ov_u14, ov_u15, ov_u20, ov_u26, ov_u27, ov_ite, sGo_ov, sFail_ov, sRd_ov, sReg_ov]
theorem sWr_ov {i w : Int32} : sWr i w (ov K X) = ov K (sWr i w X) := by
  simp only [sWr, ov_r1, ov_r2, ov_r3, ov_r4, ov_r5, ov_r6, ov_r7, ov_r8, ov_r9, ov_r14, ov_r15, ov_r20, ov_r26, ov_r27, ov_u1, ov_u2, ov_u3, ov_u4, ov_u5, ov_u6, ov_u7, ov_u8, ov_u14, ov_u15, ov_u20, ov_u26, ov_u27, ov_ite, sGo_ov, sFail_ov, sRd_ov, sReg_ov, sNote_ov]
theorem sPush_ov {w : Int32} : sPush w (ov K X) = ov K (sPush w X) := by
  simp only [sPush, ov_r1, ov_r2, ov_r3, ov_r4, ov_r5, ov_r6, ov_r7, ov_r8, ov_r9, ov_r14, ov_r15, ov_r20, ov_r26, ov_r27, ov_u1, ov_u2, ov_u3, ov_u4, ov_u5, ov_u6, ov_u7, ov_u8, ov_u14, ov_u15, ov_u20, ov_u26, ov_u27, ov_ite, sGo_ov, sFail_ov, sRd_ov, sReg_ov, sNote_ov, sWr_ov]
theorem sPullV_ov : sPullV (ov K X) = sPullV X := by
  simp only [sPullV, ov_r1, ov_r2, ov_r3, ov_r4, ov_r5, ov_r6, ov_r7, ov_r8, ov_r9, ov_r14, ov_r15, ov_r20, ov_r26, ov_r27, sGo_ov, sFail_ov, sRd_ov, sReg_ov, sNote_ov, sWr_ov, sPush_ov]
theorem sPullX_ov : sPullX (ov K X) = ov K (sPullX X) := by
  simp only [sPullX, ov_r1, ov_r2, ov_r3, ov_r4, ov_r5, ov_r6, ov_r7, ov_r8, ov_r9, ov_r14, ov_r15, ov_r20, ov_r26, ov_r27, ov_u1, ov_u2, ov_u3, ov_u4, ov_u5, ov_u6, ov_u7, ov_u8, ov_u14, ov_u15, ov_u20, ov_u26, ov_u27, ov_ite, sGo_ov, sFail_ov, sRd_ov, sReg_ov, sNote_ov, sWr_ov, sPush_ov, sPullV_ov]
theorem sZL_ov : sZL (ov K X) = sZL X := by
  simp only [sZL, ov_r1, ov_r2, ov_r3, ov_r4, ov_r5, ov_r6, ov_r7, ov_r8, ov_r9, ov_r14, ov_r15, ov_r20, ov_r26, ov_r27, sGo_ov, sFail_ov, sRd_ov, sReg_ov, sNote_ov, sWr_ov, sPush_ov, sPullV_ov, sPullX_ov]
theorem sSet_ov {i w : Int32} : sSet i w (ov K X) = ov K (sSet i w X) := by
  simp only [sSet, ov_r1, ov_r2, ov_r3, ov_r4, ov_r5, ov_r6, ov_r7, ov_r8, ov_r9, ov_r14, ov_r15, ov_r20, ov_r26, ov_r27, ov_u1, ov_u2, ov_u3, ov_u4, ov_u5, ov_u6, ov_u7, ov_u8, ov_u14, ov_u15, ov_u20, ov_u26, ov_u27, ov_ite, sGo_ov, sFail_ov, sRd_ov, sReg_ov, sNote_ov, sWr_ov, sPush_ov, sPullV_ov, sPullX_ov, sZL_ov]
theorem sJump_ov {op y : Int32} : sJump op y (ov K X) = ov K (sJump op y X) := by
  simp only [sJump, ov_r1, ov_r2, ov_r3, ov_r4, ov_r5, ov_r6, ov_r7, ov_r8, ov_r9, ov_r14, ov_r15, ov_r20, ov_r26, ov_r27, ov_u1, ov_u2, ov_u3, ov_u4, ov_u5, ov_u6, ov_u7, ov_u8, ov_u14, ov_u15, ov_u20, ov_u26, ov_u27, ov_ite, sGo_ov, sFail_ov, sRd_ov, sReg_ov, sNote_ov, sWr_ov, sPush_ov, sPullV_ov, sPullX_ov, sZL_ov, sSet_ov]
theorem sCalc_ov {op d y : Int32} : sCalc op d y (ov K X) = ov K (sCalc op d y X) := by
  simp only [sCalc, ov_r1, ov_r2, ov_r3, ov_r4, ov_r5, ov_r6, ov_r7, ov_r8, ov_r9, ov_r14, ov_r15, ov_r20, ov_r26, ov_r27, ov_u1, ov_u2, ov_u3, ov_u4, ov_u5, ov_u6, ov_u7, ov_u8, ov_u14, ov_u15, ov_u20, ov_u26, ov_u27, ov_ite, sGo_ov, sFail_ov, sRd_ov, sReg_ov, sNote_ov, sWr_ov, sPush_ov, sPullV_ov, sPullX_ov, sZL_ov, sSet_ov, sJump_ov]
theorem sMove_ov {op d y : Int32} : sMove op d y (ov K X) = ov K (sMove op d y X) := by
  simp only [sMove, ov_r1, ov_r2, ov_r3, ov_r4, ov_r5, ov_r6, ov_r7, ov_r8, ov_r9, ov_r14, ov_r15, ov_r20, ov_r26, ov_r27, ov_u1, ov_u2, ov_u3, ov_u4, ov_u5, ov_u6, ov_u7, ov_u8, ov_u14, ov_u15, ov_u20, ov_u26, ov_u27, ov_ite, sGo_ov, sFail_ov, sRd_ov, sReg_ov, sNote_ov, sWr_ov, sPush_ov, sPullV_ov, sPullX_ov, sZL_ov, sSet_ov, sJump_ov, sCalc_ov]
theorem sStack_ov {op d y : Int32} : sStack op d y (ov K X) = ov K (sStack op d y X) := by
  simp only [sStack, ov_r1, ov_r2, ov_r3, ov_r4, ov_r5, ov_r6, ov_r7, ov_r8, ov_r9, ov_r14, ov_r15, ov_r20, ov_r26, ov_r27, ov_u1, ov_u2, ov_u3, ov_u4, ov_u5, ov_u6, ov_u7, ov_u8, ov_u14, ov_u15, ov_u20, ov_u26, ov_u27, ov_ite, sGo_ov, sFail_ov, sRd_ov, sReg_ov, sNote_ov, sWr_ov, sPush_ov, sPullV_ov, sPullX_ov, sZL_ov, sSet_ov, sJump_ov, sCalc_ov, sMove_ov]
theorem sRti_ov : sRti (ov K X) = ov K (sRti X) := by
  simp only [sRti, ov_r1, ov_r2, ov_r3, ov_r4, ov_r5, ov_r6, ov_r7, ov_r8, ov_r9, ov_r14, ov_r15, ov_r20, ov_r26, ov_r27, ov_u1, ov_u2, ov_u3, ov_u4, ov_u5, ov_u6, ov_u7, ov_u8, ov_u14, ov_u15, ov_u20, ov_u26, ov_u27, ov_ite, sGo_ov, sFail_ov, sRd_ov, sReg_ov, sNote_ov, sWr_ov, sPush_ov, sPullV_ov, sPullX_ov, sZL_ov, sSet_ov, sJump_ov, sCalc_ov, sMove_ov, sStack_ov]
theorem sInt_ov : sInt (ov K X) = ov K (sInt X) := by
  simp only [sInt, ov_r1, ov_r2, ov_r3, ov_r4, ov_r5, ov_r6, ov_r7, ov_r8, ov_r9, ov_r14, ov_r15, ov_r20, ov_r26, ov_r27, ov_u1, ov_u2, ov_u3, ov_u4, ov_u5, ov_u6, ov_u7, ov_u8, ov_u14, ov_u15, ov_u20, ov_u26, ov_u27, ov_ite, sGo_ov, sFail_ov, sRd_ov, sReg_ov, sNote_ov, sWr_ov, sPush_ov, sPullV_ov, sPullX_ov, sZL_ov, sSet_ov, sJump_ov, sCalc_ov, sMove_ov, sStack_ov, sRti_ov]
theorem sTime_ov : sTime (ov K X) = ov K (sTime X) := by
  simp only [sTime, ov_r1, ov_r2, ov_r3, ov_r4, ov_r5, ov_r6, ov_r7, ov_r8, ov_r9, ov_r14, ov_r15, ov_r20, ov_r26, ov_r27, ov_u1, ov_u2, ov_u3, ov_u4, ov_u5, ov_u6, ov_u7, ov_u8, ov_u14, ov_u15, ov_u20, ov_u26, ov_u27, ov_ite, sGo_ov, sFail_ov, sRd_ov, sReg_ov, sNote_ov, sWr_ov, sPush_ov, sPullV_ov, sPullX_ov, sZL_ov, sSet_ov, sJump_ov, sCalc_ov, sMove_ov, sStack_ov, sRti_ov, sInt_ov]
theorem sTape_ov {w : Int32} : sTape w (ov K X) = ov K (sTape w X) := by
  simp only [sTape, ov_r1, ov_r2, ov_r3, ov_r4, ov_r5, ov_r6, ov_r7, ov_r8, ov_r9, ov_r14, ov_r15, ov_r20, ov_r26, ov_r27, ov_u1, ov_u2, ov_u3, ov_u4, ov_u5, ov_u6, ov_u7, ov_u8, ov_u14, ov_u15, ov_u20, ov_u26, ov_u27, ov_ite, sGo_ov, sFail_ov, sRd_ov, sReg_ov, sNote_ov, sWr_ov, sPush_ov, sPullV_ov, sPullX_ov, sZL_ov, sSet_ov, sJump_ov, sCalc_ov, sMove_ov, sStack_ov, sRti_ov, sInt_ov, sTime_ov]
theorem sPut_ov {b : Int32} {p : Nat} {w : Int32} : sPut b p w (ov K X) = ov K (sPut b p w X) := by
  simp only [sPut, ov_r1, ov_r2, ov_r3, ov_r4, ov_r5, ov_r6, ov_r7, ov_r8, ov_r9, ov_r14, ov_r15, ov_r20, ov_r26, ov_r27, ov_u1, ov_u2, ov_u3, ov_u4, ov_u5, ov_u6, ov_u7, ov_u8, ov_u14, ov_u15, ov_u20, ov_u26, ov_u27, ov_ite, sGo_ov, sFail_ov, sRd_ov, sReg_ov, sNote_ov, sWr_ov, sPush_ov, sPullV_ov, sPullX_ov, sZL_ov, sSet_ov, sJump_ov, sCalc_ov, sMove_ov, sStack_ov, sRti_ov, sInt_ov, sTime_ov, sTape_ov]
theorem sPE_ov {t w : Nat} {v : Int32} : sPE t w v (ov K X) = ov K (sPE t w v X) := by
  simp only [sPE, ov_r1, ov_r2, ov_r3, ov_r4, ov_r5, ov_r6, ov_r7, ov_r8, ov_r9, ov_r14, ov_r15, ov_r20, ov_r26, ov_r27, ov_u1, ov_u2, ov_u3, ov_u4, ov_u5, ov_u6, ov_u7, ov_u8, ov_u14, ov_u15, ov_u20, ov_u26, ov_u27, ov_ite, sGo_ov, sFail_ov, sRd_ov, sReg_ov, sNote_ov, sWr_ov, sPush_ov, sPullV_ov, sPullX_ov, sZL_ov, sSet_ov, sJump_ov, sCalc_ov, sMove_ov, sStack_ov, sRti_ov, sInt_ov, sTime_ov, sTape_ov, sPut_ov]
theorem sUse_ov {b : Int32} {u : Bool} : sUse b u (ov K X) = ov K (sUse b u X) := by
  simp only [sUse, ov_r1, ov_r2, ov_r3, ov_r4, ov_r5, ov_r6, ov_r7, ov_r8, ov_r9, ov_r14, ov_r15, ov_r20, ov_r26, ov_r27, ov_u1, ov_u2, ov_u3, ov_u4, ov_u5, ov_u6, ov_u7, ov_u8, ov_u14, ov_u15, ov_u20, ov_u26, ov_u27, ov_ite, sGo_ov, sFail_ov, sRd_ov, sReg_ov, sNote_ov, sWr_ov, sPush_ov, sPullV_ov, sPullX_ov, sZL_ov, sSet_ov, sJump_ov, sCalc_ov, sMove_ov, sStack_ov, sRti_ov, sInt_ov, sTime_ov, sTape_ov, sPut_ov, sPE_ov]
theorem sZero_ov {b : Int32} : ∀ n, sZero b n (ov K X) = ov K (sZero b n X) := by
  intro n
  induction n with
  | zero => rfl
  | succ n ih =>
    unfold sZero
    rw [ih, sPut_ov]
theorem sApp2_ov {t : Nat} {w z b : Int32} : sApp2 t w z b (ov K X) = ov K (sApp2 t w z b X) := by
  simp only [sApp2, ov_r1, ov_r2, ov_r3, ov_r4, ov_r5, ov_r6, ov_r7, ov_r8, ov_r9, ov_r14, ov_r15, ov_r20, ov_r26, ov_r27, ov_u1, ov_u2, ov_u3, ov_u4, ov_u5, ov_u6, ov_u7, ov_u8, ov_u14, ov_u15, ov_u20, ov_u26, ov_u27, ov_ite, sGo_ov, sFail_ov, sRd_ov, sReg_ov, sNote_ov, sWr_ov, sPush_ov, sPullV_ov, sPullX_ov, sZL_ov, sSet_ov, sJump_ov, sCalc_ov, sMove_ov, sStack_ov, sRti_ov, sInt_ov, sTime_ov, sTape_ov, sPut_ov, sPE_ov, sUse_ov, sZero_ov]
theorem sApp_ov {t : Nat} {w : Int32} : sApp t w (ov K X) = ov K (sApp t w X) := by
  simp only [sApp, ov_r1, ov_r2, ov_r3, ov_r4, ov_r5, ov_r6, ov_r7, ov_r8, ov_r9, ov_r14, ov_r15, ov_r20, ov_r26, ov_r27, ov_u1, ov_u2, ov_u3, ov_u4, ov_u5, ov_u6, ov_u7, ov_u8, ov_u14, ov_u15, ov_u20, ov_u26, ov_u27, ov_ite, sGo_ov, sFail_ov, sRd_ov, sReg_ov, sNote_ov, sWr_ov, sPush_ov, sPullV_ov, sPullX_ov, sZL_ov, sSet_ov, sJump_ov, sCalc_ov, sMove_ov, sStack_ov, sRti_ov, sInt_ov, sTime_ov, sTape_ov, sPut_ov, sPE_ov, sUse_ov, sZero_ov, sApp2_ov]
theorem sRm1_ov {b : Int32} : sRm1 b (ov K X) = ov K (sRm1 b X) := by
  simp only [sRm1, ov_r1, ov_r2, ov_r3, ov_r4, ov_r5, ov_r6, ov_r7, ov_r8, ov_r9, ov_r14, ov_r15, ov_r20, ov_r26, ov_r27, ov_u1, ov_u2, ov_u3, ov_u4, ov_u5, ov_u6, ov_u7, ov_u8, ov_u14, ov_u15, ov_u20, ov_u26, ov_u27, ov_ite, sGo_ov, sFail_ov, sRd_ov, sReg_ov, sNote_ov, sWr_ov, sPush_ov, sPullV_ov, sPullX_ov, sZL_ov, sSet_ov, sJump_ov, sCalc_ov, sMove_ov, sStack_ov, sRti_ov, sInt_ov, sTime_ov, sTape_ov, sPut_ov, sPE_ov, sUse_ov, sZero_ov, sApp2_ov, sApp_ov]
theorem sRm_ov {t : Nat} : sRm t (ov K X) = ov K (sRm t X) := by
  simp only [sRm, ov_r1, ov_r2, ov_r3, ov_r4, ov_r5, ov_r6, ov_r7, ov_r8, ov_r9, ov_r14, ov_r15, ov_r20, ov_r26, ov_r27, ov_u1, ov_u2, ov_u3, ov_u4, ov_u5, ov_u6, ov_u7, ov_u8, ov_u14, ov_u15, ov_u20, ov_u26, ov_u27, ov_ite, sGo_ov, sFail_ov, sRd_ov, sReg_ov, sNote_ov, sWr_ov, sPush_ov, sPullV_ov, sPullX_ov, sZL_ov, sSet_ov, sJump_ov, sCalc_ov, sMove_ov, sStack_ov, sRti_ov, sInt_ov, sTime_ov, sTape_ov, sPut_ov, sPE_ov, sUse_ov, sZero_ov, sApp2_ov, sApp_ov, sRm1_ov]
theorem sRen_ov {t : Nat} {w : Int32} : sRen t w (ov K X) = ov K (sRen t w X) := by
  simp only [sRen, ov_r1, ov_r2, ov_r3, ov_r4, ov_r5, ov_r6, ov_r7, ov_r8, ov_r9, ov_r14, ov_r15, ov_r20, ov_r26, ov_r27, ov_u1, ov_u2, ov_u3, ov_u4, ov_u5, ov_u6, ov_u7, ov_u8, ov_u14, ov_u15, ov_u20, ov_u26, ov_u27, ov_ite, sGo_ov, sFail_ov, sRd_ov, sReg_ov, sNote_ov, sWr_ov, sPush_ov, sPullV_ov, sPullX_ov, sZL_ov, sSet_ov, sJump_ov, sCalc_ov, sMove_ov, sStack_ov, sRti_ov, sInt_ov, sTime_ov, sTape_ov, sPut_ov, sPE_ov, sUse_ov, sZero_ov, sApp2_ov, sApp_ov, sRm1_ov, sRm_ov]
theorem sE_ov : sE (ov K X) = sE X := by
  simp only [sE, ov_r1, ov_r2, ov_r3, ov_r4, ov_r5, ov_r6, ov_r7, ov_r8, ov_r9, ov_r14, ov_r15, ov_r20, ov_r26, ov_r27, sGo_ov, sFail_ov, sRd_ov, sReg_ov, sNote_ov, sWr_ov, sPush_ov, sPullV_ov, sPullX_ov, sZL_ov, sSet_ov, sJump_ov, sCalc_ov, sMove_ov, sStack_ov, sRti_ov, sInt_ov, sTime_ov, sTape_ov, sPut_ov, sPE_ov, sUse_ov, sZero_ov, sApp2_ov, sApp_ov, sRm1_ov, sRm_ov, sRen_ov]
theorem sRefuse_ov {call : Int32} : sRefuse call (ov K X) = sRefuse call X := by
  simp only [sRefuse, ov_r1, ov_r2, ov_r3, ov_r4, ov_r5, ov_r6, ov_r7, ov_r8, ov_r9, ov_r14, ov_r15, ov_r20, ov_r26, ov_r27, sGo_ov, sFail_ov, sRd_ov, sReg_ov, sNote_ov, sWr_ov, sPush_ov, sPullV_ov, sPullX_ov, sZL_ov, sSet_ov, sJump_ov, sCalc_ov, sMove_ov, sStack_ov, sRti_ov, sInt_ov, sTime_ov, sTape_ov, sPut_ov, sPE_ov, sUse_ov, sZero_ov, sApp2_ov, sApp_ov, sRm1_ov, sRm_ov, sRen_ov, sE_ov]
theorem sCarry_ov {call : Int32} : sCarry call (ov K X) = ov K (sCarry call X) := by
  simp only [sCarry, ov_r1, ov_r2, ov_r3, ov_r4, ov_r5, ov_r6, ov_r7, ov_r8, ov_r9, ov_r14, ov_r15, ov_r20, ov_r26, ov_r27, ov_u1, ov_u2, ov_u3, ov_u4, ov_u5, ov_u6, ov_u7, ov_u8, ov_u14, ov_u15, ov_u20, ov_u26, ov_u27, ov_ite, sGo_ov, sFail_ov, sRd_ov, sReg_ov, sNote_ov, sWr_ov, sPush_ov, sPullV_ov, sPullX_ov, sZL_ov, sSet_ov, sJump_ov, sCalc_ov, sMove_ov, sStack_ov, sRti_ov, sInt_ov, sTime_ov, sTape_ov, sPut_ov, sPE_ov, sUse_ov, sZero_ov, sApp2_ov, sApp_ov, sRm1_ov, sRm_ov, sRen_ov, sE_ov, sRefuse_ov]
theorem sOpen_ov : sOpen (ov K X) = ov K (sOpen X) := by
  unfold sOpen
  rw [ov_cp (by decide) (by decide), ov_fl (by decide)]
theorem sAdd_ov {b : Nat} : sAdd b (ov K X) = ov K (sAdd b X) := by
  unfold sAdd
  rw [ov_r3]
  by_cases h : 3 ≤ nT (X 3 0)
  · rw [if_pos h, if_pos h]
  · rw [if_neg h, if_neg h, ov_u4, ov_cp (by decide) (by decide), ov_u3]
theorem sAdds_ov : ∀ (n b : Nat) (X : AI), sAdds n b (ov K X) = ov K (sAdds n b X) := by
  intro n
  induction n with
  | zero => intro b X; rfl
  | succ n ih =>
    intro b X
    unfold sAdds
    rw [ov_r15]
    by_cases h : X 15 b = 0
    · rw [if_pos h, if_pos h, ih]
    · rw [if_neg h, if_neg h, sAdd_ov, ih]
theorem sFileR_ov {call : Int32} : sFileR call (ov K X) = sFileR call X := by
  simp only [sFileR, ov_r1, ov_r2, ov_r3, ov_r4, ov_r5, ov_r6, ov_r7, ov_r8, ov_r9, ov_r14, ov_r15, ov_r20, ov_r26, ov_r27, sGo_ov, sFail_ov, sRd_ov, sReg_ov, sNote_ov, sWr_ov, sPush_ov, sPullV_ov, sPullX_ov, sZL_ov, sSet_ov, sJump_ov, sCalc_ov, sMove_ov, sStack_ov, sRti_ov, sInt_ov, sTime_ov, sTape_ov, sPut_ov, sPE_ov, sUse_ov, sZero_ov, sApp2_ov, sApp_ov, sRm1_ov, sRm_ov, sRen_ov, sE_ov, sRefuse_ov, sCarry_ov, sOpen_ov, sAdd_ov, sAdds_ov]
theorem sFileX_ov {call : Int32} : sFileX call (ov K X) = ov K (sFileX call X) := by
  simp only [sFileX, ov_r1, ov_r2, ov_r3, ov_r4, ov_r5, ov_r6, ov_r7, ov_r8, ov_r9, ov_r14, ov_r15, ov_r20, ov_r26, ov_r27, ov_u1, ov_u2, ov_u3, ov_u4, ov_u5, ov_u6, ov_u7, ov_u8, ov_u14, ov_u15, ov_u20, ov_u26, ov_u27, ov_ite, sGo_ov, sFail_ov, sRd_ov, sReg_ov, sNote_ov, sWr_ov, sPush_ov, sPullV_ov, sPullX_ov, sZL_ov, sSet_ov, sJump_ov, sCalc_ov, sMove_ov, sStack_ov, sRti_ov, sInt_ov, sTime_ov, sTape_ov, sPut_ov, sPE_ov, sUse_ov, sZero_ov, sApp2_ov, sApp_ov, sRm1_ov, sRm_ov, sRen_ov, sE_ov, sRefuse_ov, sCarry_ov, sOpen_ov, sAdd_ov, sAdds_ov, sFileR_ov]
theorem sLeft_ov : sLeft (ov K X) = sLeft X := by
  simp only [sLeft, ov_r1, ov_r2, ov_r3, ov_r4, ov_r5, ov_r6, ov_r7, ov_r8, ov_r9, ov_r14, ov_r15, ov_r20, ov_r26, ov_r27, sGo_ov, sFail_ov, sRd_ov, sReg_ov, sNote_ov, sWr_ov, sPush_ov, sPullV_ov, sPullX_ov, sZL_ov, sSet_ov, sJump_ov, sCalc_ov, sMove_ov, sStack_ov, sRti_ov, sInt_ov, sTime_ov, sTape_ov, sPut_ov, sPE_ov, sUse_ov, sZero_ov, sApp2_ov, sApp_ov, sRm1_ov, sRm_ov, sRen_ov, sE_ov, sRefuse_ov, sCarry_ov, sOpen_ov, sAdd_ov, sAdds_ov, sFileR_ov, sFileX_ov]
theorem sCallF_ov {call : Int32} : sCallF call (ov K X) = ov K (sCallF call X) := by
  simp only [sCallF, ov_r1, ov_r2, ov_r3, ov_r4, ov_r5, ov_r6, ov_r7, ov_r8, ov_r9, ov_r14, ov_r15, ov_r20, ov_r26, ov_r27, ov_u1, ov_u2, ov_u3, ov_u4, ov_u5, ov_u6, ov_u7, ov_u8, ov_u14, ov_u15, ov_u20, ov_u26, ov_u27, ov_ite, sGo_ov, sFail_ov, sRd_ov, sReg_ov, sNote_ov, sWr_ov, sPush_ov, sPullV_ov, sPullX_ov, sZL_ov, sSet_ov, sJump_ov, sCalc_ov, sMove_ov, sStack_ov, sRti_ov, sInt_ov, sTime_ov, sTape_ov, sPut_ov, sPE_ov, sUse_ov, sZero_ov, sApp2_ov, sApp_ov, sRm1_ov, sRm_ov, sRen_ov, sE_ov, sRefuse_ov, sCarry_ov, sOpen_ov, sAdd_ov, sAdds_ov, sFileR_ov, sFileX_ov, sLeft_ov]
theorem sWBl_ov {b : Nat} {f : Nat → Int32} : sWBl b f (ov K X) = ov K (sWBl b f X) := by
  funext c k
  by_cases hc : 10 ≤ c ∧ c ≤ 12
  · rw [ov_k hc, sWBl_o (by omega), ov_k hc]
  · rw [ov_r hc]
    unfold sWBl
    rw [ov_r9, ov_r8, ov_r hc]
theorem sBegin_ov : sBegin (ov K X) = ov K (sBegin X) := by
  funext c k
  by_cases hc : 10 ≤ c ∧ c ≤ 12
  · rw [ov_k hc, sBegin_lo (by omega), ov_k hc]
  · rw [ov_r hc]
    unfold sBegin
    rw [ov_r1, ov_r2, ov_r3, ov_r4, ov_r5, ov_r hc]
theorem sDone_ov : sDone (ov K X) = ov K (sDone X) := by
  simp only [sDone, ov_r1, ov_r2, ov_r3, ov_r4, ov_r5, ov_r6, ov_r7, ov_r8, ov_r9, ov_r14, ov_r15, ov_r20, ov_r26, ov_r27, ov_u1, ov_u2, ov_u3, ov_u4, ov_u5, ov_u6, ov_u7, ov_u8, ov_u14, ov_u15, ov_u20, ov_u26, ov_u27, ov_ite, sGo_ov, sFail_ov, sRd_ov, sReg_ov, sNote_ov, sWr_ov, sPush_ov, sPullV_ov, sPullX_ov, sZL_ov, sSet_ov, sJump_ov, sCalc_ov, sMove_ov, sStack_ov, sRti_ov, sInt_ov, sTime_ov, sTape_ov, sPut_ov, sPE_ov, sUse_ov, sZero_ov, sApp2_ov, sApp_ov, sRm1_ov, sRm_ov, sRen_ov, sE_ov, sRefuse_ov, sCarry_ov, sOpen_ov, sAdd_ov, sAdds_ov, sFileR_ov, sFileX_ov, sLeft_ov, sCallF_ov, sWBl_ov, sBegin_ov]
theorem sWNB_ov : sWNB (ov K X) = ov K (sWNB X) := by
  simp only [sWNB, ov_r1, ov_r2, ov_r3, ov_r4, ov_r5, ov_r6, ov_r7, ov_r8, ov_r9, ov_r14, ov_r15, ov_r20, ov_r26, ov_r27, ov_u1, ov_u2, ov_u3, ov_u4, ov_u5, ov_u6, ov_u7, ov_u8, ov_u14, ov_u15, ov_u20, ov_u26, ov_u27, ov_ite, sGo_ov, sFail_ov, sRd_ov, sReg_ov, sNote_ov, sWr_ov, sPush_ov, sPullV_ov, sPullX_ov, sZL_ov, sSet_ov, sJump_ov, sCalc_ov, sMove_ov, sStack_ov, sRti_ov, sInt_ov, sTime_ov, sTape_ov, sPut_ov, sPE_ov, sUse_ov, sZero_ov, sApp2_ov, sApp_ov, sRm1_ov, sRm_ov, sRen_ov, sE_ov, sRefuse_ov, sCarry_ov, sOpen_ov, sAdd_ov, sAdds_ov, sFileR_ov, sFileX_ov, sLeft_ov, sCallF_ov, sWBl_ov, sBegin_ov, sDone_ov]
/-- the keys that have come are the same -/
def kC (K X : AI) : Prop := sCome (ov K X) (X 1 2) 21 0 = sCome X (X 1 2) 21 0 ∧ ∀ i, ¬ i < 0 → i < Int32.ofNat (sCome X (X 1 2) 21 0) → sKeyV (ov K X) i = sKeyV X i
theorem sKey_ov {d : Int32} (h : kC K X) (hr : ¬ X 1 13 < 0) : sKey d (ov K X) = ov K (sKey d X) := by
  unfold sKey
  rw [ov_r1, h.1]
  by_cases hl : X 1 13 < Int32.ofNat (sCome X (X 1 2) 21 0)
  · rw [if_pos hl, if_pos hl]
    have e : X 1 13 + 1 - 1 = X 1 13 := by grind
    rw [e, h.2 _ hr hl, ov_u1, sSet_ov, sGo_ov]
  · rw [if_neg hl, if_neg hl, sSet_ov, sGo_ov]
theorem sCtl_ov {op d y : Int32} (h : kC K X) (hr : ¬ X 1 13 < 0) : sCtl op d y (ov K X) = ov K (sCtl op d y X) := by
  simp only [sCtl, sKey_ov h hr, ov_r1, ov_r2, ov_r3, ov_r4, ov_r5, ov_r6, ov_r7, ov_r8, ov_r9, ov_r14, ov_r15, ov_r20, ov_r26, ov_r27, ov_u1, ov_u2, ov_u3, ov_u4, ov_u5, ov_u6, ov_u7, ov_u8, ov_u14, ov_u15, ov_u20, ov_u26, ov_u27, ov_ite, sGo_ov, sFail_ov, sRd_ov, sReg_ov, sNote_ov, sWr_ov, sPush_ov, sPullV_ov, sPullX_ov, sZL_ov, sSet_ov, sJump_ov, sCalc_ov, sMove_ov, sStack_ov, sRti_ov, sInt_ov, sTime_ov, sTape_ov, sPut_ov, sPE_ov, sUse_ov, sZero_ov, sApp2_ov, sApp_ov, sRm1_ov, sRm_ov, sRen_ov, sE_ov, sRefuse_ov, sCarry_ov, sOpen_ov, sAdd_ov, sAdds_ov, sFileR_ov, sFileX_ov, sLeft_ov, sCallF_ov, sWBl_ov, sBegin_ov, sDone_ov, sWNB_ov]
theorem sDo_ov {op d y : Int32} (h : kC K X) (hr : ¬ X 1 13 < 0) : sDo op d y (ov K X) = ov K (sDo op d y X) := by
  simp only [sDo, sCtl_ov h hr, ov_r1, ov_r2, ov_r3, ov_r4, ov_r5, ov_r6, ov_r7, ov_r8, ov_r9, ov_r14, ov_r15, ov_r20, ov_r26, ov_r27, ov_u1, ov_u2, ov_u3, ov_u4, ov_u5, ov_u6, ov_u7, ov_u8, ov_u14, ov_u15, ov_u20, ov_u26, ov_u27, ov_ite, sGo_ov, sFail_ov, sRd_ov, sReg_ov, sNote_ov, sWr_ov, sPush_ov, sPullV_ov, sPullX_ov, sZL_ov, sSet_ov, sJump_ov, sCalc_ov, sMove_ov, sStack_ov, sRti_ov, sInt_ov, sTime_ov, sTape_ov, sPut_ov, sPE_ov, sUse_ov, sZero_ov, sApp2_ov, sApp_ov, sRm1_ov, sRm_ov, sRen_ov, sE_ov, sRefuse_ov, sCarry_ov, sOpen_ov, sAdd_ov, sAdds_ov, sFileR_ov, sFileX_ov, sLeft_ov, sCallF_ov, sWBl_ov, sBegin_ov, sDone_ov, sWNB_ov]
theorem sIns_ov (h : kC K X) (hr : ¬ X 1 13 < 0) : sIns (ov K X) = ov K (sIns X) := by
  simp only [sIns, sDo_ov h hr, ov_r1, ov_r2, ov_r3, ov_r4, ov_r5, ov_r6, ov_r7, ov_r8, ov_r9, ov_r14, ov_r15, ov_r20, ov_r26, ov_r27, ov_u1, ov_u2, ov_u3, ov_u4, ov_u5, ov_u6, ov_u7, ov_u8, ov_u14, ov_u15, ov_u20, ov_u26, ov_u27, ov_ite, sGo_ov, sFail_ov, sRd_ov, sReg_ov, sNote_ov, sWr_ov, sPush_ov, sPullV_ov, sPullX_ov, sZL_ov, sSet_ov, sJump_ov, sCalc_ov, sMove_ov, sStack_ov, sRti_ov, sInt_ov, sTime_ov, sTape_ov, sPut_ov, sPE_ov, sUse_ov, sZero_ov, sApp2_ov, sApp_ov, sRm1_ov, sRm_ov, sRen_ov, sE_ov, sRefuse_ov, sCarry_ov, sOpen_ov, sAdd_ov, sAdds_ov, sFileR_ov, sFileX_ov, sLeft_ov, sCallF_ov, sWBl_ov, sBegin_ov, sDone_ov, sWNB_ov]
theorem sCore_ov (h : kC K X) (hr : ¬ X 1 13 < 0) : sCore (ov K X) = ov K (sCore X) := by
  simp only [sCore, sIns_ov h hr, ov_r1, ov_r2, ov_r3, ov_r4, ov_r5, ov_r6, ov_r7, ov_r8, ov_r9, ov_r14, ov_r15, ov_r20, ov_r26, ov_r27, ov_u1, ov_u2, ov_u3, ov_u4, ov_u5, ov_u6, ov_u7, ov_u8, ov_u14, ov_u15, ov_u20, ov_u26, ov_u27, ov_ite, sGo_ov, sFail_ov, sRd_ov, sReg_ov, sNote_ov, sWr_ov, sPush_ov, sPullV_ov, sPullX_ov, sZL_ov, sSet_ov, sJump_ov, sCalc_ov, sMove_ov, sStack_ov, sRti_ov, sInt_ov, sTime_ov, sTape_ov, sPut_ov, sPE_ov, sUse_ov, sZero_ov, sApp2_ov, sApp_ov, sRm1_ov, sRm_ov, sRen_ov, sE_ov, sRefuse_ov, sCarry_ov, sOpen_ov, sAdd_ov, sAdds_ov, sFileR_ov, sFileX_ov, sLeft_ov, sCallF_ov, sWBl_ov, sBegin_ov, sDone_ov, sWNB_ov]
/-- a step, but for the keys that come behind it -/
def sPre (X : AI) : AI := sTime (up2 (sCore (sBegin X)) 1 2 (X 1 2 + 1))
theorem sStep_pre : sStep X = sKeys (sPre X) := by
  unfold sStep sPre
  dsimp only
  rw [sCore_2, sBegin_lo (by decide)]
theorem sPre_2 : sPre X 1 2 = X 1 2 + 1 := by
  unfold sPre
  rw [sTime_13.2, up2_eq]
theorem sPre_ov (h : kC K X) (hr : ¬ X 1 13 < 0) : sPre (ov K X) = ov K (sPre X) := by
  have h' : kC K (sBegin X) := by
    unfold kC at h ⊢
    have e1 : sBegin X 1 = X 1 := sBegin_lo (by decide)
    have ec : ∀ t n i, sCome (sBegin X) t n i = sCome X t n i := fun t n => by
      induction n with
      | zero => intro i; rfl
      | succ n ih =>
        intro i
        unfold sCome
        rw [ih, sBegin_lo (by decide), sBegin_lo (by decide)]
    have ec' : ∀ t n i, sCome (ov K (sBegin X)) t n i = sCome (ov K X) t n i := fun t n => by
      induction n with
      | zero => intro i; rfl
      | succ n ih =>
        intro i
        unfold sCome
        rw [ih, ov_k (by decide), ov_k (by decide), ov_k (by decide), ov_k (by decide)]
    have ek : ∀ i, sKeyV (sBegin X) i = sKeyV X i := fun i => by
      unfold sKeyV
      rw [sBegin_lo (by decide)]
    have ek' : ∀ i, sKeyV (ov K (sBegin X)) i = sKeyV (ov K X) i := fun i => by
      unfold sKeyV
      rw [ov_k (by decide), ov_k (by decide)]
    rw [e1, ec, ec']
    refine ⟨h.1, fun i i0 hi => ?_⟩
    rw [ek, ek']
    exact h.2 i i0 hi
  unfold sPre
  rw [sBegin_ov, sCore_ov h' (by rw [sBegin_lo (by decide)]; exact hr), ov_r1, ov_u1, sTime_ov]
theorem sKeys_ov (h : sTold (ov K X) (X 1 2) 21 0 = sTold X (X 1 2) 21 0) : sKeys (ov K X) = ov K (sKeys X) := by
  unfold sKeys
  rw [ov_r1, h]
  by_cases ht : sTold X (X 1 2) 21 0 = true
  · rw [if_pos ht, if_pos ht, ov_u1]
  · rw [if_neg ht, if_neg ht]
end OV
