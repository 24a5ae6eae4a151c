/-! the law's loop -/
def swO : Array Int := #[216, 229, 242, 298, 354, 458, 526, 582, 662, 718, 762, 866, 879, 923, 979, 1023, 1067, 1111, 1167, 1235, 1291, 1347, 1360, 1373, 1386, 1399, 1412, 1425, 1438, 1451, 1507, 1563, 1619, 1632, 1688, 1701, 1757, 1770, 1838, 1851, 1907, 1975, 1988, 2001, 2057, 2113, 2205, 2218, 2262, 2318]
def yHd : AMeth := (yL_law, (code, (7, (some .boolean, (12, [(0, (.new 8, 3)), (3, (.dup, 1)), (4, (.invokespecial 116, 3)), (7, (.astore_n 1, 1)), (8, (.new 117, 3)), (11, (.dup, 1)), (12, (.invokespecial 119, 3)), (15, (.astore_n 2, 1)), (16, (.iconst 1, 1)), (17, (.newarray .long, 2)), (19, (.astore_n 3, 1)), (20, (.iconst 0, 1)), (21, (.istore 4, 2)), (23, (.iload 4, 2)), (25, (.aload_n 0, 1)), (26, (.arraylength, 1)), (27, (.bipush 6, 2)), (29, (.isub, 1)), (30, (.if_icmp .gt 2347, 3)), (33, (.aload_n 0, 1)), (34, (.iload 4, 2)), (36, (.iaload, 1)), (37, (.bipush 63, 2)), (39, (.iand, 1)), (40, (.tableswitch 2331 0 49 swO, 216)), (2371, (.iinc 4 6, 3)), (2374, (.goto (-2351), 3)), (2377, (.iconst 1, 1)), (2378, (.ireturn, 1))])))))
theorem okHd : okT yHd := okT_of (by decide +kernel)
theorem and63 (v : Int32) : ∃ k, k < 64 ∧ v &&& 63 = nI k := by
  have h1 : (v &&& 63).toBitVec.toNat = v.toBitVec.toNat &&& 63 := by
    rw [Int32.toBitVec_and, BitVec.toNat_and]
    rfl
  have h2 : v.toBitVec.toNat &&& 63 < 64 := Nat.lt_of_le_of_lt Nat.and_le_right (by decide)
  refine ⟨v.toBitVec.toNat &&& 63, h2, Int32.toBitVec_inj.mp (BitVec.eq_of_toNat_eq ?_)⟩
  rw [h1]
  show _ = (BitVec.ofNat 32 _).toNat
  rw [BitVec.toNat_ofNat]
  omega
theorem sub6 {L : Nat} (h : 6 ≤ L) : Int32.ofNat L - 6 = nI (L - 6) := by
  have h1 : Int32.ofNat L = nI (L - 6) + 6 := by
    show nI L = nI (L - 6) + nI 6
    rw [nI_add]
    congr 1
    omega
  rw [h1]
  exact Int32.add_sub_cancel _ _
theorem sub6s : ∀ L, L < 6 → ∀ i, i < 12 → Int32.ofNat L - 6 < nI i := by decide
section LOOP
variable {p : Program} {l : Launch} {e : Env} {R : Room} {s : State} {ml : MethodId} {args : Array Value} {below : List Frame} {meth : Method} {c : Code} {D : AG} {A : Nat → Prop} {Q : State → Prop} {Z : AZ} {g m o b L : Nat} {xs : Nat → Int32}
theorem tab_k {k : Nat} {lv : ALv} {dflt : Int} {offs : Array Int} {off : Int} {pc : Nat} {r : List Value} (hk : k < 2 ^ 31) (h49 : k ≤ 49) (ho : offs[k]? = some off) : aTab dflt 0 49 offs pc lv (nI k) r = aJump pc off lv r := by
  unfold aTab
  rw [nI_toInt hk, if_neg (by omega), if_neg (by omega), show ((k : Int) - 0).toNat = k by omega, ho]
theorem tab_d {k : Nat} {lv : ALv} {dflt : Int} {offs : Array Int} {pc : Nat} {r : List Value} (hk : k < 2 ^ 31) (h49 : 49 < k) : aTab dflt 0 49 offs pc lv (nI k) r = aJump pc dflt lv r := by
  unfold aTab
  rw [nI_toInt hk, if_neg (by omega), if_pos (by omega)]
theorem aOp_sw {x : Int32} {lv : ALv} : aOp 7 (.tableswitch 2331 0 49 swO) 40 lv [.int x] = aTab 2331 0 49 swO 40 lv x [] := by simp only [aOp, aS1]
theorem case_all (C : lwC l p R s ml args c D A Z g m o b L xs) {i : Nat} (hi : i + 6 ≤ L) : ∀ k, k < 64 → ∃ P f1, aOp 7 (.tableswitch 2331 0 49 swO) 40 (lvi i o m g b) [.int (nI k)] = some f1 ∧ f1 = (P, (lvi i o m g b, [])) ∧ caseT p l e R s ml args below meth c D A Q Z g m o b i P := by
  intro k hk
  by_cases h49 : k ≤ 49
  · match k, h49 with
    | 0, _ => exact ⟨256, (256, (lvi i o m g b, [])), by rw [aOp_sw, tab_k (k := 0) (off := 216) (by decide) (by decide) rfl]; rfl, rfl, cas0 C hi⟩
    | 1, _ => exact ⟨269, (269, (lvi i o m g b, [])), by rw [aOp_sw, tab_k (k := 1) (off := 229) (by decide) (by decide) rfl]; rfl, rfl, cas1 C hi⟩
    | 2, _ => exact ⟨282, (282, (lvi i o m g b, [])), by rw [aOp_sw, tab_k (k := 2) (off := 242) (by decide) (by decide) rfl]; rfl, rfl, cas2 C hi⟩
    | 3, _ => exact ⟨338, (338, (lvi i o m g b, [])), by rw [aOp_sw, tab_k (k := 3) (off := 298) (by decide) (by decide) rfl]; rfl, rfl, cas3 C hi⟩
    | 4, _ => exact ⟨394, (394, (lvi i o m g b, [])), by rw [aOp_sw, tab_k (k := 4) (off := 354) (by decide) (by decide) rfl]; rfl, rfl, cas4 C hi⟩
    | 5, _ => exact ⟨498, (498, (lvi i o m g b, [])), by rw [aOp_sw, tab_k (k := 5) (off := 458) (by decide) (by decide) rfl]; rfl, rfl, cas5 C hi⟩
    | 6, _ => exact ⟨566, (566, (lvi i o m g b, [])), by rw [aOp_sw, tab_k (k := 6) (off := 526) (by decide) (by decide) rfl]; rfl, rfl, cas6 C hi⟩
    | 7, _ => exact ⟨622, (622, (lvi i o m g b, [])), by rw [aOp_sw, tab_k (k := 7) (off := 582) (by decide) (by decide) rfl]; rfl, rfl, cas7 C hi⟩
    | 8, _ => exact ⟨702, (702, (lvi i o m g b, [])), by rw [aOp_sw, tab_k (k := 8) (off := 662) (by decide) (by decide) rfl]; rfl, rfl, cas8 C hi⟩
    | 9, _ => exact ⟨758, (758, (lvi i o m g b, [])), by rw [aOp_sw, tab_k (k := 9) (off := 718) (by decide) (by decide) rfl]; rfl, rfl, cas9 C hi⟩
    | 10, _ => exact ⟨802, (802, (lvi i o m g b, [])), by rw [aOp_sw, tab_k (k := 10) (off := 762) (by decide) (by decide) rfl]; rfl, rfl, cas10 C hi⟩
    | 11, _ => exact ⟨906, (906, (lvi i o m g b, [])), by rw [aOp_sw, tab_k (k := 11) (off := 866) (by decide) (by decide) rfl]; rfl, rfl, cas11 C hi⟩
    | 12, _ => exact ⟨919, (919, (lvi i o m g b, [])), by rw [aOp_sw, tab_k (k := 12) (off := 879) (by decide) (by decide) rfl]; rfl, rfl, cas12 C hi⟩
    | 13, _ => exact ⟨963, (963, (lvi i o m g b, [])), by rw [aOp_sw, tab_k (k := 13) (off := 923) (by decide) (by decide) rfl]; rfl, rfl, cas13 C hi⟩
    | 14, _ => exact ⟨1019, (1019, (lvi i o m g b, [])), by rw [aOp_sw, tab_k (k := 14) (off := 979) (by decide) (by decide) rfl]; rfl, rfl, cas14 C hi⟩
    | 15, _ => exact ⟨1063, (1063, (lvi i o m g b, [])), by rw [aOp_sw, tab_k (k := 15) (off := 1023) (by decide) (by decide) rfl]; rfl, rfl, cas15 C hi⟩
    | 16, _ => exact ⟨1107, (1107, (lvi i o m g b, [])), by rw [aOp_sw, tab_k (k := 16) (off := 1067) (by decide) (by decide) rfl]; rfl, rfl, cas16 C hi⟩
    | 17, _ => exact ⟨1151, (1151, (lvi i o m g b, [])), by rw [aOp_sw, tab_k (k := 17) (off := 1111) (by decide) (by decide) rfl]; rfl, rfl, cas17 C hi⟩
    | 18, _ => exact ⟨1207, (1207, (lvi i o m g b, [])), by rw [aOp_sw, tab_k (k := 18) (off := 1167) (by decide) (by decide) rfl]; rfl, rfl, cas18 C hi⟩
    | 19, _ => exact ⟨1275, (1275, (lvi i o m g b, [])), by rw [aOp_sw, tab_k (k := 19) (off := 1235) (by decide) (by decide) rfl]; rfl, rfl, cas19 C hi⟩
    | 20, _ => exact ⟨1331, (1331, (lvi i o m g b, [])), by rw [aOp_sw, tab_k (k := 20) (off := 1291) (by decide) (by decide) rfl]; rfl, rfl, cas20 C hi⟩
    | 21, _ => exact ⟨1387, (1387, (lvi i o m g b, [])), by rw [aOp_sw, tab_k (k := 21) (off := 1347) (by decide) (by decide) rfl]; rfl, rfl, cas21 C hi⟩
    | 22, _ => exact ⟨1400, (1400, (lvi i o m g b, [])), by rw [aOp_sw, tab_k (k := 22) (off := 1360) (by decide) (by decide) rfl]; rfl, rfl, cas22 C hi⟩
    | 23, _ => exact ⟨1413, (1413, (lvi i o m g b, [])), by rw [aOp_sw, tab_k (k := 23) (off := 1373) (by decide) (by decide) rfl]; rfl, rfl, cas23 C hi⟩
    | 24, _ => exact ⟨1426, (1426, (lvi i o m g b, [])), by rw [aOp_sw, tab_k (k := 24) (off := 1386) (by decide) (by decide) rfl]; rfl, rfl, cas24 C hi⟩
    | 25, _ => exact ⟨1439, (1439, (lvi i o m g b, [])), by rw [aOp_sw, tab_k (k := 25) (off := 1399) (by decide) (by decide) rfl]; rfl, rfl, cas25 C hi⟩
    | 26, _ => exact ⟨1452, (1452, (lvi i o m g b, [])), by rw [aOp_sw, tab_k (k := 26) (off := 1412) (by decide) (by decide) rfl]; rfl, rfl, cas26 C hi⟩
    | 27, _ => exact ⟨1465, (1465, (lvi i o m g b, [])), by rw [aOp_sw, tab_k (k := 27) (off := 1425) (by decide) (by decide) rfl]; rfl, rfl, cas27 C hi⟩
    | 28, _ => exact ⟨1478, (1478, (lvi i o m g b, [])), by rw [aOp_sw, tab_k (k := 28) (off := 1438) (by decide) (by decide) rfl]; rfl, rfl, cas28 C hi⟩
    | 29, _ => exact ⟨1491, (1491, (lvi i o m g b, [])), by rw [aOp_sw, tab_k (k := 29) (off := 1451) (by decide) (by decide) rfl]; rfl, rfl, cas29 C hi⟩
    | 30, _ => exact ⟨1547, (1547, (lvi i o m g b, [])), by rw [aOp_sw, tab_k (k := 30) (off := 1507) (by decide) (by decide) rfl]; rfl, rfl, cas30 C hi⟩
    | 31, _ => exact ⟨1603, (1603, (lvi i o m g b, [])), by rw [aOp_sw, tab_k (k := 31) (off := 1563) (by decide) (by decide) rfl]; rfl, rfl, cas31 C hi⟩
    | 32, _ => exact ⟨1659, (1659, (lvi i o m g b, [])), by rw [aOp_sw, tab_k (k := 32) (off := 1619) (by decide) (by decide) rfl]; rfl, rfl, cas32 C hi⟩
    | 33, _ => exact ⟨1672, (1672, (lvi i o m g b, [])), by rw [aOp_sw, tab_k (k := 33) (off := 1632) (by decide) (by decide) rfl]; rfl, rfl, cas33 C hi⟩
    | 34, _ => exact ⟨1728, (1728, (lvi i o m g b, [])), by rw [aOp_sw, tab_k (k := 34) (off := 1688) (by decide) (by decide) rfl]; rfl, rfl, cas34 C hi⟩
    | 35, _ => exact ⟨1741, (1741, (lvi i o m g b, [])), by rw [aOp_sw, tab_k (k := 35) (off := 1701) (by decide) (by decide) rfl]; rfl, rfl, cas35 C hi⟩
    | 36, _ => exact ⟨1797, (1797, (lvi i o m g b, [])), by rw [aOp_sw, tab_k (k := 36) (off := 1757) (by decide) (by decide) rfl]; rfl, rfl, cas36 C hi⟩
    | 37, _ => exact ⟨1810, (1810, (lvi i o m g b, [])), by rw [aOp_sw, tab_k (k := 37) (off := 1770) (by decide) (by decide) rfl]; rfl, rfl, cas37 C hi⟩
    | 38, _ => exact ⟨1878, (1878, (lvi i o m g b, [])), by rw [aOp_sw, tab_k (k := 38) (off := 1838) (by decide) (by decide) rfl]; rfl, rfl, cas38 C hi⟩
    | 39, _ => exact ⟨1891, (1891, (lvi i o m g b, [])), by rw [aOp_sw, tab_k (k := 39) (off := 1851) (by decide) (by decide) rfl]; rfl, rfl, cas39 C hi⟩
    | 40, _ => exact ⟨1947, (1947, (lvi i o m g b, [])), by rw [aOp_sw, tab_k (k := 40) (off := 1907) (by decide) (by decide) rfl]; rfl, rfl, cas40 C hi⟩
    | 41, _ => exact ⟨2015, (2015, (lvi i o m g b, [])), by rw [aOp_sw, tab_k (k := 41) (off := 1975) (by decide) (by decide) rfl]; rfl, rfl, cas41 C hi⟩
    | 42, _ => exact ⟨2028, (2028, (lvi i o m g b, [])), by rw [aOp_sw, tab_k (k := 42) (off := 1988) (by decide) (by decide) rfl]; rfl, rfl, cas42 C hi⟩
    | 43, _ => exact ⟨2041, (2041, (lvi i o m g b, [])), by rw [aOp_sw, tab_k (k := 43) (off := 2001) (by decide) (by decide) rfl]; rfl, rfl, cas43 C hi⟩
    | 44, _ => exact ⟨2097, (2097, (lvi i o m g b, [])), by rw [aOp_sw, tab_k (k := 44) (off := 2057) (by decide) (by decide) rfl]; rfl, rfl, cas44 C hi⟩
    | 45, _ => exact ⟨2153, (2153, (lvi i o m g b, [])), by rw [aOp_sw, tab_k (k := 45) (off := 2113) (by decide) (by decide) rfl]; rfl, rfl, cas45 C hi⟩
    | 46, _ => exact ⟨2245, (2245, (lvi i o m g b, [])), by rw [aOp_sw, tab_k (k := 46) (off := 2205) (by decide) (by decide) rfl]; rfl, rfl, cas46 C hi⟩
    | 47, _ => exact ⟨2258, (2258, (lvi i o m g b, [])), by rw [aOp_sw, tab_k (k := 47) (off := 2218) (by decide) (by decide) rfl]; rfl, rfl, cas47 C hi⟩
    | 48, _ => exact ⟨2302, (2302, (lvi i o m g b, [])), by rw [aOp_sw, tab_k (k := 48) (off := 2262) (by decide) (by decide) rfl]; rfl, rfl, cas48 C hi⟩
    | 49, _ => exact ⟨2358, (2358, (lvi i o m g b, [])), by rw [aOp_sw, tab_k (k := 49) (off := 2318) (by decide) (by decide) rfl]; rfl, rfl, cas49 C hi⟩
    | n + 50, h => omega
  · exact ⟨2371, (2371, (lvi i o m g b, [])), by rw [aOp_sw, tab_d (by omega) (by omega)]; rfl, rfl, fun X w z0 cc nn H hc hn k => k X w (z0, (cc, nn)) H (Nat.le_succ _) (Nat.le_add_right _ _)⟩
set_option maxRecDepth 20000 in
/-- the loop: from its head to its end -/
theorem law_loop (C : lwC l p R s ml args c D A Z g m o b L xs) (hRc : 10000 ≤ R.cells ∧ 60000 ≤ R.slots) (hend : ∀ (i : Nat) (S : ASt), S.2.2.1 ≤ 10000 → S.2.2.2 ≤ 60000 → aW p l e R s ml args below meth c D A Q (2377, (lvi i o m g b, [])) S) : ∀ (n i : Nat) (X : AI) (w : Int64) (z0 : Option Nat) (cc nn : Nat), i ≤ L + 5 → L + 6 - i ≤ n → MIr g m X X → cc ≤ 3000 + i → nn ≤ 30000 + 6 * i → aW p l e R s ml args below meth c D A Q (23, (lvi i o m g b, [])) (wo (aMem Z X) o w, (z0, (cc, nn))) := by
  intro n
  induction n with
  | zero => intro i X w z0 cc nn h1 h2; omega
  | succ n ih =>
    intro i X w z0 cc nn hi hn H hc hs
    obtain ⟨hl0, X0, hml, hNC, hRm, hE, hd, ho, hX, hbl, hbA, hL⟩ := id C
    refine aw_ops okHd X0 hml 2 _ (f1 := (26, (lvi i o m g b, [.ref b, .int (nI i)]))) rfl ?_
    intro H0 locs ls hR hl
    refine va_slen X0.1 X0.2.1 hX hbl hbA hR.2.2.1 (okHd.at (pc := 26) (ins := .arraylength) (len := 1) rfl).1 ?_
    revert hl
    revert hR
    revert ls
    revert locs
    revert H0
    show aW p l e R s ml args below meth c D A Q (27, (lvi i o m g b, [.int (Int32.ofNat L), .int (nI i)])) (wo (aMem Z X) o w, (z0, (cc, nn)))
    refine aw_ops okHd X0 hml 2 _ (f1 := (30, (lvi i o m g b, [.int (Int32.ofNat L - 6), .int (nI i)]))) rfl ?_
    by_cases h6 : i + 6 ≤ L
    · have hcmp : decide (Int32.ofNat L - 6 < nI i) = false := by
        rw [sub6 (by omega)]
        exact decide_eq_false (nI_nlt (by omega) (by omega))
      intro H0 locs ls hR hl
      refine ao_all (S := (wo (aMem Z X) o w, (z0, (cc, nn)))) (fr := (33, (lvi i o m g b, []))) X0.1 X0.2.1 (okHd.at (pc := 30) (ins := .if_icmp .gt 2347) (len := 3) rfl).1 (Or.inr rfl) hl ?_ (fun ls1 hl1 => ?_)
      · show aIf (decide (Int32.ofNat L - 6 < nI i)) 30 2347 _ _ = _
        rw [hcmp]
        rfl
      revert hl1
      revert ls1
      clear hl
      revert hR
      clear ls
      revert locs
      revert H0
      suffices hh : aW p l e R s ml args below meth c D A Q (33, (lvi i o m g b, [])) (wo (aMem Z X) o w, (z0, (cc, nn))) from fun H0 locs hR ls hl => hh H0 locs ls hR hl
      refine aw_ops okHd X0 hml 2 _ (f1 := (36, (lvi i o m g b, [.int (nI i), .ref b]))) rfl ?_
      intro H0 locs ls hR hl
      refine va_sld X0.1 X0.2.1 hX hbl hbA hR.2.2.1 (i := nI i) (nI_in (by omega) (by omega)) (okHd.at (pc := 36) (ins := .iaload) (len := 1) rfl).1 ?_
      rw [nI_clamp (by omega)]
      obtain ⟨k, hk, hv⟩ := and63 (xs i)
      have hh : aW p l e R s ml args below meth c D A Q (37, (lvi i o m g b, [.int (xs i)])) (wo (aMem Z X) o w, (z0, (cc, nn))) := by
        refine aw_ops okHd X0 hml 2 _ (f1 := (40, (lvi i o m g b, [.int (xs i &&& 63)]))) rfl ?_
        rw [hv]
        obtain ⟨P, f1, g1, g2, g3⟩ := case_all (e := e) (below := below) (meth := meth) (Q := Q) C h6 k hk
        subst g2
        refine fun H0 locs ls hR hl => ao_all (S := (wo (aMem Z X) o w, (z0, (cc, nn)))) X0.1 X0.2.1 (okHd.at (pc := 40) (ins := .tableswitch 2331 0 49 swO) (len := 216) rfl).1 (Or.inl rfl) hl (by rw [hml]; exact g1) (fun ls1 hl1 => ?_)
        refine g3 X w z0 cc nn H (by omega) (by omega) (fun X' w' t' H' ht1 ht2 => ?_) H0 locs ls1 hR hl1
        refine aw_ops okHd X0 hml 2 _ (f1 := (23, ([(4, .int (nI i + Int32.ofInt 6)), (3, .ref o), (2, .ref m), (1, .ref g), (0, .ref b)], []))) rfl ?_
        have e1 : ([(4, .int (nI i + Int32.ofInt 6)), (3, .ref o), (2, .ref m), (1, .ref g), (0, .ref b)] : ALv) = lvi (i + 6) o m g b := by
          unfold lvi
          rw [show Int32.ofInt 6 = nI 6 by decide, nI_add]
        rw [e1]
        obtain ⟨z1, c1, n1⟩ := t'
        exact ih (i + 6) X' w' z1 c1 n1 (by omega) (by omega) H' (by dsimp only at ht1; omega) (by dsimp only at ht2; omega)
      exact hh H0 locs ls hR hl
    · have hcmp : decide (Int32.ofNat L - 6 < nI i) = true := by
        by_cases hL6 : 6 ≤ L
        · rw [sub6 hL6]
          exact decide_eq_true (nI_lt (by omega) (by omega))
        · exact decide_eq_true (sub6s L (by omega) i (by omega))
      intro H0 locs ls hR hl
      refine ao_all (S := (wo (aMem Z X) o w, (z0, (cc, nn)))) (fr := (2377, (lvi i o m g b, []))) X0.1 X0.2.1 (okHd.at (pc := 30) (ins := .if_icmp .gt 2347) (len := 3) rfl).1 (Or.inr rfl) hl ?_ (fun ls1 hl1 => hend i _ (by show cc ≤ _; omega) (by show nn ≤ _; omega) H0 locs ls1 hR hl1)
      show aIf (decide (Int32.ofNat L - 6 < nI i)) 30 2347 _ _ = _
      rw [hcmp]
      rfl
end LOOP
