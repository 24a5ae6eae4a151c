/-! what a step leaves as it is; the model makes a step -/
section FR
variable {X : AI} {c : Nat}
theorem sGo_o (h : ¬ c = 1) : sGo X c = X c := up2_b h
theorem sFail_o {x : Int32} (h : ¬ c = 1) : sFail x X c = X c := by
  unfold sFail
  rw [up2_b h, up2_b h]
theorem sNote_o {i w : Int32} (h : ¬ c = 20 ∧ ¬ c = 26 ∧ ¬ c = 27) : sNote i w X c = X c := by
  unfold sNote
  split
  · rfl
  · split
    · rfl
    · rw [up2_b h.1, up2_b h.2.2, up2_b h.2.1]
theorem sWr_o {i w : Int32} (h : ¬ c = 6 ∧ ¬ c = 20 ∧ ¬ c = 26 ∧ ¬ c = 27) : sWr i w X c = X c := by
  unfold sWr
  split
  · rfl
  · split
    · rfl
    · rw [up2_b h.1, sNote_o h.2]
theorem sPush_o {w : Int32} (h1 : ¬ c = 1) (h : ¬ c = 6 ∧ ¬ c = 20 ∧ ¬ c = 26 ∧ ¬ c = 27) : sPush w X c = X c := by
  unfold sPush
  rw [sWr_o h, up2_b h1]
theorem sPullX_o (h1 : ¬ c = 1) : sPullX X c = X c := up2_b h1
theorem sSet_o {i w : Int32} (h : ¬ c = 2) : sSet i w X c = X c := by
  unfold sSet
  split
  · rfl
  · split
    · rfl
    · exact up2_b h
theorem sJump_o {op y : Int32} (h1 : ¬ c = 1) : sJump op y X c = X c := by
  unfold sJump
  split
  · exact sGo_o h1
  · exact up2_b h1
theorem sCalc_o {op d y : Int32} (h1 : ¬ c = 1) (h2 : ¬ c = 2) : sCalc op d y X c = X c := by
  unfold sCalc
  rw [sGo_o h1]
  split
  · rw [up2_b h1, up2_b h1]
  · rw [sSet_o h2, up2_b h1, up2_b h1]
theorem sMove_o {op d y : Int32} (h1 : ¬ c = 1) (h2 : ¬ c = 2) (h : ¬ c = 6 ∧ ¬ c = 20 ∧ ¬ c = 26 ∧ ¬ c = 27) : sMove op d y X c = X c := by
  unfold sMove
  split
  · exact up2_b h1
  split
  · rw [sGo_o h1, sSet_o h2]
  split
  · split
    · rw [sGo_o h1, sSet_o h2]
    · rw [sGo_o h1, sWr_o h]
  · exact sFail_o h1
theorem sStack_o {op d y : Int32} (h1 : ¬ c = 1) (h2 : ¬ c = 2) (h : ¬ c = 6 ∧ ¬ c = 20 ∧ ¬ c = 26 ∧ ¬ c = 27) : sStack op d y X c = X c := by
  unfold sStack
  split
  · split
    · rw [up2_b h1, sPush_o h1 h]
    · exact sFail_o h1
  split
  · split
    · rw [sGo_o h1, sPush_o h1 h]
    · exact sFail_o h1
  split
  · split
    · rw [up2_b h1, sPullX_o h1]
    · rw [sGo_o h1, sSet_o h2, sPullX_o h1]
  · exact sFail_o h1
theorem sRti_o (h1 : ¬ c = 1) : sRti X c = X c := by
  unfold sRti
  split
  · dsimp only
    rw [up2_b h1, up2_b h1, sPullX_o h1, up2_b h1, up2_b h1, sPullX_o h1]
  · exact sFail_o h1
theorem sInt_o (h1 : ¬ c = 1) (h : ¬ c = 6 ∧ ¬ c = 20 ∧ ¬ c = 26 ∧ ¬ c = 27) : sInt X c = X c := by
  unfold sInt
  split
  · dsimp only
    rw [up2_b h1, up2_b h1, sPush_o h1 h, sPush_o h1 h]
    split
    · exact up2_b h1
    · exact up2_b h1
  · exact sFail_o h1
theorem sKey_o {d : Int32} (h1 : ¬ c = 1) (h2 : ¬ c = 2) : sKey d X c = X c := by
  unfold sKey
  split
  · rw [sGo_o h1, sSet_o h2, up2_b h1]
  · rw [sGo_o h1, sSet_o h2]
theorem sTape_o {w : Int32} (h1 : ¬ c = 1) (h7 : ¬ c = 7) : sTape w X c = X c := by
  unfold sTape
  split
  · exact sFail_o h1
  split
  · rw [sGo_o h1, up2_b h1, up2_b h7]
  · exact sFail_o h1
theorem sAdd_o {b : Nat} (h : ¬ c = 3 ∧ ¬ c = 4 ∧ ¬ c = 5) : sAdd b X c = X c := by
  unfold sAdd
  split
  · rfl
  · rw [up2_b h.1, cpI_b h.2.2, up2_b h.2.1]
theorem sAdds_o (h : ¬ c = 3 ∧ ¬ c = 4 ∧ ¬ c = 5) : ∀ (n b : Nat) (X : AI), sAdds n b X c = X c := by
  intro n
  induction n with
  | zero => intro b X; rfl
  | succ n ih =>
    intro b X
    unfold sAdds
    rw [ih]
    split
    · rfl
    · exact sAdd_o h
theorem sFileX_o {call : Int32} (h2 : ¬ c = 2) (h : ¬ c = 3 ∧ ¬ c = 4 ∧ ¬ c = 5) (hb : ¬ c = 14 ∧ ¬ c = 15) : sFileX call X c = X c := by
  unfold sFileX
  split
  · rw [sAdds_o h, sCarry_o hb h2, sOpen_o hb]
  · rfl
theorem sCallF_o {call : Int32} (h1 : ¬ c = 1) (h2 : ¬ c = 2) (h : ¬ c = 3 ∧ ¬ c = 4 ∧ ¬ c = 5) (hb : ¬ c = 14 ∧ ¬ c = 15) : sCallF call X c = X c := by
  unfold sCallF
  split
  · rw [sGo_o h1, up2_b h2, sFileX_o h2 h hb]
  · exact sFileX_o h2 h hb
theorem sDone_o (h1 : ¬ c = 1) (h2 : ¬ c = 2) (h3 : ¬ c = 3) : sDone X c = X c := by
  unfold sDone
  split
  · rw [sGo_o h1, up2_b h2, up2_b h3, up2_b h3, up2_b h3]
  · exact up2_b h3
theorem sWNB_o (h1 : ¬ c = 1) (h2 : ¬ c = 2) (h3 : ¬ c = 3) (h : ¬ c = 20 ∧ ¬ c = 28 ∧ ¬ c = 9 ∧ ¬ c = 8) : sWNB X c = X c := by
  unfold sWNB
  rw [sDone_o h1 h2 h3]
  split
  · exact sWBl_o h
  split
  · exact sWBl_o h
  split
  · exact sWBl_o h
  · exact sWBl_o h
theorem sCtl_o {op d y : Int32} (hc : 10 ≤ c ∧ (c ≤ 12 ∨ 21 ≤ c ∧ c ≤ 25)) : sCtl op d y X c = X c := by
  unfold sCtl
  split
  · rw [sGo_o (by omega), up2_b (by omega)]
  split
  · rw [sGo_o (by omega), up2_b (by omega)]
  split
  · exact sRti_o (by omega)
  split
  · split
    · rfl
    · exact sGo_o (by omega)
  split
  · rw [sGo_o (by omega), up2_b (by omega), up2_b (by omega)]
  split
  · exact sKey_o (by omega) (by omega)
  split
  · exact sTape_o (by omega) (by omega)
  · exact sCallF_o (by omega) (by omega) (by omega) (by omega)
theorem sCore_o (hc : 10 ≤ c ∧ (c ≤ 12 ∨ 21 ≤ c ∧ c ≤ 25)) : sCore X c = X c := by
  unfold sCore
  split
  · exact sWNB_o (by omega) (by omega) (by omega) (by omega)
  split
  · exact sInt_o (by omega) (by omega)
  · unfold sIns
    split
    · dsimp only
      unfold sDo
      split
      · split
        · split
          · split
            · split
              · exact sMove_o (by omega) (by omega) (by omega)
              · exact sCalc_o (by omega) (by omega)
            · exact sJump_o (by omega)
          · exact sStack_o (by omega) (by omega) (by omega)
        · exact sCtl_o hc
      · exact sFail_o (by omega)
    · exact sFail_o (by omega)
theorem sTime_o (h1 : ¬ c = 1) : sTime X c = X c := by
  unfold sTime
  split
  · rfl
  · dsimp only
    split
    · rw [up2_b h1, up2_b h1, up2_b h1]
    · exact up2_b h1
theorem sKeys_o (h1 : ¬ c = 1) : sKeys X c = X c := by
  unfold sKeys
  split
  · exact up2_b h1
  · rfl
end FR
theorem sWBl_9 {b : Nat} {f : Nat → Int32} {X : AI} {k : Nat} : sWBl b f X 9 k = if 8 * b ≤ k ∧ k < 8 * b + 8 then f (k - 8 * b) else X 9 k := by
  unfold sWBl
  rw [if_neg (by omega), if_neg (by omega)]
  by_cases h : 8 * b ≤ k ∧ k < 8 * b + 8
  · rw [if_pos ⟨rfl, h⟩, if_pos h]
  · rw [if_neg (fun hh => h hh.2), if_neg h, if_neg (by omega)]
theorem sHd_cong {n : Nat} {p q p' q' : Nat → Int32} (hp : ∀ k, k < n → p k = p' k) (hq : ∀ k, k < 8 * n → q k = q' k) : sHd n p q = sHd n p' q' := by
  funext k
  unfold sHd
  rw [sSum_cong hq (8 * n) 0 _ (by omega), sSum_cong hp n 0 _ (by omega)]
  split
  · rfl
  · split
    · rfl
    · split
      · rw [hp _ (by omega)]
      · rfl
/-- a call goes on -/
def isW (n d : Nat) (X : AI) : Prop := (1 ≤ n ∧ n ≤ 3 ∧ d ≤ 2 * n + 1) ∧ (X 3 0 = Int32.ofNat n ∧ X 3 1 = Int32.ofNat d) ∧ (∀ k, k < n → X 4 k = Int32.ofNat (nT (X 4 k)) ∧ nT (X 4 k) < 32) ∧ (∀ k, k < 8 * n → wd (X 5 k))
section MS
variable {kad : Nat → Nat} {N : Nat} {Z : AZ} {m s : Nat} {I0 I X : AI}
theorem M250 (hN : 2000 ≤ N) (H : MR 0 m s I0 I X) {n d : Nat} (hW : isW n d X) : Ok (f250 kad N Z m I) (fun _ J => MR 0 m s I0 J (sWNB X)) := by
  obtain ⟨⟨hn1, hn3, hdd⟩, ⟨h30, h31⟩, hnb, hcw⟩ := hW
  have en : nT (X 3 0) = n := by rw [h30]; exact nT_of (by omega)
  have ed : nT (X 3 1) = d := by rw [h31]; exact nT_of (by omega)
  have e47 : I m 47 = Int32.ofNat n := (H.2.1.2 (by rw [h30]; exact of_nz (by omega) (by omega))).trans h30
  have e46 : I m 46 = Int32.ofNat (2 * n + 2 - d) := by
    rw [H.2.1.1]
    unfold sLeft
    rw [h30, h31, if_neg (of_nz (by omega) (by omega)), show (2 : Int32) * Int32.ofNat n = Int32.ofNat (2 * n) from eM 2 n, show Int32.ofNat (2 * n) + (2 : Int32) = Int32.ofNat (2 * n + 2) from eA _ 2]
    have : Int32.ofNat (2 * n + 2) = Int32.ofNat (2 * n + 2 - d) + Int32.ofNat d := by
      rw [eA]; congr 1; omega
    rw [this]
    grind
  have ek : (2 : Int32) * Int32.ofNat n + (2 : Int32) - Int32.ofNat (2 * n + 2 - d) = Int32.ofNat d := by
    rw [show (2 : Int32) * Int32.ofNat n = Int32.ofNat (2 * n) from eM 2 n, show Int32.ofNat (2 * n) + (2 : Int32) = Int32.ofNat (2 * n + 2) from eA _ 2]
    have : Int32.ofNat (2 * n + 2) = Int32.ofNat d + Int32.ofNat (2 * n + 2 - d) := by
      rw [eA]; congr 1; omega
    rw [this]
    grind
  have e1 : Int32.ofNat (2 * n + 2 - d) - 1 = Int32.ofNat (2 * n + 1 - d) := sub1 (by congr 1; omega)
  have i4 : ∀ k, k < n → I (m + 22) k = X 4 k := fun k hk => H.1 4 k (by unfold mC; omega) (by show k < nT (X 3 0) ∧ k < 3; omega)
  have i5 : ∀ k, k < 8 * n → I (m + 23) k = X 5 k := fun k hk => H.1 5 k (by unfold mC; omega) (by show k < 8 * nT (X 3 0) ∧ k < 24; omega)
  have i9 : ∀ k, k < 256 → I (m + 24) k = X 9 k := fun k hk => H.r9 hk
  unfold f250 sWNB
  dsimp only
  rw [en, ed]
  refine Ok.w (Ok.w ?_)
  have g46 : up2 (up2 I m 46 (I m 46 - 1)) m 52 (up2 I m 46 (I m 46 - 1) m 52 + 1) m 46 = Int32.ofNat (2 * n + 1 - d) := by
    rw [up2_ne (by omega), up2_eq, e46, e1]
  have g47 : up2 (up2 I m 46 (I m 46 - 1)) m 52 (up2 I m 46 (I m 46 - 1) m 52 + 1) m 47 = Int32.ofNat n := by
    rw [up2_ne (by omega), up2_ne (by omega), e47]
  have g52 : up2 (up2 I m 46 (I m 46 - 1)) m 52 (up2 I m 46 (I m 46 - 1) m 52 + 1) m 52 = I m 52 + 1 := by
    rw [up2_eq, up2_ne (by omega)]
  have gm : ∀ j, ¬ j = 46 → ¬ j = 52 → up2 (up2 I m 46 (I m 46 - 1)) m 52 (up2 I m 46 (I m 46 - 1) m 52 + 1) m j = I m j := fun j h1 h2 => by
    rw [up2_ne (fun h => h2 h.2), up2_ne (fun h => h1 h.2)]
  have gb : ∀ c, ¬ c = m → up2 (up2 I m 46 (I m 46 - 1)) m 52 (up2 I m 46 (I m 46 - 1) m 52 + 1) c = I c := fun c hc => by
    rw [up2_b hc, up2_b hc]
  generalize up2 (up2 I m 46 (I m 46 - 1)) m 52 (up2 I m 46 (I m 46 - 1) m 52 + 1) = J at g46 g47 g52 gm gb
  rw [e46, e47, ek, g47]
  -- a block of the contents is written
  have blk : ∀ (i b : Nat), i < n → b < 32 → Ok (f250_b115 kad N Z m (Int32.ofNat i) (Int32.ofNat b) J) (fun _ J => MR 0 m s I0 J (sDone (sWBl b (fun k => X 5 (8 * i + k)) X))) := fun i b hi hb => by
    unfold f250_b115
    have e := M250_c (kad := kad) (N := N) (Z := Z) (m := m) (a := 8 * i) (b := 8 * b) (w := Int32.ofNat i) (o := Int32.ofNat b) (I := J) (by omega) (by omega) (by grind) (fun p hp => by rw [show (8 : Int32) * Int32.ofNat i = Int32.ofNat (8 * i) from eM 8 i, eA]) (fun p hp => by rw [show (8 : Int32) * Int32.ofNat b = Int32.ofNat (8 * b) from eM 8 b, eA]) 8 0 N rfl (by omega)
    rw [cp_0] at e
    rw [show (0 : Int32) = Int32.ofNat 0 from rfl, e]
    refine M250_e H hn1 hn3 h30 h31 hdd (fun k hk => ?_) (fun c c1 c2 => ?_) (fun j j1 j2 => ?_) ?_ ?_
    · rw [sWBl_9]
      by_cases h : 8 * b ≤ k ∧ k < 8 * b + 8
      · rw [cpI_at h, if_pos h, gb _ (by omega)]
        exact i5 _ (by omega)
      · rw [cpI_out h, if_neg h, gb _ (by omega)]
        exact i9 k hk
    · rw [cpI_b c2]
      exact gb c c1
    · rw [cpI_b (by omega)]
      exact gm j j1 j2
    · rw [cpI_b (by omega)]
      exact g46
    · rw [cpI_b (by omega)]
      exact g52
  have head : ∀ (g : Nat → Int32), Ok (f250_b156 kad N Z m (hd J (m + 24) 8 g)) (fun _ J => MR 0 m s I0 J (sDone (sWBl 0 g X))) := fun g => by
    refine M250_e H hn1 hn3 h30 h31 hdd (fun k hk => ?_) (fun c c1 c2 => ?_) (fun j j1 j2 => ?_) ?_ ?_
    · rw [sWBl_9]
      by_cases h : k < 8
      · rw [hd_at h, if_pos (by omega)]
        rfl
      · rw [hd_out h, if_neg (by omega), gb _ (by omega)]
        exact i9 k hk
    · rw [hd_b c2]
      exact gb c c1
    · rw [hd_b (by omega)]
      exact gm j j1 j2
    · rw [hd_b (by omega)]
      exact g46
    · rw [hd_b (by omega)]
      exact g52
  by_cases c1 : d = n
  · rw [if_pos (show Int32.ofNat d = Int32.ofNat n from by rw [c1]), if_neg (show ¬ d < n by omega), if_pos c1]
    unfold f250_b54 f250_b68
    rw [g47, if_neg (show ¬ ¬ Int32.ofNat d = Int32.ofNat n from fun h => h (by rw [c1])), M251_1 hN hn3 g47 (fun k hk => by rw [gb _ (by omega), i4 k hk, (hnb k hk).1]; exact wd_nat (by have := (hnb k hk).2; omega)) (fun k hk => by rw [gb _ (by omega), i5 k hk]; exact hcw k hk), Option.bind_some]
    have e : sHd n (J (m + 22)) (J (m + 23)) = sHd n (X 4) (X 5) := sHd_cong (fun k hk => by rw [gb _ (by omega)]; exact i4 k hk) (fun k hk => by rw [gb _ (by omega)]; exact i5 k hk)
    rw [e]
    exact head _
  rw [if_neg (show ¬ Int32.ofNat d = Int32.ofNat n from fun h => c1 ((of_inj (by omega) (by omega)).mp h))]
  rw [show (2 : Int32) * Int32.ofNat n = Int32.ofNat (2 * n) from eM 2 n, of_s]
  by_cases c2 : d = 2 * n + 1
  · rw [if_neg (show ¬ ¬ Int32.ofNat d = Int32.ofNat (2 * n + 1) from fun h => h (by rw [c2])), if_neg (show ¬ d < n by omega), if_neg c1, if_neg (show ¬ d ≤ 2 * n by omega)]
    unfold f250_b54 f250_b68
    rw [g47, if_pos (show ¬ Int32.ofNat d = Int32.ofNat n from fun h => c1 ((of_inj (by omega) (by omega)).mp h)), M251_0 hN, Option.bind_some]
    exact head _
  rw [if_pos (show ¬ Int32.ofNat d = Int32.ofNat (2 * n + 1) from fun h => c2 ((of_inj (by omega) (by omega)).mp h))]
  by_cases c3 : d < n
  · rw [if_neg (show ¬ Int32.ofNat n ≤ Int32.ofNat d from fun h => by have := (of_le (by omega) (by omega)).mp h; omega), if_pos c3]
    unfold f250_b94
    rw [g47, if_neg (show ¬ Int32.ofNat n ≤ Int32.ofNat d from fun h => by have := (of_le (by omega) (by omega)).mp h; omega), show (1 : Int32) + Int32.ofNat d = Int32.ofNat (1 + d) from eA 1 d]
    exact blk d (1 + d) c3 (by omega)
  · rw [if_pos (show Int32.ofNat n ≤ Int32.ofNat d from (of_le (by omega) (by omega)).mpr (by omega)), if_neg c3, if_neg c1, if_pos (show d ≤ 2 * n by omega)]
    unfold f250_b94
    have ew : Int32.ofNat d - Int32.ofNat n - 1 = Int32.ofNat (d - n - 1) := by
      have e : Int32.ofNat d = Int32.ofNat (d - n - 1) + 1 + Int32.ofNat n := by
        rw [of_s, ← Int32.ofNat_add]
        congr 1
        omega
      rw [e]
      grind
    obtain ⟨b1, b2⟩ := hnb (d - n - 1) (by omega)
    rw [g47, if_pos (show Int32.ofNat n ≤ Int32.ofNat d from (of_le (by omega) (by omega)).mpr (by omega)), ew, ixA_of (by omega), Option.bind_some, gb _ (by omega), i4 _ (by omega), b1]
    have h := blk (d - n - 1) (nT (X 4 (d - n - 1))) (by omega) b2
    rw [show nT (Int32.ofNat (nT (X 4 (d - n - 1)))) = nT (X 4 (d - n - 1)) from nT_of (by omega)]
    exact h
/-- the model holds a machine -/
def ML (m : Nat) (I X : AI) : Prop := (∀ c k, mC c → rel 0 X c k → I (mA m c) (mK c k) = X c k) ∧ (I m 46 = sLeft X ∧ (¬ X 3 0 = 0 → I m 47 = X 3 0))
theorem MR.ml {e : Nat} (H : MR 0 m s I0 I X) : ML m I X := ⟨H.1, H.2.1⟩
theorem M234 (hN : 2000 ≤ N) (hm : sh11 kad Z m) (L : ML m I X) {q p t r : Nat} (hK : okK q X) (hb : bl X) (hw : wdk X) (hmw : ∀ k, k < 256 → wd (X 6 k)) (h3 : wd (X 1 3)) (hp : X 1 4 = Int32.ofNat p ∧ p ≤ 256) (ht : X 1 12 = Int32.ofNat t ∧ t ≤ 60) (hr : X 1 13 = Int32.ofNat r ∧ r ≤ 20) (hs : X 1 2 = Int32.ofNat s ∧ s < 2000) (hF : (X 3 0 = 0 ∧ X 3 1 = 0 ∧ WF (X 9)) ∨ ∃ n d, isW n d X) (hC : bl (sCore (sBegin X))) : Ok (f234 kad N Z m I) (fun _ J => MR 0 m s I J (sStep X)) := by
  have lo : ∀ c, c < 20 → sBegin X c = X c := fun c hc => sBegin_lo hc
  have b20 : nw 0 (sBegin X) := ⟨rfl, by decide, fun h => absurd h (by decide)⟩
  have bn1 : n1 (sBegin X) = Int32.ofInt (-1) := rfl
  have bn2 : n2 (sBegin X) = Int32.ofInt (-1) := rfl
  have bL : sLeft (sBegin X) = sLeft X := by unfold sLeft; rw [lo 3 (by decide)]
  -- from the first frame on
  have main : ∀ J, MR 0 m s I J (sBegin X) → Ok (f234_b30 kad N Z m J) (fun _ J => MR 0 m s I J (sStep X)) := fun J H => by
    have hKB : okK q (sBegin X) := by unfold okK; rw [lo 10 (by decide), lo 12 (by decide)]; exact hK
    have hKC : okK q (sCore (sBegin X)) := by unfold okK; rw [sCore_o (by decide), sCore_o (by decide)]; exact hKB
    have hbB : bl (sBegin X) := by unfold bl; rw [lo 1 (by decide)]; exact hb
    have hsB : sBegin X 1 2 = Int32.ofNat s := by rw [lo 1 (by decide)]; exact hs.1
    unfold sStep
    dsimp only
    unfold f234_b30
    have e46 : J m 46 = sLeft (sBegin X) := H.2.1.1
    have e31 : J m 31 = sBegin X 1 7 := H.r1 (k := 7) (by decide)
    have e32 : J m 32 = sBegin X 1 8 := H.r1 (k := 8) (by decide)
    have e33 : J m 33 = sBegin X 1 9 := H.r1 (k := 9) (by decide)
    rcases hF with ⟨f0, f1, f2⟩ | ⟨n, d, hW⟩
    · have hz : sLeft (sBegin X) = 0 := by rw [bL]; unfold sLeft; rw [if_pos f0]
      rw [if_pos (show J m 46 ≤ 0 from by rw [e46, hz]; decide)]
      have hcore : sCore (sBegin X) = (if ¬ sBegin X 1 7 = 0 ∧ (¬ sBegin X 1 8 = 0 ∨ ¬ sBegin X 1 9 = 0) then sInt (sBegin X) else sIns (sBegin X)) := by
        unfold sCore
        rw [if_neg (by rw [hz]; decide)]
      have ins : Ok (f234_b72 kad N Z m J) (fun _ J => MR 0 m s I J (sKeys (sTime (up2 (sIns (sBegin X)) 1 2 (sIns (sBegin X) 1 2 + 1))))) ∨ ¬ sCore (sBegin X) = sIns (sBegin X) := by
        by_cases hc : sCore (sBegin X) = sIns (sBegin X)
        · left
          rw [hc] at hKC hC
          unfold f234_b72
          refine (M228 hN hm H (q := q) (p := p) (t := t) (r := r) ⟨⟨hKB, hbB, ⟨by rw [lo 9 (by decide)]; exact hw.1, by rw [lo 2 (by decide)]; exact hw.2⟩, by rw [lo 9 (by decide)]; exact f2⟩, by rw [lo 6 (by decide)]; exact hmw, ⟨by rw [lo 1 (by decide)]; exact h3, by rw [lo 1 (by decide)]; exact hp, by rw [lo 1 (by decide)]; exact ht, by rw [lo 1 (by decide)]; exact hr, hsB, hs.2⟩, b20, by rw [lo 3 (by decide)]; exact f0, by rw [lo 3 (by decide)]; exact f1⟩).bind fun v J2 HJ => M234_t hN HJ hKC hC
        · exact Or.inr hc
      have int : sCore (sBegin X) = sInt (sBegin X) → Ok (f234_b65 kad N Z m J) (fun _ J => MR 0 m s I J (sKeys (sTime (up2 (sInt (sBegin X)) 1 2 (sInt (sBegin X) 1 2 + 1))))) := fun hc => by
        rw [hc] at hKC hC
        unfold f234_b65
        exact (M226 (kad := kad) (N := N) (Z := Z) H hsB hs.2 b20 (by rw [lo 1 (by decide)]; exact hp.1) hp.2 hbB).bind fun v J2 HJ => M234_t hN HJ hKC hC
      by_cases h7 : sBegin X 1 7 = 0
      · rw [if_pos (e31.trans h7)]
        have hc : sCore (sBegin X) = sIns (sBegin X) := by rw [hcore, if_neg (fun h => h.1 h7)]
        rw [hc]
        exact ins.resolve_right (fun h => h hc)
      · rw [if_neg (fun h => h7 (e31.symm.trans h))]
        by_cases h8 : sBegin X 1 8 = 0
        · rw [if_neg (show ¬ ¬ J m 32 = 0 from fun h => h (e32.trans h8))]
          by_cases h9 : sBegin X 1 9 = 0
          · rw [if_pos (e33.trans h9)]
            have hc : sCore (sBegin X) = sIns (sBegin X) := by rw [hcore, if_neg (fun h => h.2.elim (fun h => h h8) (fun h => h h9))]
            rw [hc]
            exact ins.resolve_right (fun h => h hc)
          · rw [if_neg (fun h => h9 (e33.symm.trans h))]
            have hc : sCore (sBegin X) = sInt (sBegin X) := by rw [hcore, if_pos ⟨h7, Or.inr h9⟩]
            have := int hc
            rw [hc]
            exact this
        · rw [if_pos (show ¬ J m 32 = 0 from fun h => h8 (e32.symm.trans h))]
          have hc : sCore (sBegin X) = sInt (sBegin X) := by rw [hcore, if_pos ⟨h7, Or.inl h8⟩]
          have := int hc
          rw [hc]
          exact this
    · have hWB : isW n d (sBegin X) := by
        unfold isW
        rw [lo 3 (by decide), lo 4 (by decide), lo 5 (by decide)]
        exact hW
      obtain ⟨⟨hn1, hn3, hd⟩, ⟨h30, h31⟩, -, -⟩ := hWB
      have hl : sLeft (sBegin X) = Int32.ofNat (2 * n + 2 - d) := by
        unfold sLeft
        rw [h30, h31, if_neg (of_nz (by omega) (by omega)), show (2 : Int32) * Int32.ofNat n = Int32.ofNat (2 * n) from eM 2 n, show Int32.ofNat (2 * n) + (2 : Int32) = Int32.ofNat (2 * n + 2) from eA _ 2]
        have : Int32.ofNat (2 * n + 2) = Int32.ofNat (2 * n + 2 - d) + Int32.ofNat d := by
          rw [eA]; congr 1; omega
        rw [this]
        grind
      have hpos : (0 : Int32) < sLeft (sBegin X) := by
        rw [hl]
        exact (of_lt (m := 0) (by decide) (by omega)).mpr (by omega)
      rw [if_neg (show ¬ J m 46 ≤ 0 from by rw [e46]; grind)]
      have hc : sCore (sBegin X) = sWNB (sBegin X) := by unfold sCore; rw [if_pos hpos]
      rw [hc] at hKC hC ⊢
      have hWB : isW n d (sBegin X) := by
        unfold isW
        rw [lo 3 (by decide), lo 4 (by decide), lo 5 (by decide)]
        exact hW
      exact (M250 hN H hWB).bind fun v J2 HJ => M234_t hN HJ hKC hC
  have e38 : I m 38 = Int32.ofNat s := (L.1 1 2 (Or.inl rfl) (show 2 < 14 by decide)).trans hs.1
  have base : ∀ (J : AI), (∀ b, ¬ b = m + 20 → ¬ b = m + 21 → J b = I b) → (∀ b j, (b = m + 20 ∨ b = m + 21) → ¬ j = s → J b j = I b j) → (s < 1000 → J (m + 20) s = Int32.ofInt (-1) ∧ J (m + 21) s = Int32.ofInt (-1)) → MR 0 m s I J (sBegin X) := fun J h1 h2 hn => by
    refine ⟨fun c k hc hr => ?_, ⟨?_, fun h30 => ?_⟩, fun h => ?_, fun b j hbj => ?_⟩
    · have hc20 : c < 20 := by unfold mC at hc; omega
      have hr' := rel_lo hc (lo 3 (by decide)) (lo 1 (by decide)) (lo 10 (by decide)) hr
      have t := (mA_ne (m := m) (c := c) (k := k) (s := s) hc (fun h => by subst h; exact hr')).2
      rw [h1 _ (fun h => t (Or.inl h)) (fun h => t (Or.inr h)), lo c hc20]
      exact L.1 c k hc hr'
    · rw [h1 m (by omega) (by omega), bL]
      exact L.2.1
    · rw [lo 3 (by decide)] at h30 ⊢
      rw [h1 m (by omega) (by omega)]
      exact L.2.2 h30
    · rw [bn1, bn2]
      exact hn h
    · by_cases hbb : b = m + 20 ∨ b = m + 21
      · exact h2 b j hbb (fun h => hbj (Or.inr (Or.inr ⟨hbb, h⟩)))
      · exact congrFun (h1 b (fun h => hbb (Or.inl h)) (fun h => hbb (Or.inr h))) j
  unfold f234
  rw [e38]
  by_cases hs1 : 1000 ≤ s
  · rw [if_pos (show (1000 : Int32) ≤ Int32.ofNat s from (of_le (m := 1000) (by decide) (by omega)).mpr hs1)]
    exact main I (base I (fun _ _ _ => rfl) (fun _ _ _ _ => rfl) (fun h => absurd h (by omega)))
  · rw [if_neg (show ¬ (1000 : Int32) ≤ Int32.ofNat s from fun h => hs1 ((of_le (m := 1000) (by decide) (by omega)).mp h)), ixA_of (by omega), Option.bind_some]
    refine Ok.w ?_
    rw [up2_b (show ¬ m = m + 20 by omega), e38, ixA_of (by omega), Option.bind_some]
    refine Ok.w (main _ (base _ (fun b b1 b2 => by rw [up2_b b2, up2_b b1]) (fun b j hb hj => by rw [up2_ne (fun h => hj h.2), up2_ne (fun h => hj h.2)]) (fun _ => ⟨by rw [up2_b (by omega), up2_eq], up2_eq⟩)))
end MS
