/-! press, in both -/
section P2
variable {kad : Nat → Nat} {N : Nat} {Z : AZ} {g m q s kc : Nat} {I : AI} {K B : AI} {M D : Nat → Int32} {W v : Int32}
/-- the keys behind a press -/
def prK (K : AI) (q s : Nat) (v : Int32) : AI := insK K q (sCome K (Int32.ofNat s) 21 0) (Int32.ofNat s) v
theorem prK_ok (hK : okK q K) (hq : q < 20) : kI K (prK K q s v) q (sCome K (Int32.ofNat s) 21 0) (Int32.ofNat s) v := by
  have hs := sCome_spec (t := Int32.ofNat s) hK 21 0 rfl (by omega) (fun j hj => absurd hj (by omega))
  exact insK_ok hq hs.2.1 hs.2.2.1 hs.2.2.2
theorem prK_wd (hK : okK q K) (hq : q < 20) (hk : ∀ k, k < q → wd (K 11 k)) (hv : wd v) : ∀ k, k < q + 1 → wd (prK K q s v 11 k) := fun k hk' => by
  unfold prK insK
  rw [if_neg (by decide), if_pos rfl]
  by_cases h1 : k < sCome K (Int32.ofNat s) 21 0
  · rw [if_pos h1]
    have hs := sCome_spec (t := Int32.ofNat s) hK 21 0 rfl (by omega) (fun j hj => absurd hj (by omega))
    exact hk k (by have := hs.2.1; omega)
  · rw [if_neg h1]
    by_cases h2 : k = sCome K (Int32.ofNat s) 21 0
    · rw [if_pos h2]; exact hv
    · rw [if_neg h2]; exact hk (k - 1) (by omega)
theorem Inv.n13 {X : AI} (h : Inv q s X) : ¬ X 1 13 < 0 := by
  obtain ⟨r, r1, r2⟩ := h.1.1.2.1.2.2
  rw [r1]
  exact of_nn (by omega)
/-- the machine behind a press -/
theorem press_tr (hG : Gd q K B s kc) (hK : okK q K) (hq : q < 20) : (∀ j, j < s → tr (prK K q s v) B j = ov (prK K q s v) (tr K B j)) ∧ tr (prK K q s v) B s = up2 (ov (prK K q s v) (tr K B s)) 1 9 1 := by
  have h := tr_ins (prK_ok (s := s) (v := v) hK hq) hK hG.1.2 (by have := hG.2.1.2.2; omega) (fun j _ => (hG.1.1.trj j).n13)
  exact ⟨fun j hj => (h j).1 hj, (h s).2 rfl⟩
theorem press_hi (hG : Gd q K B s kc) (hK : okK q K) (hq : q < 20) {j c : Nat} (hj : j ≤ s) (hc : 20 ≤ c) : tr (prK K q s v) B j c = tr K B j c := by
  obtain ⟨h1, h2⟩ := press_tr (v := v) hG hK hq
  by_cases e : j = s
  · rw [e, h2, up2_b (by omega), ov_r (by omega)]
  · rw [h1 j (by omega), ov_r (by omega)]
theorem rel_hi {e c k : Nat} {X Y : AI} (hc : 20 ≤ c) (h4 : Y 20 1 = X 20 1) (h5 : Y 20 4 = X 20 4) (h6 : Y 23 0 = X 23 0) : rel e Y c k ↔ rel e X c k := by
  unfold rel
  split <;> first | omega | exact Iff.rfl | simp only [h4, h5, h6]
theorem rel_no {e c k : Nat} {X Y : AI} (hc : ¬ (10 ≤ c ∧ c ≤ 12)) (hc2 : c < 20) (h1 : Y 3 0 = X 3 0) (h2 : Y 1 12 = X 1 12) : rel e Y c k ↔ rel e X c k := by
  unfold rel
  split <;> first | omega | exact Iff.rfl | simp only [h1, h2]
theorem RK.congY {κ : Nat} {Y Y' : AI} (h : RK κ I Y) (hY : ∀ c, 20 ≤ c → Y' c = Y c) : RK κ I Y' := by
  intro c k hc hr
  rw [hY c hc]
  exact h c k hc ((rel_hi hc (by rw [hY 20 (by decide)]) (by rw [hY 20 (by decide)]) (by rw [hY 23 (by decide)])).mp hr)
theorem Gd.press (hG : Gd q K (wake M D W) s kc) (hM : ∀ k, k < 256 → wd (M k)) (hD : D 0 = 0 ∧ WF D) (hK : okK q K) (hk : ∀ k, k < q → wd (K 11 k)) (hq : q < 20) (hv : wd v) : Gd (q + 1) (prK K q s v) (wake M D W) s kc := by
  obtain ⟨h1, h2⟩ := press_tr (v := v) hG hK hq
  refine ⟨⟨wake_inv hM hD ((prK_ok hK hq).ok hK) (prK_wd hK hq hk hv), hG.1.2⟩, hG.2.1, fun j hj => ?_⟩
  rw [h1 j hj, ov_r1]
  exact hG.2.2 j hj
theorem CG.press (hN : 2000 ≤ N) (hG : Gd q K B s kc) (hK : okK q K) (hq : q < 20) (H : CG g K B s kc I) : Ok ((f74 kad N Z (g + 124) v (Int32.ofNat s) I).bind fun r74_2 => (f85 kad N Z (g + 114) r74_2.2).bind fun r81_3 => some ((Sum.inl ((r81_3.2) (g + 124) 0) : Int32 ⊕ String), r81_3.2)) (fun r J => r = .inl (Int32.ofNat (q + 1)) ∧ CG g (prK K q s v) B s kc J ∧ frC g I J) := by
  have hko := prK_ok (s := s) (v := v) hK hq
  have hKX : okK q (tr K B s) := (hG.1.1.trj s).2.1.1
  have hck : CK q (g + 114) K I := (H.1.ck hKX).cong (tr_key (by decide)).symm (tr_key (by decide)).symm (tr_key (by decide)).symm
  refine (K74 hN hK hq hck.1 (fun j hj => hck.2 j hj)).bind fun _ J ⟨⟨a1, a2⟩, a3, a4⟩ => ?_
  dsimp only
  have HJ : RM (g + 114) J (ov (prK K q s v) (tr K B s)) := by
    have hKn := hko.ok hK
    intro c k hc hr
    have hv := rel_vc hr
    by_cases hc3 : 10 ≤ c ∧ c ≤ 12
    · rw [ov_k hc3]
      have e10 : ov (prK K q s v) (tr K B s) 10 0 = Int32.ofNat (q + 1) := by rw [ov_k (by decide)]; exact hKn.1
      rcases (show c = 10 ∨ c = 11 ∨ c = 12 by omega) with rfl | rfl | rfl
      · have : k = 0 := hr
        subst this
        rw [hKn.1]
        exact a1
      · have hr : k < nT (ov (prK K q s v) (tr K B s) 10 0) ∧ k < 20 := hr
        rw [e10, nT_of (by omega)] at hr
        exact (a2 k hr.1).1
      · have hr : k < nT (ov (prK K q s v) (tr K B s) 10 0) ∧ k < 20 := hr
        rw [e10, nT_of (by omega)] at hr
        exact (a2 k hr.1).2
    · rw [ov_r hc3, a3 (g + 114 + c) (by omega) (by omega) (by omega)]
      exact H.1 c k hc ((rel_no hc3 hc (by rw [ov_r3]) (by rw [ov_r1])).mp hr)
  have hKo : okK (q + 1) (ov (prK K q s v) (tr K B s)) := by
    have := hko.ok hK
    unfold okK at this ⊢
    rw [ov_k (by decide), ov_k (by decide)]
    exact this
  have hse : sKeys (ov (prK K q s v) (tr K B s)) = tr (prK K q s v) B s := by
    rw [(press_tr (v := v) hG hK hq).2]
    refine sKeys_pos ?_
    rw [ov_r1, tr_2 hG.1.2, sTold_cong (X := prK K q s v) (by rw [ov_k (by decide)]) (fun i => by rw [ov_k (by decide)])]
    exact hko.self hK
  refine (K85 hN HJ hKo).bind fun _ Q ⟨b1, b2⟩ => ?_
  rw [hse] at b1
  have eQ : ∀ b, ¬ b = g + 115 → ¬ b = g + 124 → ¬ b = g + 125 → ¬ b = g + 126 → Q b = I b := fun b h1 h2 h3 h4 => by
    rw [b2 b h1, a3 b h2 h3 h4]
  refine Ok.ret ⟨?_, ⟨b1, ?_, fun j j1 j2 => ?_⟩, fun b h1 h2 h3 => eQ b (by omega) (by omega) (by omega) (by omega), fun j _ => by dsimp only; rw [eQ g (by omega) (by omega) (by omega) (by omega)]⟩
  · dsimp only
    rw [b2 (g + 124) (by omega), a1]
  · dsimp only
    rw [eQ g (by omega) (by omega) (by omega) (by omega)]; exact H.2.1
  · refine ((H.2.2 j j1 j2).congY (fun c hc => press_hi hG hK hq (by omega) hc)).cong (fun b c1 c2 => eQ b (by omega) (by omega) (by omega) (by omega))
theorem C149_on (hN : 2000 ≤ N) (hG : Gd q K B s kc) (hK : okK q K) (H : CG g K B s kc I) (i : Int32) : Ok (f149 kad N Z g i I) (fun r J => (bad i 0 65535 → r = rx [0, 1] 1 0 ∧ J = I) ∧ (¬ bad i 0 65535 → (tr K B s 1 0 = 1 ∧ q < 20 → r = rx [0, 1] 0 (Int32.ofNat (q + 1)) ∧ CG g (prK K q s i) B s kc J ∧ frC g I J) ∧ (¬ (tr K B s 1 0 = 1 ∧ q < 20) → r = rx [0, 1] 2 0 ∧ J = I))) := by
  have e0 : I (g + 115) 0 = tr K B s 1 0 := H.1 1 0 (by decide) (show 0 < 14 by decide)
  have e2 : I (g + 115) 2 = Int32.ofNat s := (H.1 1 2 (by decide) (show 2 < 14 by decide)).trans (tr_2 hG.1.2 s)
  have e10 : I (g + 124) 0 = Int32.ofNat q := by
    have := (H.1.ck (hG.1.1.trj s).2.1.1).1
    rw [(hG.1.1.trj s).2.1.1.1] at this
    exact this
  unfold f149
  rw [K138, Option.bind_some]
  by_cases hb : bad i 0 65535
  · rw [if_pos (show i < 0 ∨ 65535 < i from hb)]
    exact Ok.ret ⟨fun _ => ⟨rfl, rfl⟩, fun h => absurd hb h⟩
  · rw [if_neg (show ¬ (i < 0 ∨ 65535 < i) from hb)]
    unfold xB
    dsimp only
    by_cases h1 : tr K B s 1 0 = 1
    · rw [if_pos (e0.trans h1)]
      by_cases h2 : q < 20
      · rw [if_pos (show I (g + 124) 0 < (20 : Int32) from by rw [e10]; exact (of_lt (n := 20) (by omega) (by decide)).mpr h2), e2]
        exact (CG.press hN hG hK h2 H).mono fun v J ⟨a1, a2, a3⟩ => ⟨fun h => absurd h hb, fun _ => ⟨fun _ => ⟨a1, a2, a3⟩, fun h => absurd ⟨h1, h2⟩ h⟩⟩
      · rw [if_neg (show ¬ I (g + 124) 0 < (20 : Int32) from by rw [e10]; exact fun h => h2 ((of_lt (n := 20) (by have := hK.2.1; omega) (by decide)).mp h))]
        exact Ok.ret ⟨fun h => absurd h hb, fun _ => ⟨fun h => absurd h.2 h2, fun _ => ⟨rfl, rfl⟩⟩⟩
    · rw [if_neg (fun h => h1 (e0.symm.trans h))]
      exact Ok.ret ⟨fun h => absurd h hb, fun _ => ⟨fun h => absurd h.1 h1, fun _ => ⟨rfl, rfl⟩⟩⟩
theorem MS.cong0 {J : AI} (h : MS m M D W I) (h1 : J (m + 26) = I (m + 26)) (h2 : J (m + 27) = I (m + 27)) (h3 : J m 55 = I m 55) : MS m M D W J := by
  unfold MS at h ⊢
  rw [h1, h2, h3]
  exact h
end P2
