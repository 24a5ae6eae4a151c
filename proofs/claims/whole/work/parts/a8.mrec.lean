/-! the model goes through the lines of a use -/
/-- how many turns of the loop -/
def cst (C D : PN) : Nat := (D 0 1 - C 0 1) + (D 0 2 - C 0 2)
/-- what the model does in a use -/
def asMR (kad : Nat → Nat) (N : Nat) (Z : AZ) (m n p : Nat) (L : AI) (rc : Nat → Nat → Nat → List Nat → PN → Option (Nat × PN)) : Prop := ∀ (i e use : Nat) (st : List Nat) (C : PN) (J : AI) (r : Nat × PN), asC n L p i e use st C → MSr n m L J → asT m p i e use st C J → rc i e use st C = some r →
  ∃ J', asG m st.length J J' ∧ (r.1 = 0 → asT m p e e use st r.2 J' ∧ ∀ F, cst C r.2 ≤ F → f211_b84 kad N Z F m (Int32.ofNat p) J = f211_b84 kad N Z (F - cst C r.2) m (Int32.ofNat p) J') ∧ (¬ r.1 = 0 → ∀ F, cst C r.2 ≤ F → f211_b84 kad N Z F m (Int32.ofNat p) J = some (Int32.ofNat r.1, J'))
section MR4
variable {kad : Nat → Nat} {N : Nat} {Z : AZ} {m n p i e use : Nat} {st : List Nat} {C D E : PN} {L J I : AI} {r : Nat × PN} {ln : Nat → Nat → List Nat → PN → Option (Nat × PN)} {rc : Nat → Nat → Nat → List Nat → PN → Option (Nat × PN)}
/-- a use is taken from the stack -/
theorem asT.pop (T : asT m p i e use st C I) (hG : asG m (st.length + 1) I J) (hM : asM m p D J) (h5 : D 5 use = C 5 use ∧ D 6 use = C 6 use) : asT m p i e use st D (up2 J m 14 (Int32.ofNat st.length)) := by
  obtain ⟨-, ⟨b1, b2, b3⟩, c1, d1⟩ := T
  have hc : ∀ b j, m + 7 ≤ b → b ≤ m + 12 → j ≤ st.length → up2 J m 14 (Int32.ofNat st.length) b j = I b j := fun b j h1 h2 h3 => by
    rw [up2_b (by omega)]
    exact hG b j (by omega) (by omega) (by omega)
  refine ⟨hM.o0 (Or.inl rfl), ⟨up2_eq, ?_, ?_⟩, ?_, fun j hj => ?_⟩
  · rw [hc _ _ (by omega) (by omega) (Nat.le_refl _)]; exact b2
  · rw [hc _ _ (by omega) (by omega) (Nat.le_refl _)]; exact b3
  · rw [hc _ _ (by omega) (by omega) (Nat.le_refl _), hc _ _ (by omega) (by omega) (Nat.le_refl _), hc _ _ (by omega) (by omega) (Nat.le_refl _), h5.1, h5.2]
    exact c1
  · rw [hc _ _ (by omega) (by omega) (by omega)]
    exact d1 j hj
/-- a turn of the loop at a use's end -/
theorem M211_e (T : asT m p e e use st C J) (h5 : st.length ≤ 5) (he : e ≤ 100) (F : Nat) : f211_b84 kad N Z (F + 1) m (Int32.ofNat p) J = f211_b84 kad N Z F m (Int32.ofNat p) (up2 J m 14 (Int32.ofNat st.length - 1)) := by
  obtain ⟨b1, b2, b3⟩ := T.2.1
  show (if J m 14 < 0 then _ else _) = _
  rw [if_neg (by rw [b1]; exact of_nn (by omega)), M14 T h5, Option.bind_some, Option.bind_some, if_neg (fun hh => hh (b2.trans b3.symm)), wI_ok, Option.bind_some, b1]
/-- a turn of the loop at a line -/
theorem M211_l (T : asT m p i e use st C J) (h5 : st.length ≤ 5) (hie : i < e) (he : e ≤ 100) {x : Nat} {J1 : AI} (hl : f210 kad N Z m (Int32.ofNat i) (Int32.ofNat p) (up2 J (m + 7) st.length (Int32.ofNat (i + 1))) = some (Int32.ofNat x, J1)) (hx : x ≤ 1000) (F : Nat) : f211_b84 kad N Z (F + 1) m (Int32.ofNat p) J = if x = 0 then f211_b84 kad N Z F m (Int32.ofNat p) J1 else some (Int32.ofNat x, J1) := by
  obtain ⟨b1, b2, b3⟩ := T.2.1
  show (if J m 14 < 0 then _ else _) = _
  rw [if_neg (by rw [b1]; exact of_nn (by omega)), M14 T h5, Option.bind_some, Option.bind_some, if_pos (fun hh => by rw [b2, b3] at hh; have := (of_inj (by omega) (by omega)).mp hh; omega), Option.bind_some, Option.bind_some, Option.bind_some, wI_ok, Option.bind_some, b2, of_s, hl, Option.bind_some]
  by_cases h : x = 0
  · rw [if_pos h, if_pos ((nz_of hx).mpr h)]
  · rw [if_neg h, if_neg (fun hh => h ((nz_of hx).mp hh))]
theorem asT.next (T : asT m p i e use st C J) : asT m p (i + 1) e use st C (up2 J (m + 7) st.length (Int32.ofNat (i + 1))) ∧ asG m st.length J (up2 J (m + 7) st.length (Int32.ofNat (i + 1))) := by
  obtain ⟨a1, ⟨b1, b2, b3⟩, c1, d1⟩ := T
  refine ⟨⟨a1.ob (by omega), ⟨?_, up2_eq, ?_⟩, ?_, ?_⟩, asG.ups (by omega) (Nat.le_refl _)⟩
  · rw [up2_b (by omega)]; exact b1
  · rw [up2_b (by omega)]; exact b3
  · rw [up2_b (by omega), up2_b (by omega), up2_b (by omega)]; exact c1
  · unfold asSK
    rw [up2_b (by omega)]; exact d1
theorem gL_M (hn : n ≤ 100) (HS : asS n L p ln) (HK : asML kad N Z m n p L ln)
    (hrc : ∀ i e use st C r, asC n L p i e use st C → rc i e use st C = some r → (asLe C r.2 ∧ r.1 ≤ 1000) ∧ (r.1 = 0 → asW n L p r.2)) (hR : asMR kad N Z m n p L rc) : ∀ F0, asMR kad N Z m n p L (gL L ln rc F0) := by
  intro F0
  induction F0 with
  | zero => intro i e use st C J r _ _ _ h; cases h
  | succ F0 ih =>
    intro i e use st C J r H HM T h
    have hie := H.1.1
    have hen := H.1.2.1
    have h5 := len5 H
    unfold gL at h
    by_cases hi : e ≤ i
    · rw [if_pos hi] at h
      cases h
      have he : i = e := by omega
      subst he
      refine ⟨J, asG.refl, fun _ => ⟨T, fun F _ => ?_⟩, fun hh => absurd rfl hh⟩
      have : cst C C = 0 := by unfold cst; omega
      show _ = f211_b84 kad N Z (F - cst C C) m (Int32.ofNat p) J
      rw [this, Nat.sub_zero]
    rw [if_neg hi] at h
    cases hl : ln i use st C with
    | none => rw [hl] at h; cases h
    | some q =>
      rw [hl] at h
      dsimp only at h
      obtain ⟨⟨s1, s2, s3, s4⟩, s5⟩ := HS i e use st C q H (by omega) hl
      obtain ⟨T0, G0⟩ := T.next
      obtain ⟨J1, e1, g1, k8, k0⟩ := HK i e use st C _ q H (by omega) (HM.g G0) T0 hl
      have turn := fun F => M211_l (kad := kad) (N := N) (Z := Z) T h5 (by omega) (by omega) e1 s4 F
      have G1 := G0.trans g1 (Nat.le_refl _)
      have HM1 := HM.g G1
      by_cases hq : q.1 = 0
      · rw [if_pos hq] at h
        obtain ⟨t1, t2, t3⟩ := s5 hq
        by_cases h8 : L 1 i = 8
        · rw [if_pos h8] at h
          obtain ⟨ha5, hns, hn2, u⟩ := t2 h8
          obtain ⟨gx, T1⟩ := k8 hq h8
          cases hr : rc (q.2 2 (nT (L 2 i))) (q.2 3 (nT (L 2 i))) (q.2 0 2 + 1) (nT (L 2 i) :: st) (un q.2 0 2 (q.2 0 2 + 1)) with
          | none => rw [hr] at h; cases h
          | some x =>
            rw [hr] at h
            dsimp only at h
            obtain ⟨⟨v1, v2⟩, v3⟩ := hrc _ _ _ _ _ _ u hr
            obtain ⟨J2, g2, k2, k3⟩ := hR _ _ _ _ _ J1 x u HM1 T1 hr
            have hu02 : un q.2 0 2 (q.2 0 2 + 1) 0 2 = q.2 0 2 + 1 := un_eq
            have hu01 : un q.2 0 2 (q.2 0 2 + 1) 0 1 = q.2 0 1 := rfl
            have d1 := v1.1.1
            have d2 := v1.1.2.1
            rw [hu01] at d1
            rw [hu02] at d2
            by_cases hx : x.1 = 0
            · rw [if_pos hx] at h
              obtain ⟨T2, l2⟩ := k2 hx
              have le2 := s1.trans (asLe.us1.trans v1)
              have T3 := T0.pop (gx.trans g2 (Nat.le_refl _)) T2.1 (le2.2.2 use H.2.2.1.1)
              have hlen := u.2.2.2.1
              have he2 : q.2 3 (nT (L 2 i)) ≤ 100 := by have := u.1.2.1; omega
              have pop := fun F => M211_e (kad := kad) (N := N) (Z := Z) T2 (len5 u) he2 F
              rw [show Int32.ofNat (nT (L 2 i) :: st).length - 1 = Int32.ofNat st.length from sub1 (n := st.length) (by rw [List.length_cons])] at pop
              have G3 : asG m st.length J (up2 J2 m 14 (Int32.ofNat st.length)) := (G0.trans (gx.trans g2 (Nat.le_refl _)) (Nat.le_succ _)).trans (asG.up0 (by omega)) (Nat.le_refl _)
              have H' := H.next le2 (v3 hx) (Nat.le_succ i) (by omega)
              obtain ⟨⟨y1, y2⟩, y3⟩ := gL_S HS hrc F0 _ _ _ _ _ _ H' h
              obtain ⟨J3, g3, k4, k5⟩ := ih (i + 1) e use st x.2 _ r H' (HM.g G3) T3 h
              have z1 := y1.1.1
              have z2 := y1.1.2.1
              have go : ∀ F, cst C r.2 ≤ F → f211_b84 kad N Z F m (Int32.ofNat p) J = f211_b84 kad N Z (F - (cst C x.2)) m (Int32.ofNat p) (up2 J2 m 14 (Int32.ofNat st.length)) ∧ cst x.2 r.2 ≤ F - cst C x.2 ∧ F - cst C x.2 - cst x.2 r.2 = F - cst C r.2 := by
                intro F hF
                unfold cst at hF l2 ⊢
                rw [hu01, hu02] at l2
                obtain ⟨F1, rfl⟩ : ∃ F1, F = F1 + 1 := ⟨F - 1, by omega⟩
                refine ⟨?_, by omega, by omega⟩
                rw [turn F1, if_pos hq, l2 F1 (by omega)]
                obtain ⟨F2, hF2⟩ : ∃ F2, F1 - (x.2 0 1 - q.2 0 1 + (x.2 0 2 - (q.2 0 2 + 1))) = F2 + 1 := ⟨F1 - (x.2 0 1 - q.2 0 1 + (x.2 0 2 - (q.2 0 2 + 1))) - 1, by omega⟩
                rw [hF2, pop F2]
                congr 1
                omega
              refine ⟨J3, G3.trans g3 (Nat.le_refl _), fun hh => ?_, fun hh F hF => ?_⟩
              · obtain ⟨T4, l4⟩ := k4 hh
                refine ⟨T4, fun F hF => ?_⟩
                obtain ⟨a1, a2, a3⟩ := go F hF
                rw [a1, l4 _ a2, a3]
              · obtain ⟨a1, a2, a3⟩ := go F hF
                rw [a1, k5 hh _ a2]
            · rw [if_neg hx] at h
              cases h
              refine ⟨J2, (G0.trans (gx.trans g2 (Nat.le_refl _)) (Nat.le_succ _)), fun hh => absurd hh hx, fun hh F hF => ?_⟩
              have l3 := k3 hx
              unfold cst at hF l3
              rw [hu01, hu02] at l3
              obtain ⟨F1, rfl⟩ : ∃ F1, F = F1 + 1 := ⟨F - 1, by omega⟩
              rw [turn F1, if_pos hq, l3 F1 (by omega)]
        · rw [if_neg h8] at h
          have T1 := k0 hq h8
          have hj1 : i + 1 ≤ (if L 1 i = 6 then q.2 3 (nT (L 2 i)) + 1 else i + 1) := by split; (rename_i h6; have := (t3 h6).2; omega); omega
          have hj2 : (if L 1 i = 6 then q.2 3 (nT (L 2 i)) + 1 else i + 1) ≤ e := by split; (rename_i h6; have := (t3 h6).2; omega); omega
          have H' := H.next s1 t1 (j := if L 1 i = 6 then q.2 3 (nT (L 2 i)) + 1 else i + 1) (by omega) hj2
          obtain ⟨⟨y1, y2⟩, y3⟩ := gL_S HS hrc F0 _ _ _ _ _ _ H' h
          obtain ⟨J3, g3, k4, k5⟩ := ih _ e use st q.2 _ r H' HM1 T1 h
          have z1 := y1.1.1
          have z2 := y1.1.2.1
          have go : ∀ F, cst C r.2 ≤ F → f211_b84 kad N Z F m (Int32.ofNat p) J = f211_b84 kad N Z (F - 1) m (Int32.ofNat p) J1 ∧ cst q.2 r.2 ≤ F - 1 ∧ F - 1 - cst q.2 r.2 = F - cst C r.2 := by
            intro F hF
            unfold cst at hF ⊢
            obtain ⟨F1, rfl⟩ : ∃ F1, F = F1 + 1 := ⟨F - 1, by omega⟩
            refine ⟨?_, by omega, by omega⟩
            rw [turn F1, if_pos hq, Nat.add_sub_cancel]
          refine ⟨J3, G1.trans g3 (Nat.le_refl _), fun hh => ?_, fun hh F hF => ?_⟩
          · obtain ⟨T4, l4⟩ := k4 hh
            refine ⟨T4, fun F hF => ?_⟩
            obtain ⟨a1, a2, a3⟩ := go F hF
            rw [a1, l4 _ a2, a3]
          · obtain ⟨a1, a2, a3⟩ := go F hF
            rw [a1, k5 hh _ a2]
      · rw [if_neg hq] at h
        cases h
        refine ⟨J1, G1, fun hh => absurd hh hq, fun hh F hF => ?_⟩
        unfold cst at hF
        obtain ⟨F1, rfl⟩ : ∃ F1, F = F1 + 1 := ⟨F - 1, by omega⟩
        rw [turn F1, if_neg hq]
theorem gT_M (hn : n ≤ 100) (HS : asS n L p ln) (HK : asML kad N Z m n p L ln) : ∀ k, asMR kad N Z m n p L (gT L ln k) := by
  intro k
  induction k with
  | zero => intro i e use st C J r _ _ _ h; cases h
  | succ k ih =>
    intro i e use st C J r H HM T h
    exact gL_M hn HS HK (gT_S HS k) ih 101 i e use st C J r H HM T h
end MR4
