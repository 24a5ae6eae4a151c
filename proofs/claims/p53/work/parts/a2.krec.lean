/-! the class goes through the lines of a use -/
/-- what the class's line has to do -/
def asKL (kad : Nat → Nat) (N : Nat) (Z : AZ) (S n p : Nat) (L : AI) (ln : Nat → Nat → List Nat → PN → Option (Nat × PN)) : Prop := ∀ (i use : Nat) (st : List Nat) (C : PN) (I : AI) (r : Nat × PN), i < n → CSr n S L I → asK S p st C I → asW n L p C → use ≤ C 0 2 → (p = 1 → 0 < use → ¬ C 5 use = 0 ∧ ¬ C 6 use = 0) → ln i use st C = some r →
  ∃ I', (if p = 0 then f10 kad N Z S (S + (12 + i)) (Int32.ofNat i) (Int32.ofNat use) I else f17 kad N Z S (S + (12 + i)) (Int32.ofNat i) (Int32.ofNat use) I) = some (Int32.ofNat r.1, I') ∧ asF S I I' ∧ I' (S + 5) = I (S + 5) ∧ (r.1 = 0 → asK S p st r.2 I')
/-- what the class does in a use -/
def asKR (S n p : Nat) (L : AI) (rc : Nat → Nat → Nat → List Nat → PN → Option (Nat × PN)) (R : Nat → Int32 → Int32 → Int32 → Int32 → AI → Option (Int32 × AI)) : Prop := ∀ (i e use : Nat) (st : List Nat) (C : PN) (I : AI) (r : Nat × PN), asC n L p i e use st C → CSr n S L I → asK S p st C I → rc i e use st C = some r →
  ∃ I', R S (Int32.ofNat i) (Int32.ofNat e) (Int32.ofNat use) (Int32.ofNat st.length) I = some (Int32.ofNat r.1, I') ∧ asF S I I' ∧ (∀ q, q < 5 → I' (S + 5) q = I (S + 5) q) ∧ (r.1 = 0 → asK S p st r.2 I')
section KR
variable {kad : Nat → Nat} {N : Nat} {Z : AZ} {S n p i e use : Nat} {st : List Nat} {L I : AI} {C D E : PN} {r : Nat × PN} {ln rc' : Nat → Nat → List Nat → PN → Option (Nat × PN)} {rc : Nat → Nat → Nat → List Nat → PN → Option (Nat × PN)} {R : Nat → Int32 → Int32 → Int32 → Int32 → AI → Option (Int32 × AI)}
theorem asK1_L (hN : 2000 ≤ N) (hs : sh0 kad Z S) (hz : Z.1 (kad 9) = none) (hn : n ≤ 100) (hv : ∀ j, j < n → LV L j) : asKL kad N Z S n 0 L (l1 n L) := by
  intro i use st C I r hi HC K W hu _ hl
  rw [if_pos rfl]
  exact asK1 hN hs hz hn hv hi HC K W hu hl
theorem asK2_L (hs : sh0 kad Z S) (hz : Z.1 (kad 9) = none) (hn : n ≤ 100) (hv : ∀ j, j < n → LV L j) : asKL kad N Z S n 1 L (l2 n L) := by
  intro i use st C I r hi HC K W hu hu2 hl
  rw [if_neg (by decide)]
  exact asK2 hs hz hn hv hi HC K W hu (hu2 rfl) hl
theorem nz_of {x : Nat} (h : x ≤ 1000) : Int32.ofNat x = 0 ↔ x = 0 := of_inj (n := 0) (by omega) (by decide)
/-- a use, in the class -/
theorem K9 (hR : asKR S n p L rc R) {a : Nat} (ha : a < 5) (hs : ¬ a ∈ st) (h2 : ¬ D 2 a = 0) (hW : asW n L p D) (HC : CSr n S L I) (K : asK S p st D I) (H : asC n L p (D 2 a) (D 3 a) (D 0 2 + 1) (a :: st) (un D 0 2 (D 0 2 + 1))) (hr : rc (D 2 a) (D 3 a) (D 0 2 + 1) (a :: st) (un D 0 2 (D 0 2 + 1)) = some r) :
    ∃ I', f9_e kad N Z R S (Int32.ofNat a) (Int32.ofNat st.length) I = some (Int32.ofNat r.1, I') ∧ asF S I I' ∧ (∀ q, q < 5 → I' (S + 5) q = I (S + 5) q) ∧ (r.1 = 0 → asK S p st r.2 I') := by
  obtain ⟨m1, m2, m3, m4, m5⟩ := (hW.2.1 a ha).1 h2
  obtain ⟨I1, hI1⟩ : ∃ I1, I1 = up2 (up2 I S 14 (Int32.ofNat (D 0 2 + 1))) (S + 5) a 1 := ⟨_, rfl⟩
  have K1 : asK S p (a :: st) (un D 0 2 (D 0 2 + 1)) I1 := by rw [hI1]; exact K.us.bs
  have F1 : asF S I I1 := by rw [hI1]; exact (asF.upS (by decide)).trans (asF.up (by omega))
  obtain ⟨I2, e2, f2, b2, k2⟩ := hR _ _ _ _ _ I1 r H (HC.f F1) K1 hr
  unfold f9_e
  rw [if_neg (of_nn (by omega)), if_pos (show Int32.ofNat a < 5 from (of_lt (n := 5) (by omega) (by decide)).mpr ha), wI_ok, Option.bind_some, ixA_of ha, Option.bind_some, K.1.2.1, of_s]
  unfold wB
  rw [if_pos (Or.inr rfl), Option.bind_some, ← hI1, Option.bind_some, Option.bind_some]
  obtain ⟨d1, d2⟩ := (K1.2.2.2.1 a ha).2 (by show ¬ D 9 a = 0; rw [m3]; exact h2)
  have d1 : I1 (S + 3) a = Int32.ofNat (D 9 a - 1) := d1
  have d2 : I1 (S + 4) a = Int32.ofNat (D 10 a) := d2
  rw [d1, of_s, show D 9 a - 1 + 1 = D 2 a by omega, d2, m4, K1.1.2.1, show un D 0 2 (D 0 2 + 1) 0 2 = D 0 2 + 1 from un_eq, of_s, show R S (Int32.ofNat (D 2 a)) (Int32.ofNat (D 3 a)) (Int32.ofNat (D 0 2 + 1)) (Int32.ofNat (st.length + 1)) I1 = some (Int32.ofNat r.1, I2) from e2, Option.bind_some, Option.bind_some, if_pos (Or.inl rfl), Option.bind_some]
  refine ⟨_, rfl, F1.trans (f2.trans (asF.up (by omega))), fun q hq => ?_, fun h => (k2 h).bb hs⟩
  by_cases hqa : q = a
  · dsimp only; rw [hqa, up2_eq, K.2.2.1 a ha, if_neg hs]
  · dsimp only; rw [up2_ne (fun hh => hqa hh.2), b2 q hq, hI1, up2_ne (fun hh => hqa hh.2), up2_b (by omega)]
theorem gL_K (hs : sh0 kad Z S) (hn : n ≤ 100) (hv : ∀ j, j < n → LV L j) (hp : p = 0 ∨ p = 1) (HS : asS n L p ln) (HK : asKL kad N Z S n p L ln)
    (hrc : ∀ i e use st C r, asC n L p i e use st C → rc i e use st C = some r → (asLe C r.2 ∧ r.1 ≤ 1000) ∧ (r.1 = 0 → asW n L p r.2)) (hR : asKR S n p L rc R) :
    ∀ (F Fc i e use : Nat) (st : List Nat) (C : PN) (I : AI) (r : Nat × PN), 101 ≤ Fc + i → asC n L p i e use st C → CSr n S L I → asK S p st C I → gL L ln rc F i e use st C = some r →
    ∃ I', f8_b7 kad N Z R Fc S (Int32.ofNat e) (Int32.ofNat use) (Int32.ofNat st.length) (Int32.ofNat i) I = some (Int32.ofNat r.1, I') ∧ asF S I I' ∧ (∀ q, q < 5 → I' (S + 5) q = I (S + 5) q) ∧ (r.1 = 0 → asK S p st r.2 I') := by
  intro F
  induction F with
  | zero => intro Fc i e use st C I r _ _ _ _ h; cases h
  | succ F ih =>
    intro Fc i e use st C I r hF H HC K h
    have hie := H.1.1
    have hen := H.1.2.1
    obtain ⟨Fc, rfl⟩ : ∃ G, Fc = G + 1 := ⟨Fc - 1, by omega⟩
    unfold gL at h
    unfold f8_b7
    by_cases hi : e ≤ i
    · rw [if_pos hi] at h
      cases h
      rw [if_pos ((of_le (by omega) (by omega)).mpr hi)]
      unfold f8_b153
      exact ⟨I, rfl, asF.refl, fun _ _ => rfl, fun _ => K⟩
    rw [if_neg hi] at h
    have hin : i < n := by omega
    have hk := sh0_f2 hs i (by omega)
    have hvi := hv i hin
    rw [if_neg (fun hh => hi ((of_le (by omega) (by omega)).mp hh)), if_neg (fun hh => by have := (of_le (m := 100) (by decide) (by omega)).mp hh; omega), ixA_of (show i < 100 by omega), Option.bind_some]
    cases hl : ln i use st C with
    | none => rw [hl] at h; cases h
    | some q =>
      rw [hl] at h
      dsimp only at h
      obtain ⟨⟨s1, s2, s3, s4⟩, s5⟩ := HS i e use st C q H (by omega) hl
      obtain ⟨I1, e1, f1, b1, k1⟩ := HK i use st C I q hin HC K H.2.1 H.2.2.1.1 H.2.2.1.2 hl
      have e0 : (if I S 12 = 0 then (f10 kad N Z S (S + (12 + i)) (Int32.ofNat i) (Int32.ofNat use) I).bind fun r54_2 => f8_b57 kad N Z R (fun p0 p1 p2 p3 p4 I => f8_b7 kad N Z R Fc p0 p1 p2 p3 p4 I) S (Int32.ofNat e) (Int32.ofNat use) (Int32.ofNat st.length) (Int32.ofNat i) (S + (12 + i)) r54_2.1 r54_2.2
        else (f17 kad N Z S (S + (12 + i)) (Int32.ofNat i) (Int32.ofNat use) I).bind fun r42_3 => f8_b57 kad N Z R (fun p0 p1 p2 p3 p4 I => f8_b7 kad N Z R Fc p0 p1 p2 p3 p4 I) S (Int32.ofNat e) (Int32.ofNat use) (Int32.ofNat st.length) (Int32.ofNat i) (S + (12 + i)) r42_3.1 r42_3.2)
        = f8_b57 kad N Z R (fun p0 p1 p2 p3 p4 I => f8_b7 kad N Z R Fc p0 p1 p2 p3 p4 I) S (Int32.ofNat e) (Int32.ofNat use) (Int32.ofNat st.length) (Int32.ofNat i) (S + (12 + i)) (Int32.ofNat q.1) I1 := by
        rcases hp with hp | hp
        · rw [if_pos hp] at e1
          rw [if_pos (by rw [K.1.1, hp]; rfl), e1, Option.bind_some]
        · rw [if_neg (by omega)] at e1
          rw [if_neg (by rw [K.1.1, hp]; decide), e1, Option.bind_some]
      rw [e0]
      have C1 := HC.f f1
      obtain ⟨⟨c0, c1⟩, -⟩ := C1.at hin
      have kq : ∀ j, j < 9 → (kad (dzo (I1 (S + (12 + i)) 0)) = kad j ↔ L 1 i = Int32.ofNat j) := fun j hj => by
        rw [c0]
        exact kd_iff hk hvi hj
      unfold f8_b57
      by_cases hq : q.1 = 0
      · rw [if_pos hq] at h
        obtain ⟨t1, t2, t3⟩ := s5 hq
        rw [if_neg (show ¬ ¬ Int32.ofNat q.1 = 0 from fun hh => hh ((nz_of s4).mpr hq))]
        by_cases h8 : L 1 i = 8
        · rw [if_pos h8] at h
          obtain ⟨ha5, hns, hn2, u⟩ := t2 h8
          have hlen := nd5 u.2.2.2.1 u.2.2.2.2
          obtain ⟨n1, -⟩ := hvi.nn (by rw [h8]; decide) (by rw [h8]; decide)
          rw [if_neg (fun hh => hh ((kq 8 (by decide)).mpr h8)), if_neg (show ¬ (5 : Int32) ≤ Int32.ofNat st.length from fun hh => by have := (of_le (m := 5) (by decide) (by omega)).mp hh; omega)]
          cases hr : rc (q.2 2 (nT (L 2 i))) (q.2 3 (nT (L 2 i))) (q.2 0 2 + 1) (nT (L 2 i) :: st) (un q.2 0 2 (q.2 0 2 + 1)) with
          | none => rw [hr] at h; cases h
          | some x =>
            rw [hr] at h
            dsimp only at h
            obtain ⟨⟨v1, v2⟩, v3⟩ := hrc _ _ _ _ _ _ u hr
            obtain ⟨I2, e2, f2, b2, k2⟩ := K9 (kad := kad) (N := N) (Z := Z) hR ha5 hns hn2 t1 C1 (k1 hq) u hr
            rw [← n1] at e2
            rw [c1, e2, Option.bind_some]
            dsimp only
            have C2 := C1.f f2
            obtain ⟨⟨c0', -⟩, -⟩ := C2.at hin
            unfold f8_b94
            have bb : ∀ q, q < 5 → I2 (S + 5) q = I (S + 5) q := fun q hq => by rw [b2 q hq, b1]
            by_cases hx : x.1 = 0
            · rw [if_pos hx] at h
              have kr : kad (dzo (I2 (S + (12 + i)) 0)) = kad 6 ↔ L 1 i = Int32.ofNat 6 := by
                rw [c0']
                exact kd_iff hk hvi (by decide)
              rw [if_pos ((nz_of v2).mpr hx), if_pos (fun hh => by have := kr.mp hh; rw [h8] at this; exact absurd this (by decide))]
              unfold f8_b147
              rw [of_s]
              obtain ⟨I3, e3, f3, b3, k3⟩ := ih Fc (i + 1) e use st x.2 I2 r (by omega) (H.next (s1.trans (asLe.us1.trans v1)) (v3 hx) (Nat.le_succ i) (by omega)) C2 (k2 hx) h
              exact ⟨I3, e3, f1.trans (f2.trans f3), fun q hq => (b3 q hq).trans (bb q hq), k3⟩
            · rw [if_neg hx] at h
              cases h
              rw [if_neg (fun hh => hx ((nz_of v2).mp hh))]
              exact ⟨I2, rfl, f1.trans f2, bb, fun hh => absurd hh hx⟩
        · rw [if_neg h8] at h
          rw [if_pos (fun hh => h8 ((kq 8 (by decide)).mp hh))]
          unfold f8_b94
          rw [if_pos ((nz_of s4).mpr hq)]
          have b1' : ∀ q, q < 5 → I1 (S + 5) q = I (S + 5) q := fun q _ => by rw [b1]
          by_cases h6 : L 1 i = 6
          · rw [if_pos h6] at h
            obtain ⟨t2', t4, t5⟩ := t3 h6
            obtain ⟨n1, -, -, -, -, -, n6, -⟩ := hvi.nn (by rw [h6]; decide) (by rw [h6]; decide)
            have n6 := n6 h6
            have ea : I1 (S + (12 + i)) 1 = Int32.ofNat (nT (L 2 i)) := c1.trans n1
            obtain ⟨m1, m2, m3, m4, m5⟩ := (t1.2.1 (nT (L 2 i)) (by omega)).1 t2'
            have e4 : I1 (S + 4) (nT (L 2 i)) = Int32.ofNat (q.2 3 (nT (L 2 i))) := by
              rw [((k1 hq).2.2.2.1 (nT (L 2 i)) (by omega)).2 (by rw [m3]; exact t2') |>.2, m4]
            rw [if_neg (fun hh => hh ((kq 6 (by decide)).mpr h6)), ea, if_neg (of_nn (by omega)), if_neg (fun hh => by have := (of_le (m := 5) (by decide) (by omega)).mp hh; omega), ixA_of (show nT (L 2 i) < 5 by omega), Option.bind_some, e4, if_pos ((of_lt (by omega) (by omega)).mpr t4)]
            unfold f8_b147
            rw [of_s]
            obtain ⟨I3, e3, f3, b3, k3⟩ := ih Fc (q.2 3 (nT (L 2 i)) + 1) e use st q.2 I1 r (by omega) (H.next s1 t1 (by omega) (by omega)) C1 (k1 hq) h
            exact ⟨I3, e3, f1.trans f3, fun q hq => (b3 q hq).trans (b1' q hq), k3⟩
          · rw [if_neg h6] at h
            rw [if_pos (fun hh => h6 ((kq 6 (by decide)).mp hh))]
            unfold f8_b147
            rw [of_s]
            obtain ⟨I3, e3, f3, b3, k3⟩ := ih Fc (i + 1) e use st q.2 I1 r (by omega) (H.next s1 t1 (Nat.le_succ i) (by omega)) C1 (k1 hq) h
            exact ⟨I3, e3, f1.trans f3, fun q hq => (b3 q hq).trans (b1' q hq), k3⟩
      · rw [if_neg hq] at h
        cases h
        rw [if_pos (fun hh => hq ((nz_of s4).mp hh))]
        unfold f8_b94
        rw [if_neg (fun hh => hq ((nz_of s4).mp hh))]
        exact ⟨I1, rfl, f1, fun q _ => by rw [b1], fun hh => absurd hh hq⟩
theorem gT_K (hN : 2000 ≤ N) (hs : sh0 kad Z S) (hn : n ≤ 100) (hv : ∀ j, j < n → LV L j) (hp : p = 0 ∨ p = 1) (HS : asS n L p ln) (HK : asKL kad N Z S n p L ln) : ∀ k, asKR S n p L (gT L ln k) (fun a x y z w I => f8_r kad N Z (k + 1) a x y z w I) := by
  intro k
  induction k with
  | zero => intro i e use st C I r _ _ _ h; cases h
  | succ k ih =>
    intro i e use st C I r H HC K h
    have h1 := gL_K (kad := kad) (N := N) (Z := Z) hs hn hv hp HS HK (gT_S HS k) ih 101 N i e use st C I r (by omega) H HC K h
    show ∃ I', f8_e kad N Z (f8_r kad N Z (k + 1)) S (Int32.ofNat i) (Int32.ofNat e) (Int32.ofNat use) (Int32.ofNat st.length) I = some (Int32.ofNat r.1, I') ∧ _
    unfold f8_e
    rw [if_neg (show ¬ Int32.ofNat i < (0 : Int32) from of_nn (by have := H.1.1; have := H.1.2.1; omega))]
    exact h1
end KR
