/-! the source's calls, in both -/
section OS
variable {kad : Nat → Nat} {N : Nat} {Z : AZ} {g m n : Nat} {I J I' J' L : AI} {es : List Nat} {cls : Option ((Int32 ⊕ String) × AI)} {mdl cq : Option (Int32 × AI)} {v y i j a b c d e : Int32}
theorem frCL.h (h : frCL g I I') : frG g I I' := fun b hb => h b (by omega)
theorem frML.h (h : frML m (up2 J m 0 v) J') : frH m J J' := fun b hb => funext fun j => (h b j (by omega) (by omega)).trans (up2_ne (by omega))
theorem ADD.out (H : MIr g m I J) (h : ADD es g m I J cls mdl) : OUT g m es I J cls mdl := by
  obtain ⟨th, v, n', L', a1, a2, ⟨x, I', e1, e2, e3, e4⟩, y, J', f1, f2, f3, f4⟩ := h
  subst e2
  refine ⟨th, v, y, I', J', a1, e1, f1, f2, ?_, e4.h, f4.h, H.src e4 f4 ⟨n', L', a2, e3, f3⟩⟩
  rw [f4 m 0 (by omega) (by omega), up2_eq]
theorem O124 (H : MIr g m I J) : OUQ g m I J (f124 kad N Z g I) (f187 kad N Z m J) := by
  obtain ⟨n, L, a1, a2, a3⟩ := H.1.1
  refine ⟨Int32.ofNat n, up2 I (g + 1) 0 0, up2 (up2 J m 0 0) m 1 0, ?_, ?_, frG.up (by omega), (frH.up (by omega)).trans (frH.up (by omega)), H.src (v := 0) (fun b hb => up2_b (by omega)) (fun b j h1 h2 => up2_ne h1) ⟨0, L, ⟨by decide, fun i hi => absurd hi (by omega)⟩, ⟨up2_eq, fun i hi => absurd hi (by omega)⟩, ⟨up2_eq, fun i hi => absurd hi (by omega)⟩⟩⟩
  · unfold f124 f1
    rw [wI_ok, Option.bind_some, Option.bind_some, a2.1]
  · unfold f187
    rw [wI_ok, Option.bind_some, wI_ok, Option.bind_some, up2_ne (by omega), a3.1]
theorem O125 (H : MIr g m I J) : OUQ g m I J (f125 kad N Z g I) (f188 kad N Z m J) := by
  obtain ⟨n, L, a1, a2, a3⟩ := H.1.1
  refine OUQ.q H (v := Int32.ofNat n) ?_ ?_
  · unfold f125
    rw [a2.1]
  · unfold f188
    rw [wI_ok, Option.bind_some, up2_ne (by omega), a3.1]
theorem O126 (hE : miE kad N Z g m) (H : MIr g m I J) : OUT g m [0, 1] I J (f126 kad N Z g a I) (f191 kad N Z m a J) := by
  obtain ⟨n, L, a1, a2, a3⟩ := H.1.1
  exact ADD.out H (T126 hE.2.1 a1 a2 a3)
theorem O127 (hE : miE kad N Z g m) (H : MIr g m I J) : OUT g m [0, 1] I J (f127 kad N Z g a I) (f192 kad N Z m a J) := by
  obtain ⟨n, L, a1, a2, a3⟩ := H.1.1
  exact ADD.out H (T127 hE.2.1 a1 a2 a3)
theorem O128 (hE : miE kad N Z g m) (H : MIr g m I J) : OUT g m [0, 1] I J (f128 kad N Z g a b c d e I) (f193 kad N Z m a b c d e J) := by
  obtain ⟨n, L, a1, a2, a3⟩ := H.1.1
  exact ADD.out H (T128 hE.2.1 a1 a2 a3)
theorem O129 (hE : miE kad N Z g m) (H : MIr g m I J) : OUT g m [0, 1] I J (f129 kad N Z g a b I) (f194 kad N Z m a b J) := by
  obtain ⟨n, L, a1, a2, a3⟩ := H.1.1
  exact ADD.out H (T129 hE.2.1 a1 a2 a3)
theorem O130 (hE : miE kad N Z g m) (H : MIr g m I J) : OUT g m [0, 1] I J (f130 kad N Z g a I) (f195 kad N Z m a J) := by
  obtain ⟨n, L, a1, a2, a3⟩ := H.1.1
  exact ADD.out H (T130 hE.2.1 a1 a2 a3)
theorem O131 (hE : miE kad N Z g m) (H : MIr g m I J) : OUT g m [0, 1] I J (f131 kad N Z g a b c I) (f196 kad N Z m a b c J) := by
  obtain ⟨n, L, a1, a2, a3⟩ := H.1.1
  exact ADD.out H (T131 hE.2.1 a1 a2 a3)
theorem O132 (hE : miE kad N Z g m) (H : MIr g m I J) : OUT g m [0, 1] I J (f132 kad N Z g a I) (f197 kad N Z m a J) := by
  obtain ⟨n, L, a1, a2, a3⟩ := H.1.1
  exact ADD.out H (T132 hE.2.1 a1 a2 a3)
theorem O133 (hE : miE kad N Z g m) (H : MIr g m I J) : OUT g m [1] I J (f133 kad N Z g I) (f198 kad N Z m J) := by
  obtain ⟨n, L, a1, a2, a3⟩ := H.1.1
  exact ADD.out H (T133 hE.2.1 a1 a2 a3)
theorem O134 (hE : miE kad N Z g m) (H : MIr g m I J) : OUT g m [0, 1] I J (f134 kad N Z g a b c d e I) (f199 kad N Z m a b c d e J) := by
  obtain ⟨n, L, a1, a2, a3⟩ := H.1.1
  exact ADD.out H (T134 hE.2.1 a1 a2 a3)
/-- the assembler, in both -/
theorem ASM (hE : miE kad N Z g m) (hI : LI n L) (HC : CSr n (g + 1) L I) (HM : MSr n m L J) (hb : miB g I) : ∃ (x : Nat) (I' J' : AI) (q : PN), x ≤ 1000 ∧ f5 kad N Z (g + 1) I = some (Int32.ofNat x, I') ∧ f212 kad N Z m J = some (Int32.ofNat x, J') ∧ asH (g + 1) I I' ∧ asJ m J J' ∧ (x = 0 → asK (g + 1) 1 [] q I' ∧ asM m 1 q J' ∧ asW n L 1 q) := by
  obtain ⟨hN, hg, hm, hz, -, -⟩ := hE
  obtain ⟨hn, hv⟩ := hI
  obtain ⟨r, hr, hr1, hr2, hr3⟩ := as_ends hv hn
  by_cases h0 : r.1 = 0
  · obtain ⟨W, h7, q, hq, hq1, hq2, hq3⟩ := hr3 h0
    obtain ⟨I', e1, e2, e3⟩ := K5 (q := q) hN (sh10_s0 hg) hz ⟨hn, hv⟩ HC hb hr hr1 (fun _ => ⟨W, hq⟩)
    obtain ⟨J', f1, f2, f3⟩ := M212 (kad := kad) (Z := Z) (q := q) hN ⟨hn, hv⟩ HM hr hr1 hr2 (fun _ => ⟨W, h7, hq, hq2⟩)
    rw [if_pos h0] at e1 f1
    exact ⟨q.1, I', J', q.2, hq1, e1, f1, e2, f2, fun h => ⟨e3 h0 h, f3 h0 h, hq3 h⟩⟩
  · obtain ⟨I', e1, e2, -⟩ := K5 (q := r) hN (sh10_s0 hg) hz ⟨hn, hv⟩ HC hb hr hr1 (fun h => absurd h h0)
    obtain ⟨J', f1, f2, -⟩ := M212 (kad := kad) (Z := Z) (q := r) hN ⟨hn, hv⟩ HM hr hr1 hr2 (fun h => absurd h h0)
    rw [if_neg h0] at e1 f1
    exact ⟨r.1, I', J', r.2, hr1, e1, f1, e2, f2, fun h => absurd h h0⟩
theorem asH.h (h : asH (g + 1) I I') : frG g I I' := fun b hb => h.1 b (by omega)
theorem asJ.h (h : asJ m J J') : frH m J J' := fun b hb => funext fun j => h b j (by omega) (by omega)
theorem O135 (hE : miE kad N Z g m) (H : MIr g m I J) : OUQ g m I J (f135 kad N Z g I) (f213 kad N Z m J) := by
  obtain ⟨n, L, a1, a2, a3⟩ := H.1.1
  obtain ⟨x, I', J', q, x1, e1, f1, e2, f2, -⟩ := ASM (kad := kad) (N := N) (Z := Z) hE a1 a2 (a3.o (J := up2 J m 0 0) (up2_ne (by omega)) (up2_b (by omega)) (up2_b (by omega))) H.1.2
  refine ⟨Int32.ofNat x, I', J', ?_, ?_, e2.h, (frH.up (by omega)).trans f2.h, H.err e2 f2⟩
  · unfold f135
    rw [e1, Option.bind_some]
  · unfold f213
    rw [wI_ok, Option.bind_some, f1, Option.bind_some]
theorem MIr.img (H : MIr g m I J) (hc : ∀ b, ¬ b = g → ¬ b = g + 113 → I' b = I b) (hf : ∀ j, ¬ j = 2 → I' g j = I g j) (hm : ∀ b j, ¬ (b = m ∧ (j = 0 ∨ j = 22)) → ¬ b = m + 14 → J' b j = J b j) (hI : miI g m I' J') : MIr g m I' J' := by
  obtain ⟨⟨a1, a2⟩, b, c, d⟩ := H
  refine ⟨⟨a1.cong (congrFun (hc _ (by omega) (by omega)) 0) (fun i hi => hc _ (by omega) (by omega)) (hm _ _ (by omega) (by omega)) (funext fun j => hm _ j (by omega) (by omega)) (funext fun j => hm _ j (by omega) (by omega)), fun q hq => ?_⟩, hI, c.cong (hf 5 (by decide)) (fun b h1 h2 => hc _ (by omega) (by omega)) ⟨hc _ (by omega) (by omega), hc _ (by omega) (by omega)⟩ (fun b h1 h2 => hc _ (by omega) (by omega)) (fun b j h => ?_), d.cong (hf 12 (by decide)) (fun b h1 h2 => hc _ (by omega) (by omega)) (fun b h1 h2 => hc _ (by omega) (by omega)) (fun b j h => hm b j (by omega) (by omega))⟩
  · rw [hc _ (by omega) (by omega)]; exact a2 q hq
  · have := h.rng
    exact hm b j (by omega) (by omega)
theorem M214_l : ∀ (q k F : Nat) (Q : AI), k + q = 256 → q < F → f214_b23 kad N Z F m (Int32.ofNat k) (cpI Q (m + 13) (m + 14) 0 0 k) = some (Q (m + 4) 0 + Q (m + 4) 1, up2 (cpI Q (m + 13) (m + 14) 0 0 256) m 22 1) := by
  intro q
  induction q with
  | zero =>
    intro k F Q hk hF
    obtain ⟨F, rfl⟩ : ∃ G, F = G + 1 := ⟨F - 1, by omega⟩
    unfold f214_b23
    rw [if_pos (show (256 : Int32) ≤ Int32.ofNat k from (of_le (m := 256) (by decide) (by omega)).mpr (by omega)), show k = 256 from by omega, wI_ok, Option.bind_some, show ixA 2 (0 : Int32) = some 0 from ixA_of (i := 0) (by decide), Option.bind_some, show ixA 2 (1 : Int32) = some 1 from ixA_of (i := 1) (by decide), Option.bind_some, up2_b (by omega), cpI_b (by omega)]
  | succ q ih =>
    intro k F Q hk hF
    obtain ⟨F, rfl⟩ : ∃ G, F = G + 1 := ⟨F - 1, by omega⟩
    unfold f214_b23
    rw [if_neg (fun hh => by have := (of_le (m := 256) (by decide) (by omega)).mp hh; omega), ixA_of (show k < 256 by omega), Option.bind_some, Option.bind_some, cpI_w (by omega), Option.bind_some, of_s]
    exact ih (k + 1) F Q (by omega) (by omega)
theorem O136 (hE : miE kad N Z g m) (H : MIr g m I J) : OUT g m [1] I J (f136 kad N Z g I) (f214 kad N Z m J) := by
  have hN := hE.1
  obtain ⟨n, L, a1, a2, a3⟩ := H.1.1
  obtain ⟨x, I1, J1, q, x1, e1, f1, e2, f2, e3⟩ := ASM (kad := kad) (N := N) (Z := Z) hE a1 a2 a3 H.1.2
  have H1 : MIr g m I1 J1 := H.err (v := J m 0) e2 (by rw [up2_self rfl]; exact f2)
  unfold f136 f214 f214_b13
  rw [e1, f1, Option.bind_some, Option.bind_some]
  dsimp only
  by_cases h0 : x = 0
  · obtain ⟨k1, k2, k3⟩ := e3 h0
    rw [if_pos ((nz_of x1).mpr h0), if_neg (fun hh => hh ((nz_of x1).mpr h0)), M185_0, Option.bind_some]
    dsimp only
    rw [if_pos z10]
    have hcp : cA I1 (g + 2) 256 (0 : Int32) (g + 113) 256 (0 : Int32) (256 : Int32) = some (cpI I1 (g + 2) (g + 113) 0 0 256) := cA_ok (s := 0) (d := 0) (n := 256) (by decide) (by decide)
    have hl : f214_b23 kad N Z N m (0 : Int32) (up2 J1 m 0 0) = some (up2 J1 m 0 0 (m + 4) 0 + up2 J1 m 0 0 (m + 4) 1, up2 (cpI (up2 J1 m 0 0) (m + 13) (m + 14) 0 0 256) m 22 1) := by
      have h := M214_l (kad := kad) (N := N) (Z := Z) (m := m) 256 0 N (up2 J1 m 0 0) rfl (by omega)
      rw [cpI_0] at h
      exact h
    rw [hcp, Option.bind_some, wI_ok, Option.bind_some, hl]
    have s1 : ∀ k, k < 2 → up2 (cpI I1 (g + 2) (g + 113) 0 0 256) g 2 1 (g + 1 + 10) k = Int32.ofNat (q 1 k) := fun k hk => by
      rw [up2_b (by omega), cpI_b (by omega)]; exact k1.2.1 k hk
    have s2 : ∀ k, k < 2 → up2 J1 m 0 0 (m + 4) k = Int32.ofNat (q 1 k) := fun k hk => by
      rw [up2_b (by omega)]; exact k2.2.1 k hk
    unfold f4
    rw [show ixA 2 (0 : Int32) = some 0 from ixA_of (i := 0) (by decide), Option.bind_some, show ixA 2 (1 : Int32) = some 1 from ixA_of (i := 1) (by decide), Option.bind_some, Option.bind_some]
    dsimp only
    rw [s1 0 (by decide), s1 1 (by decide), s2 0 (by decide), s2 1 (by decide)]
    refine ⟨0, _, _, _, _, by decide, rfl, rfl, fun _ => rfl, ?_, ?_, ?_, H1.img (fun b h1 h2 => ?_) (fun j hj => ?_) (fun b j h1 h2 => ?_) ⟨Or.inr up2_eq, ?_, fun k hk => ⟨?_, ?_⟩⟩⟩
    · rw [up2_ne (by omega), cpI_b (by omega), up2_eq]; rfl
    · intro b hb
      rw [up2_b (by omega), cpI_b (by omega)]
      exact e2.h b hb
    · intro b hb
      rw [up2_b (by omega), cpI_b (by omega), up2_b (by omega)]
      exact f2.h b hb
    · rw [up2_b h1, cpI_b h2]
    · rw [up2_ne (by omega), cpI_b (by omega)]
    · rw [up2_ne (by omega), cpI_b h2, up2_ne (by omega)]
    · rw [up2_eq, up2_eq]
    · rw [up2_b (by omega), cpI_at (by omega)]
      have h7 : I1 (g + 2) (0 + (k - 0)) = Int32.ofNat (q 7 k) := by
        rw [show 0 + (k - 0) = k by omega]
        exact (k1.2.2.2.2.2 rfl).2.1 k hk
      rw [h7]
      exact wd_nat (k3.2.2 k).2.2
    · have z1 : up2 (cpI I1 (g + 2) (g + 113) 0 0 256) g 2 1 (g + 113) k = I1 (g + 2) (0 + (k - 0)) := by rw [up2_b (by omega), cpI_at (by omega)]
      have z2 : up2 (cpI (up2 J1 m 0 0) (m + 13) (m + 14) 0 0 256) m 22 1 (m + 14) k = J1 (m + 13) (0 + (k - 0)) := by rw [up2_b (by omega), cpI_at (by omega), up2_b (by omega)]
      rw [z1, z2, show 0 + (k - 0) = k by omega, k2.2.2.2.2 k hk]
      exact ((k1.2.2.2.2.2 rfl).2.1 k hk).symm
  · rw [if_neg (fun hh => h0 ((nz_of x1).mp hh)), if_pos (fun hh => h0 ((nz_of x1).mp hh)), M185_1, Option.bind_some]
    dsimp only
    rw [if_neg z00]
    exact ⟨1, 0, 0, I1, up2 J1 m 0 1, by decide, rfl, rfl, fun hh => absurd hh (by decide), up2_eq, e2.h, f2.h.trans (frH.up (by omega)), H1.th⟩
theorem O137 (H : MIr g m I J) : OUT g m [0, 1] I J (f137 kad N Z g i I) (f215 kad N Z m i J) := by
  obtain ⟨b1, b2, b3⟩ := H.2.1
  unfold f137 f140 f215 f215_b28 f215_b44
  rw [K138, M186, Option.bind_some, Option.bind_some]
  by_cases hi : i < 0 ∨ 255 < i
  · rw [if_pos hi, if_pos hi, xB_r]
    dsimp only
    rw [if_neg z00, M185_1, Option.bind_some, if_pos rfl]
    exact OUT.q H (th := 1) (v := 0) (by decide) rfl rfl (fun hh => absurd hh (by decide))
  · rw [if_neg hi, if_neg hi, xB_l]
    dsimp only
    rw [if_pos z10]
    obtain ⟨e, e2⟩ := ix_in (b := 255) (n := 256) hi (by decide) (by decide)
    by_cases h2 : I g 2 = 0
    · rw [if_neg (fun hh => hh h2), Option.bind_some, xB_r, if_pos (b2.trans h2), M185_2, Option.bind_some, if_pos rfl]
      exact OUT.q H (th := 2) (v := 0) (by decide) rfl rfl (fun hh => absurd hh (by decide))
    · rw [if_pos h2, Option.bind_some, xB_l, if_neg (fun hh => h2 (b2.symm.trans hh)), M185_0, Option.bind_some]
      dsimp only
      rw [if_neg z10, e, Option.bind_some, Option.bind_some, up2_b (by omega), (b3 (nT i) (by omega)).2]
      exact OUT.q H (th := 0) (v := I (g + 113) (nT i)) (by decide) rfl rfl (fun _ => rfl)
end OS
