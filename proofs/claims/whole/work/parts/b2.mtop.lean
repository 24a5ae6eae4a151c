/-! the source's error, in the model -/
def asJ (m : Nat) (I J : AI) : Prop := ∀ b j, ¬ (b = m ∧ 14 ≤ j ∧ j ≤ 19) → ¬ (m + 3 ≤ b ∧ b ≤ m + 13) → J b j = I b j
section BU
variable {kad : Nat → Nat} {N : Nat} {Z : AZ} {m n p : Nat} {L I J : AI} {FF D : PN} {r : Nat × PN} {ln : Nat → Nat → List Nat → PN → Option (Nat × PN)}
theorem asJ.refl : asJ m I I := fun _ _ _ _ => rfl
theorem asJ.trans {Q : AI} (h : asJ m I J) (h2 : asJ m J Q) : asJ m I Q := fun b j x y => (h2 b j x y).trans (h b j x y)
theorem asJ.g {d : Nat} (h : asG m d I J) : asJ m I J := fun b j x y => h b j x (by omega) (by omega)
theorem asJ.fill {b k : Nat} {v : Int32} (h : m + 3 ≤ b ∧ b ≤ m + 13) : asJ m I (fl I b k v) := fun c j x y => congrFun (fl_b (by omega)) j
theorem asJ.cell {b k : Nat} {v : Int32} (h : m + 3 ≤ b ∧ b ≤ m + 13) : asJ m I (up2 I b k v) := fun c j x y => up2_ne (by omega)
theorem asJ.fld {k : Nat} {v : Int32} (h : 14 ≤ k ∧ k ≤ 19) : asJ m I (up2 I m k v) := fun c j x y => up2_ne (by omega)
theorem MSr.j (H : MSr n m L I) (h : asJ m I J) : MSr n m L J := by
  have e1 : J (m + 1) = I (m + 1) := funext fun j => h _ _ (by omega) (by omega)
  have e2 : J (m + 2) = I (m + 2) := funext fun j => h _ _ (by omega) (by omega)
  exact H.o (h _ _ (by omega) (by omega)) e1 e2
theorem M211_f (F0 : Nat) : ∀ (q k F : Nat) (J : AI), k + q = 5 → q < F → f211_b66 kad N Z F m (Int32.ofNat p) (Int32.ofNat k) (fl J (m + 5) k (Int32.ofInt (-1))) = f211_b84 kad N Z N m (Int32.ofNat p) (fl J (m + 5) 5 (Int32.ofInt (-1))) := by
  intro q
  induction q with
  | zero =>
    intro k F J hk hF
    obtain ⟨F, rfl⟩ : ∃ G, F = G + 1 := ⟨F - 1, by omega⟩
    unfold f211_b66
    rw [if_pos (show (5 : Int32) ≤ Int32.ofNat k from (of_le (m := 5) (by decide) (by omega)).mpr (by omega)), show k = 5 from by omega]
  | succ q ih =>
    intro k F J hk hF
    obtain ⟨F, rfl⟩ : ∃ G, F = G + 1 := ⟨F - 1, by omega⟩
    unfold f211_b66
    rw [if_neg (fun hh => by have := (of_le (m := 5) (by decide) (by omega)).mp hh; omega), ixA_of (show k < 5 by omega), Option.bind_some, wI_ok, Option.bind_some, fl_s, of_s]
    exact ih (k + 1) F J (by omega) (by omega)
/-- what the model begins a time with -/
def m211 (m : Nat) (J : AI) : AI := fl (up2 (up2 (up2 (up2 (up2 (up2 (up2 (up2 (up2 J m 18 (8 + J (m + 4) 0)) (m + 4) 0 0) (m + 4) 1 0) m 15 0) m 16 0) m 17 0) m 14 0) (m + 7) 0 0) (m + 8) 0 (J m 1)) (m + 5) 5 (Int32.ofInt (-1))
theorem m211_J : asJ m J (m211 m J) := by
  unfold m211
  exact (((((((((asJ.fld (by decide)).trans (asJ.cell (by omega))).trans (asJ.cell (by omega))).trans (asJ.fld (by decide))).trans (asJ.fld (by decide))).trans (asJ.fld (by decide))).trans (asJ.fld (by decide))).trans (asJ.cell (by omega))).trans (asJ.cell (by omega))).trans (asJ.fill (by omega))
theorem M211_0 (hN : 2000 ≤ N) : f211 kad N Z m (Int32.ofNat p) J = f211_b84 kad N Z N m (Int32.ofNat p) (m211 m J) := by
  unfold f211
  have i2 : ixA 2 (0 : Int32) = some 0 := ixA_of (i := 0) (by decide)
  have i21 : ixA 2 (1 : Int32) = some 1 := ixA_of (i := 1) (by decide)
  have i6 : ixA 6 (0 : Int32) = some 0 := ixA_of (i := 0) (by decide)
  rw [i2, Option.bind_some, wI_ok, Option.bind_some, Option.bind_some, wI_ok, Option.bind_some, i21, Option.bind_some, wI_ok, Option.bind_some, wI_ok, Option.bind_some, wI_ok, Option.bind_some, wI_ok, Option.bind_some, wI_ok, Option.bind_some, i6, Option.bind_some, wI_ok, Option.bind_some, Option.bind_some, wI_ok, Option.bind_some]
  have h := M211_f (kad := kad) (N := N) (Z := Z) (m := m) (p := p) 0 5 0 N (up2 (up2 (up2 (up2 (up2 (up2 (up2 (up2 (up2 J m 18 (8 + J (m + 4) 0)) (m + 4) 0 0) (m + 4) 1 0) m 15 0) m 16 0) m 17 0) m 14 0) (m + 7) 0 0) (m + 8) 0 (J m 1)) rfl (by omega)
  rw [fl_0] at h
  unfold m211
  rw [← h]
  congr 1
  rw [up2_b (show ¬ m = m + 7 by omega), up2_ne (by omega), up2_ne (by omega), up2_ne (by omega), up2_ne (by omega), up2_b (show ¬ m = m + 4 by omega), up2_b (show ¬ m = m + 4 by omega), up2_ne (by omega)]
/-- a time, in the model -/
theorem M211 (hN : 2000 ≤ N) (hn : n ≤ 100) (HS : asS n L p ln) (HK : asML kad N Z m n p L ln) (HM : MSr n m L J) {C : PN} (H : asC n L p 0 n 0 [] C) (T : asT m p 0 n 0 [] C (m211 m J)) (hr : gT L ln 6 0 n 0 [] C = some r) (h0 : C 0 1 = 0 ∧ C 0 2 = 0) (hb : r.2 0 1 ≤ 301 ∧ r.2 0 2 ≤ 301) :
    ∃ J', f211 kad N Z m (Int32.ofNat p) J = some (Int32.ofNat r.1, J') ∧ asJ m J J' ∧ (r.1 = 0 → asM m p r.2 J') := by
  obtain ⟨J1, g1, k1, k2⟩ := gT_M (kad := kad) (N := N) (Z := Z) (m := m) hn HS HK 6 0 n 0 [] C (m211 m J) r H (HM.j m211_J) T hr
  have hc : cst C r.2 ≤ 602 := by unfold cst; omega
  rw [M211_0 hN]
  by_cases h : r.1 = 0
  · obtain ⟨T1, l1⟩ := k1 h
    rw [l1 N (by omega)]
    obtain ⟨F, hF⟩ : ∃ F, N - cst C r.2 = F + 1 + 1 := ⟨N - cst C r.2 - 2, by omega⟩
    have e1 := M211_e (kad := kad) (N := N) (Z := Z) T1 (by decide) hn (F + 1)
    rw [hF, e1]
    refine ⟨up2 J1 m 14 (Int32.ofNat ([] : List Nat).length - 1), ?_, m211_J.trans ((asJ.g g1).trans (asJ.fld (by decide))), fun _ => T1.1.o0 (Or.inl rfl)⟩
    show (if up2 J1 m 14 (Int32.ofNat ([] : List Nat).length - 1) m 14 < 0 then some ((0 : Int32), up2 J1 m 14 (Int32.ofNat ([] : List Nat).length - 1)) else _) = _
    rw [if_pos (by rw [up2_eq]; decide), h]
    rfl
  · rw [k2 h N (by omega)]
    exact ⟨J1, rfl, m211_J.trans (asJ.g g1), fun hh => absurd hh h⟩
theorem M212_2 : ∀ (q k F : Nat) (J : AI), k + q = 256 → q < F → f212_b24 kad N Z F m (Int32.ofNat k) (fl J (m + 13) k 0) = ((f211 kad N Z m (0 : Int32) (fl J (m + 13) 256 0)).bind fun r46_1 => if ¬ r46_1.1 = 0 then f212_b63 kad N Z m r46_1.1 r46_1.2 else (f211 kad N Z m (1 : Int32) r46_1.2).bind fun r56_2 => f212_b63 kad N Z m r56_2.1 r56_2.2) := by
  intro q
  induction q with
  | zero =>
    intro k F J hk hF
    obtain ⟨F, rfl⟩ : ∃ G, F = G + 1 := ⟨F - 1, by omega⟩
    unfold f212_b24
    rw [if_pos (show (256 : Int32) ≤ Int32.ofNat k from (of_le (m := 256) (by decide) (by omega)).mpr (by omega)), show k = 256 from by omega]
  | succ q ih =>
    intro k F J hk hF
    obtain ⟨F, rfl⟩ : ∃ G, F = G + 1 := ⟨F - 1, by omega⟩
    unfold f212_b24
    rw [if_neg (fun hh => by have := (of_le (m := 256) (by decide) (by omega)).mp hh; omega), ixA_of (show k < 256 by omega), Option.bind_some, wI_ok, Option.bind_some, fl_s, of_s]
    exact ih (k + 1) F J (by omega) (by omega)
theorem M212_1 (hN : 2000 ≤ N) : ∀ (q k F : Nat) (J : AI), k + q = 1220 → q < F → f212_b2 kad N Z F m (Int32.ofNat k) (fl J (m + 3) k (Int32.ofInt (-1))) = f212_b24 kad N Z N m (0 : Int32) (fl J (m + 3) 1220 (Int32.ofInt (-1))) := by
  intro q
  induction q with
  | zero =>
    intro k F J hk hF
    obtain ⟨F, rfl⟩ : ∃ G, F = G + 1 := ⟨F - 1, by omega⟩
    unfold f212_b2
    rw [if_pos (show (1220 : Int32) ≤ Int32.ofNat k from (of_le (m := 1220) (by decide) (by omega)).mpr (by omega)), show k = 1220 from by omega]
  | succ q ih =>
    intro k F J hk hF
    obtain ⟨F, rfl⟩ : ∃ G, F = G + 1 := ⟨F - 1, by omega⟩
    unfold f212_b2
    rw [if_neg (fun hh => by have := (of_le (m := 1220) (by decide) (by omega)).mp hh; omega), ixA_of (show k < 1220 by omega), Option.bind_some, wI_ok, Option.bind_some, fl_s, of_s]
    exact ih (k + 1) F J (by omega) (by omega)
theorem m211_o {c : Nat} (h0 : ¬ c = m) (h : ¬ c = m + 4 ∧ ¬ c = m + 5 ∧ ¬ c = m + 7 ∧ ¬ c = m + 8) : m211 m J c = J c := by
  obtain ⟨h4, h5, h7, h8⟩ := h
  unfold m211
  rw [fl_b h5, up2_b h8, up2_b h7, up2_b h0, up2_b h0, up2_b h0, up2_b h0, up2_b h4, up2_b h4, up2_b h0]
theorem m211_m (HM : J m 1 = Int32.ofNat n) : (m211 m J m 14 = 0 ∧ m211 m J m 15 = 0 ∧ m211 m J m 16 = 0 ∧ m211 m J m 17 = 0 ∧ m211 m J m 18 = 8 + J (m + 4) 0) ∧ (m211 m J (m + 4) 0 = 0 ∧ m211 m J (m + 4) 1 = 0) ∧ (∀ q, q < 5 → m211 m J (m + 5) q = Int32.ofInt (-1)) ∧ m211 m J (m + 7) 0 = 0 ∧ m211 m J (m + 8) 0 = Int32.ofNat n := by
  unfold m211
  refine ⟨⟨?_, ?_, ?_, ?_, ?_⟩, ⟨?_, ?_⟩, fun q hq => fl_at hq, ?_, ?_⟩
  · rw [fl_b (by omega), up2_b (by omega), up2_b (by omega), up2_eq]
  · rw [fl_b (by omega), up2_b (by omega), up2_b (by omega), up2_ne (by omega), up2_ne (by omega), up2_ne (by omega), up2_eq]
  · rw [fl_b (by omega), up2_b (by omega), up2_b (by omega), up2_ne (by omega), up2_ne (by omega), up2_eq]
  · rw [fl_b (by omega), up2_b (by omega), up2_b (by omega), up2_ne (by omega), up2_eq]
  · rw [fl_b (by omega), up2_b (by omega), up2_b (by omega), up2_ne (by omega), up2_ne (by omega), up2_ne (by omega), up2_ne (by omega), up2_b (by omega), up2_b (by omega), up2_eq]
  · rw [fl_b (by omega), up2_b (by omega), up2_b (by omega), up2_b (by omega), up2_b (by omega), up2_b (by omega), up2_b (by omega), up2_ne (by omega), up2_eq]
  · rw [fl_b (by omega), up2_b (by omega), up2_b (by omega), up2_b (by omega), up2_b (by omega), up2_b (by omega), up2_b (by omega), up2_eq]
  · rw [fl_b (by omega), up2_b (by omega), up2_eq]
  · rw [fl_b (by omega), up2_eq, HM]
theorem asT.beg {C : PN} (HM : J m 1 = Int32.ofNat n) (hC : (∀ k, C 0 k = 0) ∧ C 1 0 = 0 ∧ C 1 1 = 0 ∧ (∀ q, C 2 q = 0)) (h8 : p = 1 → 8 + J (m + 4) 0 = Int32.ofNat (C 8 0)) (hl : ∀ s, s < 1220 → (C 4 s = 0 → J (m + 3) s = Int32.ofInt (-1)) ∧ (¬ C 4 s = 0 → J (m + 3) s = Int32.ofNat (1000 * C 11 s + (C 4 s - 1)))) (hb : ∀ q, q < 256 → J (m + 13) q = Int32.ofNat (C 7 q)) : asT m p 0 n 0 [] C (m211 m J) := by
  obtain ⟨⟨a1, a2, a3, a4, a5⟩, ⟨b1, b2⟩, c, d1, d2⟩ := m211_m HM
  obtain ⟨c0, c1, c2, c3⟩ := hC
  refine ⟨⟨⟨by rw [a2, c0]; rfl, by rw [a3, c0]; rfl, by rw [a4, c0]; rfl, fun h => by rw [a5]; exact h8 h⟩, fun q hq => ?_, fun q hq => ⟨fun _ => c q hq, fun h => absurd (c3 q) h⟩, fun s hs => ?_, fun q hq => ?_⟩, ⟨a1, d1, d2⟩, ⟨fun _ => rfl, fun h => absurd h (by decide)⟩, fun j hj => absurd hj (Nat.not_lt_zero _)⟩
  · have : q = 0 ∨ q = 1 := by omega
    rcases this with h | h
    · rw [h, b1, c1]; rfl
    · rw [h, b2, c2]; rfl
  · rw [m211_o (by omega) (by omega)]; exact hl s hs
  · rw [m211_o (by omega) (by omega)]; exact hb q hq
/-- the model's error -/
theorem M212 (hN : 2000 ≤ N) (hI : LI n L) (HM : MSr n m L J) (hr : gT L (l1 n L) 6 0 n 0 [] as0 = some r) (hr1 : r.1 ≤ 1000) (hr2 : r.2 0 1 ≤ 301 ∧ r.2 0 2 ≤ 301)
    {q : Nat × PN} (hq : r.1 = 0 → asW n L 0 r.2 ∧ r.2 7 = as0 7 ∧ gT L (l2 n L) 6 0 n 0 [] (as2 r.2) = some q ∧ (q.2 0 1 ≤ 301 ∧ q.2 0 2 ≤ 301)) :
    ∃ J', f212 kad N Z m J = some (Int32.ofNat (if r.1 = 0 then q.1 else r.1), J') ∧ asJ m J J' ∧ (r.1 = 0 → q.1 = 0 → asM m 1 q.2 J') := by
  obtain ⟨hn, hv⟩ := hI
  have h1 := M212_1 (kad := kad) (N := N) (Z := Z) (m := m) hN 1220 0 N J rfl (by omega)
  have h2 := M212_2 (kad := kad) (N := N) (Z := Z) (m := m) 256 0 N (fl J (m + 3) 1220 (Int32.ofInt (-1))) rfl (by omega)
  rw [fl_0] at h1 h2
  obtain ⟨J1, hJ1⟩ : ∃ J1, J1 = fl (fl J (m + 3) 1220 (Int32.ofInt (-1))) (m + 13) 256 0 := ⟨_, rfl⟩
  have H1 : asJ m J J1 := by rw [hJ1]; exact (asJ.fill (by omega)).trans (asJ.fill (by omega))
  have HM1 := HM.j H1
  have T1 : asT m 0 0 n 0 [] as0 (m211 m J1) := asT.beg HM1.1 ⟨fun _ => rfl, rfl, rfl, fun _ => rfl⟩ (fun h => absurd h (by decide)) (fun s hs => ⟨fun _ => by rw [hJ1, fl_b (by omega), fl_at hs], fun h => absurd rfl h⟩) (fun q hq => by rw [hJ1, fl_at hq]; rfl)
  obtain ⟨J2, e2, g2, k2⟩ := M211 (kad := kad) (Z := Z) hN hn (l1_S hv hn) (asM1_L hN hn hv) HM1 as0_C T1 hr ⟨rfl, rfl⟩ hr2
  have HM2 := HM1.j g2
  unfold f212
  rw [show (0 : Int32) = Int32.ofNat 0 from rfl, h1, show (0 : Int32) = Int32.ofNat 0 from rfl, h2, ← hJ1, show f211 kad N Z m 0 J1 = some (Int32.ofNat r.1, J2) from e2, Option.bind_some]
  unfold f212_b63
  by_cases h0 : r.1 = 0
  · obtain ⟨W, h7, hq1, hq2⟩ := hq h0
    have M2 := k2 h0
    have T2 : asT m 1 0 n 0 [] (as2 r.2) (m211 m J2) := asT.beg HM2.1 ⟨fun _ => rfl, rfl, rfl, fun _ => rfl⟩ (fun _ => by rw [M2.2.1 0 (by decide)]; exact eA 8 _) (fun s hs => M2.2.2.2.1 s hs) (fun q hq => by rw [M2.2.2.2.2 q hq, h7]; rfl)
    obtain ⟨J3, e3, g3, k3⟩ := M211 (kad := kad) (Z := Z) hN hn (l2_S hv hn) (asM2_L hN hn hv) HM2 (as2_C W) T2 hq1 ⟨rfl, rfl⟩ hq2
    dsimp only
    rw [if_neg (show ¬ ¬ Int32.ofNat r.1 = 0 from fun hh => hh ((nz_of hr1).mpr h0)), show f211 kad N Z m 1 J2 = some (Int32.ofNat q.1, J3) from e3, Option.bind_some, if_pos h0]
    exact ⟨J3, rfl, H1.trans (g2.trans g3), fun _ h => k3 h⟩
  · dsimp only
    rw [if_pos (show ¬ Int32.ofNat r.1 = 0 from fun hh => h0 ((nz_of hr1).mp hh)), if_neg h0]
    exact ⟨J2, rfl, H1.trans g2, fun h => absurd h h0⟩
end BU
