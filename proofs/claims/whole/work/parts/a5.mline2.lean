/-! the model goes through a line -/
def asML (kad : Nat → Nat) (N : Nat) (Z : AZ) (m n p : Nat) (L : AI) (ln : Nat → Nat → List Nat → PN → Option (Nat × PN)) : Prop := ∀ (i e use : Nat) (st : List Nat) (C : PN) (J : AI) (r : Nat × PN), asC n L p i e use st C → i < e → MSr n m L J → asT m p (i + 1) e use st C J → ln i use st C = some r →
  ∃ J', f210 kad N Z m (Int32.ofNat i) (Int32.ofNat p) J = some (Int32.ofNat r.1, J') ∧ asG m st.length J J' ∧
    (r.1 = 0 → L 1 i = 8 → asG m (st.length + 1) J J' ∧ asT m p (r.2 2 (nT (L 2 i))) (r.2 3 (nT (L 2 i))) (r.2 0 2 + 1) (nT (L 2 i) :: st) (un r.2 0 2 (r.2 0 2 + 1)) J') ∧
    (r.1 = 0 → ¬ L 1 i = 8 → asT m p (if L 1 i = 6 then r.2 3 (nT (L 2 i)) + 1 else i + 1) e use st r.2 J')
section AQ
variable {kad : Nat → Nat} {N : Nat} {Z : AZ} {m n p i e use : Nat} {st : List Nat} {C : PN} {L J : AI} {r : Nat × PN}
theorem lbm1 {s : Nat} (H : asM m p C J) (hs : s < 1220) (hb : C 4 s ≤ 249 ∧ C 11 s ≤ 1) : J (m + 3) s = Int32.ofInt (-1) ↔ C 4 s = 0 := by
  obtain ⟨h1, h2⟩ := H.2.2.2.1 s hs
  constructor
  · intro h
    by_cases hz : C 4 s = 0
    · exact hz
    · rw [h2 hz] at h
      exact absurd h (m1_ne (by omega))
  · exact h1
theorem M15 (H : asM m p C J) (hp : C 0 0 ≤ 1) : ixA 2 (J m 15) = some (C 0 0) := by
  rw [H.1.1]
  exact ixA_of (by omega)
theorem M207 (H : asT m p (i + 1) e use st C J) (W : asW n L p C) (h5 : st.length ≤ 5) (hu : use ≤ 300) (HM : MSr n m L J) (hn : n ≤ 100) (hi : i < n) (hv : LV L i) (h1 : L 1 i = 1) : f207 kad N Z m (Int32.ofNat i) J = some (if C 4 (slN (nT (L 2 i)) use) = 0 then (0, up2 J (m + 3) (slN (nT (L 2 i)) use) (Int32.ofNat (1000 * C 0 0 + C 1 (C 0 0)))) else (Int32.ofNat (200 + i), J)) := by
  obtain ⟨l1, l2, -⟩ := HM.2 i hi
  obtain ⟨n1, -, -, n3, -⟩ := hv.nn (by rw [h1]; decide) (by rw [h1]; decide)
  have n3 := n3 h1
  have hs := slN_lt n3 hu
  have e0 := M200 (kad := kad) (N := N) (Z := Z) H h5 hu n3
  rw [← n1] at e0
  have w0 := W.1.1
  unfold f207
  rw [ml2 HM hi hn, Option.bind_some, l2 (Or.inr (Or.inl h1)), e0, Option.bind_some]
  dsimp only
  rw [ixA_of hs, Option.bind_some]
  by_cases h : C 4 (slN (nT (L 2 i)) use) = 0
  · rw [if_pos ((lbm1 H.1 hs (W.2.2 _).1).mpr h), if_pos h, M15 H.1 w0, Option.bind_some, Option.bind_some, wI_ok, Option.bind_some, H.1.1.1, H.1.2.1 _ (by omega), show (1000 : Int32) = Int32.ofNat 1000 from rfl, eM, eA]
  · rw [if_neg (fun hh => h ((lbm1 H.1 hs (W.2.2 _).1).mp hh)), if_neg h, show (200 : Int32) = Int32.ofNat 200 from rfl, eA]
theorem M208 (H : asT m 1 i e use st C J) (hp : C 0 0 ≤ 1) {w : Nat} (ha : (if C 0 0 = 0 then 8 else C 8 0) + C 1 (C 0 0) < 256) : ∃ J', f208 kad N Z m (Int32.ofNat w) J = some ((), J') ∧ asG m st.length J J' ∧ asT m 1 i e use st (putN w C) J' := by
  have eb : (if C 0 0 = 0 then (8 : Int32) else J m 18) = Int32.ofNat (if C 0 0 = 0 then 8 else C 8 0) := by
    by_cases h : C 0 0 = 0
    · rw [if_pos h, if_pos h]; rfl
    · rw [if_neg h, if_neg h, H.1.1.2.2.2 rfl]
  have e15 : J m 15 = 0 ↔ C 0 0 = 0 := by
    rw [H.1.1.1]
    exact of_inj (n := 0) (by omega) (by decide)
  have es : f208 kad N Z m (Int32.ofNat w) J = f208_b20 kad N Z m (Int32.ofNat w) (if C 0 0 = 0 then 8 else J m 18) J := by
    unfold f208
    by_cases h : C 0 0 = 0
    · rw [if_neg (fun hh => hh (e15.mpr h)), if_pos h]
    · rw [if_pos (fun hh => h (e15.mp hh)), if_neg h]
  have M1 := H.1.im (w := (if C 0 0 = 0 then 8 else C 8 0) + C 1 (C 0 0)) (v := w)
  rw [es, eb]
  unfold f208_b20
  rw [M15 H.1 hp, Option.bind_some, H.1.2.1 _ (by omega), eA, ixA_of ha, Option.bind_some, wI_ok, Option.bind_some, up2_b (show ¬ m = m + 13 by omega), M15 H.1 hp, Option.bind_some, Option.bind_some, wI_ok, Option.bind_some, up2_b (show ¬ m + 4 = m + 13 by omega), H.1.2.1 _ (by omega), of_s]
  refine ⟨_, rfl, (asG.up (by omega)).trans (asG.up (by omega)) (Nat.le_refl _), H.up (M1.sz (w := C 0 0) (v := C 1 (C 0 0) + 1)) ?_ (fun b h1 h2 => ?_) ⟨rfl, rfl⟩⟩
  · rw [up2_b (by omega), up2_b (by omega)]
  · rw [up2_b (by omega), up2_b (by omega)]
/-- a use is put on the stack -/
theorem M134 (H : asT m p i e use st C J) (h5 : st.length ≤ 4) {a x : Nat} (ha : a < 5) (h2 : ¬ C 2 a = 0) (v w s0 : Int32) :
    ∃ J', f206_b134 kad N Z m (Int32.ofNat x) (Int32.ofNat a) v w s0 J = some (if s0 = 0 then 0 else 100 * s0 + Int32.ofNat x, J') ∧ (∀ d, d ≤ st.length + 1 → asG m d J J') ∧ ((p = 1 → v = Int32.ofNat (C 5 (C 0 2 + 1) - 1) ∧ w = Int32.ofNat (C 6 (C 0 2 + 1) - 1)) → asT m p (C 2 a) (C 3 a) (C 0 2 + 1) (a :: st) (un C 0 2 (C 0 2 + 1)) J') := by
  obtain ⟨m1, m2⟩ := (H.1.2.2.1 a ha).2 h2
  have hd := H.2.1.1
  obtain ⟨d, rfl⟩ : ∃ d, d = st.length := ⟨_, rfl⟩
  obtain ⟨J1, hJ1⟩ : ∃ J1, J1 = up2 J m 14 (Int32.ofNat (st.length + 1)) := ⟨_, rfl⟩
  obtain ⟨J2, hJ2⟩ : ∃ J2, J2 = up2 J1 (m + 7) (st.length + 1) (Int32.ofNat (C 2 a)) := ⟨_, rfl⟩
  obtain ⟨J3, hJ3⟩ : ∃ J3, J3 = up2 J2 (m + 8) (st.length + 1) (Int32.ofNat (C 3 a)) := ⟨_, rfl⟩
  obtain ⟨J4, hJ4⟩ : ∃ J4, J4 = up2 J3 (m + 9) (st.length + 1) (Int32.ofNat (C 0 2)) := ⟨_, rfl⟩
  obtain ⟨J5, hJ5⟩ : ∃ J5, J5 = up2 J4 (m + 10) (st.length + 1) (Int32.ofNat a) := ⟨_, rfl⟩
  obtain ⟨J6, hJ6⟩ : ∃ J6, J6 = up2 J5 (m + 11) (st.length + 1) v := ⟨_, rfl⟩
  obtain ⟨J7, hJ7⟩ : ∃ J7, J7 = up2 J6 (m + 12) (st.length + 1) w := ⟨_, rfl⟩
  have r1 : ∀ c, ¬ c = m → J1 c = J c := fun c h => by rw [hJ1]; exact up2_b h
  have r2 : ∀ c, ¬ c = m + 7 → J2 c = J1 c := fun c h => by rw [hJ2]; exact up2_b h
  have r3 : ∀ c, ¬ c = m + 8 → J3 c = J2 c := fun c h => by rw [hJ3]; exact up2_b h
  have r4 : ∀ c, ¬ c = m + 9 → J4 c = J3 c := fun c h => by rw [hJ4]; exact up2_b h
  have r5 : ∀ c, ¬ c = m + 10 → J5 c = J4 c := fun c h => by rw [hJ5]; exact up2_b h
  have r6 : ∀ c, ¬ c = m + 11 → J6 c = J5 c := fun c h => by rw [hJ6]; exact up2_b h
  have r7 : ∀ c, ¬ c = m + 12 → J7 c = J6 c := fun c h => by rw [hJ7]; exact up2_b h
  have i6 : ∀ Q : AI, Q m 14 = Int32.ofNat (st.length + 1) → ixA 6 (Q m 14) = some (st.length + 1) := fun Q h => by rw [h]; exact ixA_of (by omega)
  have g1 : J1 m 14 = Int32.ofNat (st.length + 1) := by rw [hJ1, up2_eq]
  have g2 : J2 m 14 = Int32.ofNat (st.length + 1) := by rw [r2 m (by omega), g1]
  have g3 : J3 m 14 = Int32.ofNat (st.length + 1) := by rw [r3 m (by omega), g2]
  have g4 : J4 m 14 = Int32.ofNat (st.length + 1) := by rw [r4 m (by omega), g3]
  have g5 : J5 m 14 = Int32.ofNat (st.length + 1) := by rw [r5 m (by omega), g4]
  have g6 : J6 m 14 = Int32.ofNat (st.length + 1) := by rw [r6 m (by omega), g5]
  have e17 : J m 17 = Int32.ofNat (C 0 2) := H.1.1.2.2.1
  have q1 : J1 m 17 = Int32.ofNat (C 0 2) := by rw [hJ1, up2_ne (by omega), e17]
  have q7 : J7 m 17 = Int32.ofNat (C 0 2) := by rw [r7 m (by omega), r6 m (by omega), r5 m (by omega), r4 m (by omega), r3 m (by omega), r2 m (by omega), q1]
  have MJ : asM m p (un C 0 2 (C 0 2 + 1)) (up2 J7 m 17 (Int32.ofNat (C 0 2 + 1))) := by
    have x1 : asM m p C J1 := by rw [hJ1]; exact H.1.o0 (Or.inl rfl)
    have x2 : asM m p C J2 := by rw [hJ2]; exact x1.ob (by omega)
    have x3 : asM m p C J3 := by rw [hJ3]; exact x2.ob (by omega)
    have x4 : asM m p C J4 := by rw [hJ4]; exact x3.ob (by omega)
    have x5 : asM m p C J5 := by rw [hJ5]; exact x4.ob (by omega)
    have x6 : asM m p C J6 := by rw [hJ6]; exact x5.ob (by omega)
    have x7 : asM m p C J7 := by rw [hJ7]; exact x6.ob (by omega)
    exact x7.us
  refine ⟨up2 J7 m 17 (Int32.ofNat (C 0 2 + 1)), ?_, ?_, fun hp => ⟨MJ, ⟨?_, ?_, ?_⟩, ⟨fun h => absurd h (Nat.succ_ne_zero _), fun _ => ⟨Nat.succ_pos _, ?_, fun h1 => ⟨?_, ?_⟩⟩⟩, fun j hj => ?_⟩⟩
  · unfold f206_b134
    rw [hd, of_s, wI_ok, Option.bind_some, ← hJ1, ixA_of ha, Option.bind_some, i6 J1 g1, Option.bind_some, wI_ok, Option.bind_some, r1 (m + 5) (by omega), m1, ← hJ2, Option.bind_some, i6 J2 g2, Option.bind_some, wI_ok, Option.bind_some, r2 (m + 6) (by omega), r1 (m + 6) (by omega), m2, ← hJ3, i6 J3 g3, Option.bind_some, wI_ok, Option.bind_some, r3 m (by omega), r2 m (by omega), q1, ← hJ4, i6 J4 g4, Option.bind_some, wI_ok, Option.bind_some, ← hJ5, i6 J5 g5, Option.bind_some, wI_ok, Option.bind_some, ← hJ6, i6 J6 g6, Option.bind_some, wI_ok, Option.bind_some, ← hJ7, wI_ok, Option.bind_some, q7, of_s]
    unfold f206_b250
    by_cases h : s0 = 0
    · rw [if_neg (fun hh => hh h), if_pos h]
    · rw [if_pos h, if_neg h]
  · intro d hd
    refine asG.trans ?_ (asG.up0 (by omega)) (Nat.le_refl _)
    intro b j h3 h4 h5'
    have z1 : J1 b j = J b j := by rw [hJ1]; exact up2_ne (by omega)
    have z2 : J2 b j = J1 b j := by rw [hJ2]; exact up2_ne (by omega)
    have z3 : J3 b j = J2 b j := by rw [hJ3]; exact up2_ne (by omega)
    have z4 : J4 b j = J3 b j := by rw [hJ4]; exact up2_ne (by omega)
    have z5 : J5 b j = J4 b j := by rw [hJ5]; exact up2_ne (by omega)
    have z6 : J6 b j = J5 b j := by rw [hJ6]; exact up2_ne (by omega)
    have z7 : J7 b j = J6 b j := by rw [hJ7]; exact up2_ne (by omega)
    rw [z7, z6, z5, z4, z3, z2, z1]
  · rw [up2_ne (by omega), r7 m (by omega), g6]; rfl
  · rw [up2_b (by omega), r7 _ (by omega), r6 _ (by omega), r5 _ (by omega), r4 _ (by omega), r3 _ (by omega), hJ2]
    exact up2_eq
  · rw [up2_b (by omega), r7 _ (by omega), r6 _ (by omega), r5 _ (by omega), r4 _ (by omega), hJ3]
    exact up2_eq
  · rw [up2_b (by omega), r7 _ (by omega), r6 _ (by omega), r5 _ (by omega), hJ4]
    exact up2_eq
  · rw [up2_b (by omega), r7 _ (by omega), hJ6]
    exact up2_eq.trans (hp h1).1
  · rw [up2_b (by omega), hJ7]
    exact up2_eq.trans (hp h1).2
  · rw [up2_b (by omega), r7 _ (by omega), r6 _ (by omega), hJ5]
    cases j with
    | zero => exact up2_eq
    | succ j =>
      rw [List.length_cons, up2_ne (by omega), r4 _ (by omega), r3 _ (by omega), r2 _ (by omega), r1 _ (by omega), show st.length + 1 - (j + 1) = st.length - j by omega]
      exact H.2.2.2 j (by rw [List.length_cons] at hj; omega)
end AQ
