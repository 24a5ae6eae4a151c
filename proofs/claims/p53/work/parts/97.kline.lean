/-! the class goes through a line: what its helpers do -/
section AL
variable {kad : Nat → Nat} {N : Nat} {Z : AZ} {S n i use p : Nat} {st : List Nat} {C : PN} {L I : AI}
theorem m1_ne {k : Nat} (h : k < 2147483648) : ¬ Int32.ofNat k = Int32.ofInt (-1) := fun hh => by
  have h1 := of_nn h
  rw [hh] at h1
  exact h1 (by decide)
theorem K7 {e : Nat} : f7 kad N Z (Int32.ofNat e) (Int32.ofNat i) I = some (Int32.ofNat (100 * e + i), I) := by
  unfold f7
  rw [show (100 : Int32) = Int32.ofNat 100 from rfl, eM, eA]
theorem K7_1 : f7 kad N Z 1 (Int32.ofNat i) I = some (Int32.ofNat (100 + i), I) := K7 (e := 1)
theorem K7_2 : f7 kad N Z 2 (Int32.ofNat i) I = some (Int32.ofNat (200 + i), I) := K7 (e := 2)
theorem K7_3 : f7 kad N Z 3 (Int32.ofNat i) I = some (Int32.ofNat (300 + i), I) := K7 (e := 3)
theorem K7_4 : f7 kad N Z 4 (Int32.ofNat i) I = some (Int32.ofNat (400 + i), I) := K7 (e := 4)
theorem K7_5 : f7 kad N Z 5 (Int32.ofNat i) I = some (Int32.ofNat (500 + i), I) := K7 (e := 5)
theorem kd_inj {l c j : Nat} (h : sh7 kad Z l) (hc : c < 9) (hj : j < 9) (he : kad c = kad j) : c = j := by
  have a := h.2.2 c hc
  rw [he, h.2.2 j hj] at a
  exact ((of_inj (by omega) (by omega)).mp a).symm
theorem dzo_of {c : Nat} (hc : c < 9) : dzo (Int32.ofNat c) = c := by
  unfold dzo
  rw [show (Int32.ofNat c).toNatClampNeg = c from nT_of (by omega), if_pos hc]
theorem or_ok {l c : Nat} (h : sh7 kad Z l) (hc : c < 9) : orI kad (kad c) = some (Int32.ofNat c) := by
  unfold orI
  cases hk : aKj kad (kad c) with
  | none =>
    have := List.find?_eq_none.mp hk c (List.mem_range.mpr hc)
    simp at this
  | some j =>
    obtain ⟨h1, h2⟩ := aKj_eq hk
    rw [kd_inj h h1 hc h2]
    rfl
theorem sw_ok {c : Nat} (hz : Z.1 (kad 9) = none) (hc : c < 9) : swI kad Z (Int32.ofNat c) = some (aSm c) := by
  have e : (Int32.ofNat c).toNatClampNeg = c := nT_of (by omega)
  unfold swI
  rw [e, if_pos ⟨hz, fun h => h.elim (of_nn (by omega)) (fun h2 => by omega)⟩]
theorem LVk (hv : LV L i) : ∃ c, c < 9 ∧ L 1 i = Int32.ofNat c := by
  rcases hv with h | h | h | h | h | h | h | h | h
  · exact ⟨0, by decide, h.1⟩
  · exact ⟨1, by decide, h.1⟩
  · exact ⟨2, by decide, h.1⟩
  · exact ⟨3, by decide, h.1⟩
  · exact ⟨4, by decide, h.1⟩
  · exact ⟨5, by decide, h.1⟩
  · exact ⟨6, by decide, h.1⟩
  · exact ⟨7, by decide, h⟩
  · exact ⟨8, by decide, h.1⟩
theorem kd_iff {l j : Nat} (h : sh7 kad Z l) (hv : LV L i) (hj : j < 9) : kad (dzo (L 1 i)) = kad j ↔ L 1 i = Int32.ofNat j := by
  obtain ⟨c, hc, e⟩ := LVk hv
  rw [e, dzo_of hc]
  constructor
  · intro hh; rw [kd_inj h hc hj hh]
  · intro hh; rw [(of_inj (by omega) (by omega)).mp hh]
/-- a line's number -/
theorem bad_nat {x : Int32} {a b : Nat} (h : ¬ bad x (Int32.ofNat a) (Int32.ofNat b)) (ha : a < 2147483648 := by decide) (hb : b < 2147483648 := by decide) : ∃ k, x = Int32.ofNat k ∧ nT x = k ∧ a ≤ k ∧ k ≤ b := by
  obtain ⟨e, e1, e2⟩ := in_nat h ha hb
  exact ⟨_, e, rfl, e1, e2⟩
theorem LV.nn (hv : LV L i) (h7 : ¬ L 1 i = 3) (h3 : ¬ L 1 i = 7) : L 2 i = Int32.ofNat (nT (L 2 i)) ∧ nT (L 2 i) ≤ 65535 ∧ (L 1 i = 0 → nT (L 2 i) ≤ 1) ∧ (L 1 i = 1 → nT (L 2 i) ≤ 19) ∧ (L 1 i = 4 → 1 ≤ nT (L 2 i) ∧ nT (L 2 i) ≤ 32) ∧ (L 1 i = 5 → nT (L 2 i) ≤ 1) ∧ (L 1 i = 6 → nT (L 2 i) ≤ 4) ∧ (L 1 i = 8 → nT (L 2 i) ≤ 4) := by
  rcases hv with h | h | h | h | h | h | h | h | h
  · obtain ⟨k, e, e1, e2, e3⟩ := bad_nat (a := 0) (b := 1) h.2
    rw [h.1, e1, e]
    exact ⟨rfl, by omega, fun _ => e3, fun hh => absurd hh (by decide), fun hh => absurd hh (by decide), fun hh => absurd hh (by decide), fun hh => absurd hh (by decide), fun hh => absurd hh (by decide)⟩
  · obtain ⟨k, e, e1, e2, e3⟩ := bad_nat (a := 0) (b := 19) h.2
    rw [h.1, e1, e]
    exact ⟨rfl, by omega, fun hh => absurd hh (by decide), fun _ => e3, fun hh => absurd hh (by decide), fun hh => absurd hh (by decide), fun hh => absurd hh (by decide), fun hh => absurd hh (by decide)⟩
  · obtain ⟨k, e, e1, e2, e3⟩ := bad_nat (a := 0) (b := 65535) h.2.1
    rw [h.1, e1, e]
    exact ⟨rfl, by omega, fun hh => absurd hh (by decide), fun hh => absurd hh (by decide), fun hh => absurd hh (by decide), fun hh => absurd hh (by decide), fun hh => absurd hh (by decide), fun hh => absurd hh (by decide)⟩
  · exact absurd h.1 h7
  · obtain ⟨k, e, e1, e2, e3⟩ := bad_nat (a := 1) (b := 32) h.2
    rw [h.1, e1, e]
    exact ⟨rfl, by omega, fun hh => absurd hh (by decide), fun hh => absurd hh (by decide), fun _ => ⟨e2, e3⟩, fun hh => absurd hh (by decide), fun hh => absurd hh (by decide), fun hh => absurd hh (by decide)⟩
  · obtain ⟨k, e, e1, e2, e3⟩ := bad_nat (a := 0) (b := 1) h.2.1
    rw [h.1, e1, e]
    exact ⟨rfl, by omega, fun hh => absurd hh (by decide), fun hh => absurd hh (by decide), fun hh => absurd hh (by decide), fun _ => e3, fun hh => absurd hh (by decide), fun hh => absurd hh (by decide)⟩
  · obtain ⟨k, e, e1, e2, e3⟩ := bad_nat (a := 0) (b := 4) h.2
    rw [h.1, e1, e]
    exact ⟨rfl, by omega, fun hh => absurd hh (by decide), fun hh => absurd hh (by decide), fun hh => absurd hh (by decide), fun hh => absurd hh (by decide), fun _ => e3, fun hh => absurd hh (by decide)⟩
  · exact absurd h h3
  · obtain ⟨k, e, e1, e2, e3⟩ := bad_nat (a := 0) (b := 4) h.2.1
    rw [h.1, e1, e]
    exact ⟨rfl, by omega, fun hh => absurd hh (by decide), fun hh => absurd hh (by decide), fun hh => absurd hh (by decide), fun hh => absurd hh (by decide), fun hh => absurd hh (by decide), fun _ => e3⟩
theorem LV.op (hv : LV L i) (h : L 1 i = 2 ∨ L 1 i = 3 ∨ L 1 i = 5 ∨ L 1 i = 8) : opOK (L 3 i) (L 4 i) ∧ (L 1 i = 8 → opOK (L 5 i) (L 6 i)) := by
  rcases hv with e | e | e | e | e | e | e | e | e
  · rw [e.1] at h; exact absurd h (by decide)
  · rw [e.1] at h; exact absurd h (by decide)
  · exact ⟨e.2.2, fun hh => absurd (e.1.symm.trans hh) (by decide)⟩
  · exact ⟨e.2, fun hh => absurd (e.1.symm.trans hh) (by decide)⟩
  · rw [e.1] at h; exact absurd h (by decide)
  · exact ⟨e.2.2, fun hh => absurd (e.1.symm.trans hh) (by decide)⟩
  · rw [e.1] at h; exact absurd h (by decide)
  · rw [e] at h; exact absurd h (by decide)
  · exact ⟨e.2.2.1, fun _ => e.2.2.2⟩
theorem wl_le (hv : LV L i) (h : L 1 i = 2 ∨ L 1 i = 3 ∨ L 1 i = 4) : 1 ≤ wl L i ∧ wl L i ≤ 32 := by
  unfold wl
  by_cases h2 : L 1 i = 2
  · rw [if_pos h2]; decide
  · rw [if_neg h2]
    by_cases h3 : L 1 i = 3
    · rw [if_pos h3]; decide
    · rw [if_neg h3]
      have h4 : L 1 i = 4 := by rcases h with h | h | h; exact absurd h h2; exact absurd h h3; exact h
      exact (hv.nn h3 (by rw [h4]; decide)).2.2.2.2.1 h4
/-! the helpers -/
theorem K11 {l : Nat} (h : sh7 kad Z l) (hv : LV L i) (H : I l 0 = L 1 i ∧ I l 1 = L 2 i) (hk : L 1 i = 2 ∨ L 1 i = 3 ∨ L 1 i = 4) : f11 kad N Z l I = some (Int32.ofNat (wl L i), I) := by
  unfold f11 f11_b32 wl
  rw [H.1, H.2]
  by_cases h2 : L 1 i = 2
  · rw [if_neg (fun hh => hh ((kd_iff h hv (j := 2) (by decide)).mpr h2)), if_pos h2]; rfl
  · rw [if_pos (fun hh => h2 ((kd_iff h hv (j := 2) (by decide)).mp hh)), if_neg h2]
    by_cases h3 : L 1 i = 3
    · rw [if_neg (fun hh => hh ((kd_iff h hv (j := 3) (by decide)).mpr h3)), if_pos h3]; rfl
    · rw [if_pos (fun hh => h3 ((kd_iff h hv (j := 3) (by decide)).mp hh)), if_neg h3]
      have h4 : L 1 i = 4 := by rcases hk with h | h | h; exact absurd h h2; exact absurd h h3; exact h
      rw [← (hv.nn h3 (by rw [h4]; decide)).1]
theorem K4 (H : asK S p st C I) : f4 kad N Z S I = some (Int32.ofNat (C 1 0 + C 1 1), I) := by
  unfold f4
  rw [show ixA 2 (0 : Int32) = some 0 from ixA_of (i := 0) (by decide), Option.bind_some, show ixA 2 (1 : Int32) = some 1 from ixA_of (i := 1) (by decide), Option.bind_some, H.2.1 0 (by decide), H.2.1 1 (by decide), eA]
theorem pr2 (H : asK S p st C I) (hp : C 0 0 ≤ 1) : ¬ I S 15 < 0 ∧ ¬ (2 : Int32) ≤ I S 15 ∧ ixA 2 (I S 15) = some (C 0 0) := by
  rw [H.1.2.2.1]
  refine ⟨of_nn (by omega), fun h => ?_, ixA_of (by omega)⟩
  have := (of_le (m := 2) (by decide) (by omega)).mp h
  omega
theorem sz2 (w : Nat) (hp : C 0 0 ≤ 1) : (un C 1 (C 0 0) (C 1 (C 0 0) + w)) 1 0 + (un C 1 (C 0 0) (C 1 (C 0 0) + w)) 1 1 = C 1 0 + C 1 1 + w := by
  have h : C 0 0 = 0 ∨ C 0 0 = 1 := by omega
  rcases h with h | h
  · rw [h, un_eq, un_ne (by omega)]; omega
  · rw [h, un_eq, un_ne (by omega)]; omega
theorem K12 {w : Nat} (H : asK S p st C I) (hp : C 0 0 ≤ 1) (hb : C 1 0 + C 1 1 ≤ 248) (hw : w ≤ 32) : f12 kad N Z S (Int32.ofNat w) I = some (if C 1 0 + C 1 1 + w ≤ 248 then 1 else 0, up2 I (S + 10) (C 0 0) (Int32.ofNat (C 1 (C 0 0) + w))) := by
  obtain ⟨q1, q2, q3⟩ := pr2 H hp
  unfold f12
  rw [if_neg q1, if_neg q2, q3, Option.bind_some, Option.bind_some, wI_ok, Option.bind_some, H.2.1 _ (by omega), eA]
  unfold f12_b32
  rw [K4 (H.sz (w := C 0 0) (v := C 1 (C 0 0) + w)), Option.bind_some, sz2 w hp]
  dsimp only
  unfold f12_b47
  by_cases h : C 1 0 + C 1 1 + w ≤ 248
  · rw [if_neg (fun hh => by have := (of_lt (m := 248) (by decide) (by omega)).mp hh; omega), if_pos (Or.inr rfl), if_pos h]
  · rw [if_pos (show (248 : Int32) < Int32.ofNat _ from (of_lt (m := 248) (by decide) (by omega)).mpr (by omega)), if_pos (Or.inl rfl), if_neg h]
theorem slN_lt {a u : Nat} (ha : a ≤ 19) (hu : u ≤ 300) : slN a u < 1220 := by
  unfold slN
  split <;> omega
theorem K13 {a u : Nat} (ha : a ≤ 19) : f13 kad N Z (Int32.ofNat a) (Int32.ofNat u) I = some (Int32.ofNat (slN a u), I) := by
  unfold f13 f13_b15 slN
  by_cases h : a < 16
  · rw [if_neg (fun hh => by have := (of_le (m := 16) (by decide) (by omega)).mp hh; omega), if_pos h]
  · rw [if_pos (show (16 : Int32) ≤ Int32.ofNat a from (of_le (m := 16) (by decide) (by omega)).mpr (by omega)), if_neg h, show (4 : Int32) = Int32.ofNat 4 from rfl, eM, eA]
theorem lab_m1 {s : Nat} (H : asK S p st C I) (hs : s < 1220) (hb : C 4 s ≤ 249) : I (S + 7) s = Int32.ofInt (-1) ↔ C 4 s = 0 := by
  obtain ⟨h1, h2⟩ := H.2.2.2.2.1 s hs
  constructor
  · intro h
    by_cases hz : C 4 s = 0
    · exact hz
    · rw [(h2 hz).1] at h
      exact absurd h (m1_ne (by omega))
  · exact h1
theorem K14 {a : Nat} (H : asK S p st C I) (hp : C 0 0 ≤ 1) (ha : a ≤ 19) (hu : use ≤ 300) (hb : C 4 (slN a use) ≤ 249) : f14 kad N Z S (Int32.ofNat a) (Int32.ofNat use) I = some (if C 4 (slN a use) = 0 then (1, up2 (up2 I (S + 6) (slN a use) (Int32.ofNat (C 0 0))) (S + 7) (slN a use) (Int32.ofNat (C 1 (C 0 0)))) else (0, I)) := by
  have hs := slN_lt ha hu
  obtain ⟨q1, q2, q3⟩ := pr2 H hp
  have e15 : ∀ v, up2 I (S + 6) (slN a use) v S 15 = I S 15 := fun v => congrFun (up2_b (by omega)) 15
  unfold f14 f14_b29 f14_b75
  rw [K13 ha, Option.bind_some]
  dsimp only
  rw [if_neg (of_nn (by omega)), if_neg (fun hh => by have := (of_le (m := 1220) (by decide) (by omega)).mp hh; omega), ixA_of hs, Option.bind_some]
  by_cases h : C 4 (slN a use) = 0
  · rw [if_pos ((lab_m1 H hs hb).mpr h), if_neg q1, if_neg q2, Option.bind_some, wI_ok, Option.bind_some, e15, q3, Option.bind_some, Option.bind_some, wI_ok, Option.bind_some, if_pos h, H.1.2.2.1, up2_b (by omega), H.2.1 _ (by omega)]
  · rw [if_neg (fun hh => h ((lab_m1 H hs hb).mp hh)), if_neg h]
theorem nxt_le : ∀ (f j : Nat), j ≤ nxt L f j ∧ nxt L f j ≤ j + f ∧ (nxt L f j < j + f → L 1 (nxt L f j) = 7 ∨ L 1 (nxt L f j) = 6) ∧ (∀ k, j ≤ k → k < nxt L f j → ¬ L 1 k = 6 ∧ ¬ L 1 k = 7) := by
  intro f
  induction f with
  | zero => intro j; unfold nxt; exact ⟨Nat.le_refl _, Nat.le_refl _, fun h => absurd h (by omega), fun k h1 h2 => absurd h1 (by omega)⟩
  | succ f ih =>
    intro j
    unfold nxt
    by_cases h : L 1 j = 7 ∨ L 1 j = 6
    · rw [if_pos h]
      exact ⟨Nat.le_refl _, by omega, fun _ => h, fun k h1 h2 => absurd h1 (by omega)⟩
    · rw [if_neg h]
      obtain ⟨a1, a2, a3, a4⟩ := ih (j + 1)
      refine ⟨by omega, by omega, fun hh => a3 (by omega), fun k h1 h2 => ?_⟩
      by_cases hk : k = j
      · rw [hk]; exact ⟨fun hh => h (Or.inr hh), fun hh => h (Or.inl hh)⟩
      · exact a4 k (by omega) h2
theorem nx_le (hi : i < n) : i < nx n L i ∧ nx n L i ≤ n ∧ (nx n L i < n → L 1 (nx n L i) = 7 ∨ L 1 (nx n L i) = 6) ∧ (∀ k, i + 1 ≤ k → k < nx n L i → ¬ L 1 k = 6 ∧ ¬ L 1 k = 7) := by
  obtain ⟨a1, a2, a3, a4⟩ := nxt_le (L := L) (n - (i + 1)) (i + 1)
  exact ⟨by unfold nx; omega, by unfold nx; omega, fun h => a3 (by unfold nx at h; omega), a4⟩
theorem K15_l {a : Nat} (hs : sh0 kad Z S) (H : CSr n S L I) (hn : n ≤ 100) (hv : ∀ j, j < n → LV L j) (ha : a < 5) : ∀ (f j F : Nat), j + f = n → f < F → f15_b29 kad N Z F S (Int32.ofNat a) (Int32.ofNat i) (Int32.ofNat j) I = some (if nxt L f j = n then (Int32.ofNat (400 + i), I) else if L 1 (nxt L f j) = 6 then (Int32.ofNat (400 + nxt L f j), I) else (0, up2 (up2 I (S + 3) a (Int32.ofNat i)) (S + 4) a (Int32.ofNat (nxt L f j)))) := by
  intro f
  induction f with
  | zero =>
    intro j F hj hF
    obtain ⟨F, rfl⟩ : ∃ G, F = G + 1 := ⟨F - 1, by omega⟩
    unfold f15_b29 f15_b98 nxt
    rw [H.1, if_pos ((of_le (by omega) (by omega)).mpr (by omega)), K7_4, Option.bind_some, if_pos (by omega)]
  | succ f ih =>
    intro j F hj hF
    obtain ⟨F, rfl⟩ : ∃ G, F = G + 1 := ⟨F - 1, by omega⟩
    have hjn : j < n := by omega
    have hk := sh0_f2 hs j (by omega)
    unfold f15_b29 nxt
    rw [H.1, if_neg (fun hh => by have := (of_le (by omega) (by omega)).mp hh; omega), if_neg (fun hh => by have := (of_le (m := 100) (by decide) (by omega)).mp hh; omega), ixA_of (by omega), Option.bind_some, (H.2 j hjn).1.1]
    by_cases h6 : L 1 j = 6
    · rw [if_neg (fun hh => hh ((kd_iff hk (hv j hjn) (j := 6) (by decide)).mpr h6)), if_pos (Or.inr h6), if_neg (by omega), if_pos h6, K7_4, Option.bind_some]
    · rw [if_pos (fun hh => h6 ((kd_iff hk (hv j hjn) (j := 6) (by decide)).mp hh))]
      by_cases h7 : L 1 j = 7
      · rw [if_neg (fun hh => hh ((kd_iff hk (hv j hjn) (j := 7) (by decide)).mpr h7)), if_pos (Or.inl h7), if_neg (by omega), if_neg h6, ixA_of ha, Option.bind_some, wI_ok, Option.bind_some, Option.bind_some, wI_ok, Option.bind_some]
      · rw [if_pos (fun hh => h7 ((kd_iff hk (hv j hjn) (j := 7) (by decide)).mp hh)), if_neg (show ¬ (L 1 j = 7 ∨ L 1 j = 6) from fun hh => hh.elim h7 h6), of_s]
        exact ih (j + 1) F (by omega) (by omega)
theorem mac_m1 {q : Nat} (H : asK S p st C I) (hq : q < 5) (hb : C 9 q ≤ 100) : I (S + 3) q = Int32.ofInt (-1) ↔ C 9 q = 0 := by
  obtain ⟨h1, h2⟩ := H.2.2.2.1 q hq
  constructor
  · intro h
    by_cases hz : C 9 q = 0
    · exact hz
    · rw [(h2 hz).1] at h
      exact absurd h (m1_ne (by omega))
  · exact h1
theorem K15 {a : Nat} (hN : 2000 ≤ N) (hs : sh0 kad Z S) (H : CSr n S L I) (hn : n ≤ 100) (hv : ∀ j, j < n → LV L j) (ha : a < 5) (hi : i < n) (K : asK S p st C I) (hb : C 9 a ≤ 100) : f15 kad N Z S (Int32.ofNat a) (Int32.ofNat i) I = some (if C 9 a = 0 then (if nx n L i = n then (Int32.ofNat (400 + i), I) else if L 1 (nx n L i) = 6 then (Int32.ofNat (400 + nx n L i), I) else (0, up2 (up2 I (S + 3) a (Int32.ofNat i)) (S + 4) a (Int32.ofNat (nx n L i)))) else (Int32.ofNat (300 + i), I)) := by
  unfold f15 f15_b19
  rw [if_neg (of_nn (by omega)), if_neg (fun hh => by have := (of_le (m := 5) (by decide) (by omega)).mp hh; omega), ixA_of ha, Option.bind_some]
  by_cases h : C 9 a = 0
  · rw [if_pos ((mac_m1 K ha hb).mpr h), if_pos h, of_s]
    exact K15_l hs H hn hv ha (n - (i + 1)) (i + 1) N (by omega) (by omega)
  · rw [if_neg (fun hh => h ((mac_m1 K ha hb).mp hh)), if_neg h, K7_3, Option.bind_some]
theorem K16 {a : Nat} (ha : a < 5) (K : asK S p st C I) (hb : C 9 a ≤ 100) : f16 kad N Z S (Int32.ofNat a) I = some (if C 9 a = 0 ∨ a ∈ st then 0 else 1, I) := by
  unfold f16 f16_b32 f16_b33
  rw [if_neg (of_nn (by omega)), if_neg (fun hh => by have := (of_le (m := 5) (by decide) (by omega)).mp hh; omega), ixA_of ha, Option.bind_some]
  by_cases h : C 9 a = 0
  · rw [if_pos ((mac_m1 K ha hb).mpr h), if_pos (Or.inl h), if_pos (Or.inl rfl)]
  · rw [if_neg (fun hh => h ((mac_m1 K ha hb).mp hh)), Option.bind_some, K.2.2.1 a ha]
    by_cases h2 : a ∈ st
    · rw [if_pos h2, if_pos z10, if_pos (Or.inr h2), if_pos (Or.inl rfl)]
    · rw [if_neg h2, if_neg z00, if_pos (show (1 : Int32) = 0 ∨ (1 : Int32) = 1 from Or.inr rfl), if_neg (show ¬ (C 9 a = 0 ∨ a ∈ st) from fun hh => hh.elim h h2)]
end AL
