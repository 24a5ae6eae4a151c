/-! whether a disk is whole: the model -/
section IM
variable {kad : Nat → Nat} {N : Nat} {Z : AZ} {m g : Nat} {I : AI} {X : AI} {D : Nat → Int32} {S : Nat → Bool} {v : Int32}
theorem s255_b : ∀ b : Fin 32, dB 255 b.1 = decide (b.1 < 8) := by decide +kernel
theorem mS_255 : mS 255 S255 := fun b hb => s255_b ⟨b, hb⟩
theorem mS.orb {b : Nat} (h : mS v S) (hb : b < 32) : mS (v ||| ((1 : Int32) <<< (Int32.ofNat b &&& 31))) (sA S b) := by
  intro k hk
  have e := one_b ⟨b, hb⟩ ⟨k, hk⟩
  dsimp only at e
  rw [dB_or, h k hk, e]
  rfl
theorem m65535 : ∀ k : Fin 32, dB 65535 k.1 = decide (k.1 < 16) := by decide +kernel
theorem ushr_b (v : Int32) (k : Nat) : dB ((v.toUInt32 >>> ((16 : Int32).toUInt32 &&& Int32.toUInt32 31)).toInt32) k = dB v (16 + k) := by
  have e : ((v.toUInt32 >>> ((16 : Int32).toUInt32 &&& Int32.toUInt32 31)).toInt32).toBitVec = v.toBitVec >>> (16 : Nat) := by
    show (v.toUInt32 >>> ((16 : Int32).toUInt32 &&& Int32.toUInt32 31)).toBitVec = _
    rw [UInt32.toBitVec_shiftRight, show ((16 : Int32).toUInt32 &&& Int32.toUInt32 31).toBitVec % 32 = 16#32 by decide, BitVec.ushiftRight_eq']
    rfl
  unfold dB
  rw [e, BitVec.getLsbD_ushiftRight]
theorem map_m (h0 : wd (D 32)) (h1 : wd (D 33)) (hv : mS v S) : wAll D S ↔ (D 32 = (v &&& 65535) ∧ D 33 = ((v.toUInt32 >>> ((16 : Int32).toUInt32 &&& Int32.toUInt32 31)).toInt32)) := by
  constructor
  · intro h
    constructor
    · apply dB_ext
      intro k hk
      have e := m65535 ⟨k, hk⟩
      dsimp only at e
      rw [dB_and, e]
      by_cases hk2 : k < 16
      · rw [decide_eq_true hk2, Bool.and_true, hv k hk, h k hk, uB_16 k hk, if_pos hk2]
      · rw [decide_eq_false hk2, Bool.and_false, wd_hi h0 (by omega)]
    · apply dB_ext
      intro k hk
      rw [ushr_b]
      by_cases hk2 : k < 16
      · rw [hv (16 + k) (by omega), h (16 + k) (by omega), uB_16 (16 + k) (by omega), if_neg (by omega), show 16 + k - 16 = k by omega]
      · rw [wd_hi h1 (by omega)]
        unfold dB
        rw [BitVec.getLsbD_of_ge _ _ (by omega)]
  · rintro ⟨e0, e1⟩ b hb
    rw [uB_16 b hb]
    by_cases hb2 : b < 16
    · have e := m65535 ⟨b, hb⟩
      dsimp only at e
      rw [if_pos hb2, e0, dB_and, e, decide_eq_true hb2, Bool.and_true, hv b hb]
    · rw [if_neg hb2, e1, ushr_b, show 16 + (b - 16) = b by omega, hv b hb]
theorem M186_in {x : Int32} (hw : wd x) (h8 : 8 ≤ nT x) (h32 : nT x < 32) : f186 kad N Z x 8 31 I = some (1, I) := by
  have e := of_nT (wd_nn hw)
  rw [M186, if_neg]
  rintro (h | h)
  · rw [← e] at h
    exact absurd ((of_lt (n := 8) (by omega) (by decide)).mp h) (by omega)
  · rw [← e] at h
    exact absurd ((of_lt (m := 31) (by decide) (by omega)).mp h) (by omega)
theorem M293 (hN : 2000 ≤ N) (hz : Z.1 (m + 24) = some (100, 256)) (hD : ∀ k, k < 256 → I (m + 24) k = D k) (hw : LW D) {t : Nat} (ht : t < 6) : ∃ v : Int32, f293 kad N Z m (Int32.ofNat t) I = some (v, I) ∧ (isE D t → v = 1) ∧ (¬ isE D t → v = 0) := by
  obtain ⟨l0, l1, l2, l3, l4⟩ := hw.2 t ht
  have w1 := hw.1 (40 + 4 * t + 1) (by omega)
  have w2 := hw.1 (40 + 4 * t + 2) (by omega)
  have w3 := hw.1 (40 + 4 * t + 3) (by omega)
  unfold f293
  rw [M235, Option.bind_some]
  dsimp only
  rw [show Int32.ofNat (40 + 4 * t) + (1 : Int32) = Int32.ofNat (40 + 4 * t + 1) from eA _ 1, ixA_of (by omega), Option.bind_some, M235, Option.bind_some]
  dsimp only
  rw [show Int32.ofNat (40 + 4 * t) + (2 : Int32) = Int32.ofNat (40 + 4 * t + 2) from eA _ 2, ixA_of (by omega), Option.bind_some, M235, Option.bind_some]
  dsimp only
  rw [show Int32.ofNat (40 + 4 * t) + (3 : Int32) = Int32.ofNat (40 + 4 * t + 3) from eA _ 3, ixA_of (by omega), Option.bind_some, M235, Option.bind_some]
  dsimp only
  rw [ixA_of (by omega), Option.bind_some]
  simp only [hD (40 + 4 * t) (by omega), hD (40 + 4 * t + 1) (by omega), hD (40 + 4 * t + 2) (by omega), hD (40 + 4 * t + 3) (by omega)]
  by_cases hn : D (40 + 4 * t) = 0
  · obtain ⟨z1, z2, z3⟩ := l0 hn
    rw [if_neg (fun h => h hn), if_neg (fun h => h z1), if_neg (fun h => h z2), if_neg (fun h => h z3)]
    unfold f293_b67
    rw [if_pos (Or.inr rfl)]
    exact ⟨1, rfl, fun _ => rfl, fun h => absurd (Or.inl hn) h⟩
  · have c0 : (D (40 + 4 * t + 2) ≤ 0) ↔ D (40 + 4 * t + 2) = 0 := by
      rw [wd_z w2, show (0 : Int32) = Int32.ofNat 0 from rfl, wd_le w2 (by decide)]
      omega
    have c0' : (D (40 + 4 * t + 3) ≤ 0) ↔ D (40 + 4 * t + 3) = 0 := by
      rw [wd_z w3, show (0 : Int32) = Int32.ofNat 0 from rfl, wd_le w3 (by decide)]
      omega
    have c1 : (D (40 + 4 * t + 1) ≤ 0) ↔ D (40 + 4 * t + 2) = 0 := by
      rw [l2, show (0 : Int32) = Int32.ofNat 0 from rfl, wd_le w1 (by decide)]
      omega
    have c2 : (D (40 + 4 * t + 1) ≤ 8) ↔ D (40 + 4 * t + 3) = 0 := by
      rw [l3, show (8 : Int32) = Int32.ofNat 8 from rfl, wd_le w1 (by decide)]
    have last : ∃ v : Int32, f293_b163 kad N Z m (Int32.ofNat t) I = some (v, I) ∧ (isE D t → v = 1) ∧ (¬ isE D t → v = 0) := by
      unfold f293_b163
      rw [M235, Option.bind_some]
      dsimp only
      rw [ixA_of (by omega), Option.bind_some, hD _ (by omega), M236 hN hz hD, Option.bind_some]
      dsimp only
      by_cases hf : sFind D (D (40 + 4 * t)) 7 0 = t
      · rw [if_neg (fun h => h ((find_t ht).mpr hf))]
        unfold f293_b188
        rw [if_pos (Or.inr rfl)]
        exact ⟨1, rfl, fun _ => rfl, fun h => absurd (Or.inr hf) h⟩
      · rw [if_pos (fun h => hf ((find_t ht).mp h))]
        unfold f293_b187 f293_b188
        rw [if_pos (Or.inl rfl)]
        exact ⟨0, rfl, fun h => h.elim (fun h => absurd h hn) (fun h => absurd h hf), fun _ => rfl⟩
    have l146 : f293_b146 kad N Z m (Int32.ofNat t) (D (40 + 4 * t + 3)) I = f293_b163 kad N Z m (Int32.ofNat t) I := by
      unfold f293_b146
      by_cases h3 : D (40 + 4 * t + 3) = 0
      · rw [if_pos h3]
      · obtain ⟨a, b⟩ := l4 3 (Or.inr rfl) h3
        rw [if_neg h3, M186_in w3 a b, Option.bind_some, if_neg z10]
    have l124 : f293_b124 kad N Z m (Int32.ofNat t) (D (40 + 4 * t + 2)) (D (40 + 4 * t + 3)) 1 I = f293_b163 kad N Z m (Int32.ofNat t) I := by
      unfold f293_b124
      rw [if_neg z10]
      by_cases h2 : D (40 + 4 * t + 2) = 0
      · rw [if_pos h2, l146]
      · obtain ⟨a, b⟩ := l4 2 (Or.inl rfl) h2
        rw [if_neg h2, M186_in w2 a b, Option.bind_some, if_neg z10]
        exact l146
    rw [if_pos hn, if_neg (show ¬ (16 : Int32) < D (40 + 4 * t + 1) from fun h => absurd ((wd_le (n := 16) w1 (by decide)).mpr l1) (Int32.not_le.mpr h))]
    unfold f293_b83 f293_b92 f293_b105 f293_b116
    by_cases h2 : D (40 + 4 * t + 2) = 0
    · rw [if_pos (c0.mpr h2), if_pos (c1.mpr h2), if_neg z00]
      by_cases h3 : D (40 + 4 * t + 3) = 0
      · rw [if_pos (c0'.mpr h3), if_pos (c2.mpr h3), if_neg z00, l124]
        exact last
      · rw [if_neg (fun h => h3 (c0'.mp h)), if_neg (fun h => h3 (c2.mp h)), if_neg (show ¬ ¬ (1 : Int32) = 1 by decide), l124]
        exact last
    · rw [if_neg (fun h => h2 (c0.mp h)), if_neg (fun h => h2 (c1.mp h)), if_neg (show ¬ ¬ (1 : Int32) = 1 by decide)]
      by_cases h3 : D (40 + 4 * t + 3) = 0
      · rw [if_pos (c0'.mpr h3), if_pos (c2.mpr h3), if_neg z00, l124]
        exact last
      · rw [if_neg (fun h => h3 (c0'.mp h)), if_neg (fun h => h3 (c2.mp h)), if_neg (show ¬ ¬ (1 : Int32) = 1 by decide), l124]
        exact last
theorem M294_0 {F : Nat} {i3 : Int32} : f294_b21 kad N Z (F + 1) m v 0 i3 I = some (0, I) := by
  unfold f294_b21 f294_b112 f294_b148 f294_b149
  by_cases h : (6 : Int32) ≤ i3
  · rw [if_pos h, if_pos rfl, if_pos (Or.inl rfl)]
  · rw [if_neg h, if_pos rfl, if_pos rfl, if_pos (Or.inl rfl)]
theorem M294_w (hD : ∀ k, k < 256 → I (m + 24) k = D k) (hw : LW D) {t i F : Nat} (ht : t < 6) (hi : i = 2 ∨ i = 3) {k21 : Nat → Int32 → Int32 → Int32 → AI → Option (Int32 × AI)} (hv : mS v S) : (wCl D t i S → ∃ v', f294_b40 kad N Z k21 (F + 1) m v 1 (Int32.ofNat t) (Int32.ofNat i) I = f294_b40 kad N Z k21 F m v' 0 (Int32.ofNat t) (Int32.ofNat (i + 1)) I) ∧ (¬ wCl D t i S → ∃ v', mS v' (wS D t i S) ∧ f294_b40 kad N Z k21 (F + 1) m v 1 (Int32.ofNat t) (Int32.ofNat i) I = f294_b40 kad N Z k21 F m v' 1 (Int32.ofNat t) (Int32.ofNat (i + 1)) I) := by
  obtain ⟨-, -, -, -, l4⟩ := hw.2 t ht
  have wi := hw.1 (40 + 4 * t + i) (by omega)
  have e := of_nT (wd_nn wi)
  have h4 : ¬ (4 : Int32) ≤ Int32.ofNat i := fun h => absurd ((of_le (m := 4) (by decide) (by omega)).mp h) (by omega)
  rw [f294_b40, if_neg h4, if_neg z10, M235, Option.bind_some]
  dsimp only
  rw [eA, ixA_of (by omega), Option.bind_some]
  unfold f294_b78 f294_b83 f294_b98
  have hDi := hD (40 + 4 * t + i) (by omega)
  simp only [hDi]
  by_cases hz : D (40 + 4 * t + i) = 0
  · refine ⟨fun h => absurd hz h.1, fun _ => ⟨v ||| 0, ?_, ?_⟩⟩
    · rw [wS_z hz]
      have : v ||| (0 : Int32) = v := by
        apply Int32.toBitVec_inj.mp
        rw [Int32.toBitVec_or]
        show v.toBitVec ||| 0#32 = _
        simp
      rw [this]; exact hv
    · rw [if_pos hz, if_neg (fun h => h hz), of_s]
  · obtain ⟨b1, b2⟩ := l4 i hi hz
    have hb := bit32 v b2
    rw [e, hv _ b2] at hb
    rw [if_neg hz, hb]
    by_cases hs : S (nT (D (40 + 4 * t + i))) = true
    · refine ⟨fun _ => ⟨v ||| ((1 : Int32) <<< (D (40 + 4 * t + i) &&& 31)), ?_⟩, fun h => absurd ⟨hz, hs⟩ h⟩
      rw [if_pos hs, if_pos z10, if_pos hz, of_s]
    · refine ⟨fun h => absurd h.2 hs, fun _ => ⟨v ||| ((1 : Int32) <<< (Int32.ofNat (nT (D (40 + 4 * t + i))) &&& 31)), ?_, ?_⟩⟩
      · rw [wS_n hz]
        exact hv.orb b2
      · rw [if_neg hs, if_neg z00, if_pos hz, of_s, e]
theorem M294_l (hN : 2000 ≤ N) (hz : Z.1 (m + 24) = some (100, 256)) (hD : ∀ k, k < 256 → I (m + 24) k = D k) (hw : LW D) : ∀ (n t F : Nat) (v : Int32) (S : Nat → Bool), t + n = 6 → n + 1 < F → mS v S → ∃ r : Int32, f294_b21 kad N Z F m v 1 (Int32.ofNat t) I = some (r, I) ∧ (wGo D n t S → r = 1) ∧ (¬ wGo D n t S → r = 0) := by
  intro n
  induction n with
  | zero =>
    intro t F v S ht hF hv
    obtain ⟨F, rfl⟩ : ∃ G, F = G + 1 := ⟨F - 1, by omega⟩
    unfold f294_b21 wGo
    rw [if_pos (show (6 : Int32) ≤ Int32.ofNat t from (of_le (m := 6) (by decide) (by omega)).mpr (by omega))]
    unfold f294_b112 f294_b148 f294_b149
    rw [if_neg z10, show ixA 256 (32 : Int32) = some 32 from ixA_of (n := 256) (i := 32) (by decide), Option.bind_some, show ixA 256 (33 : Int32) = some 33 from ixA_of (n := 256) (i := 33) (by decide), Option.bind_some]
    simp only [hD 32 (by decide), hD 33 (by decide)]
    have he := map_m (hw.1 32 (by decide)) (hw.1 33 (by decide)) hv
    by_cases h : wAll D S
    · obtain ⟨h1, h2⟩ := he.mp h
      rw [if_neg (fun hh => hh h1), if_neg (fun hh => hh h2), if_pos (Or.inr True.intro)]
      exact ⟨1, rfl, fun _ => rfl, fun hh => absurd h hh⟩
    · refine ⟨0, ?_, fun hh => absurd hh h, fun _ => rfl⟩
      by_cases h1 : D 32 = (v &&& 65535)
      · rw [if_neg (fun hh => hh h1), if_pos (fun h2 => h (he.mpr ⟨h1, h2⟩)), if_pos (Or.inl True.intro)]
      · rw [if_pos h1, if_pos (Or.inl True.intro)]
  | succ n ih =>
    intro t F v S ht hF hv
    obtain ⟨F, rfl⟩ : ∃ G, F = G + 2 := ⟨F - 2, by omega⟩
    obtain ⟨M, rfl⟩ : ∃ G, N = G + 3 := ⟨N - 3, by omega⟩
    obtain ⟨r, v1, v2, v3⟩ := M293 (kad := kad) hN hz hD hw (t := t) (by omega)
    unfold f294_b21 wGo
    rw [if_neg (show ¬ (6 : Int32) ≤ Int32.ofNat t from fun h => absurd ((of_le (m := 6) (by decide) (by omega)).mp h) (by omega)), if_neg z10, v1, Option.bind_some]
    dsimp only
    have fail : ∀ (G : Nat) (x i4 : Int32), f294_b40 kad (M + 3) Z (fun p0 p1 p2 p3 I => f294_b21 kad (M + 3) Z (F + 1) p0 p1 p2 p3 I) (G + 1) m x 0 (Int32.ofNat t) i4 I = some (0, I) := fun G x i4 => by
      unfold f294_b40 f294_b106
      by_cases h : (4 : Int32) ≤ i4
      · rw [if_pos h]; exact M294_0
      · rw [if_neg h, if_pos rfl]; exact M294_0
    by_cases hE : isE D t
    · rw [v2 hE]
      obtain ⟨w1, w2⟩ := M294_w (kad := kad) (N := M + 3) (Z := Z) (F := M + 2) (k21 := fun p0 p1 p2 p3 I => f294_b21 kad (M + 3) Z (F + 1) p0 p1 p2 p3 I) hD hw (t := t) (i := 2) (by omega) (Or.inl rfl) hv
      rw [show (2 : Int32) = Int32.ofNat 2 from rfl]
      by_cases hB : wCl D t 2 S
      · obtain ⟨v', e'⟩ := w1 hB
        rw [e', fail]
        exact ⟨0, rfl, fun h => absurd hB h.2.1.1, fun _ => rfl⟩
      · obtain ⟨v', hv', e'⟩ := w2 hB
        obtain ⟨x1, x2⟩ := M294_w (kad := kad) (N := M + 3) (Z := Z) (F := M + 1) (k21 := fun p0 p1 p2 p3 I => f294_b21 kad (M + 3) Z (F + 1) p0 p1 p2 p3 I) hD hw (t := t) (i := 3) (by omega) (Or.inr rfl) hv'
        rw [e', show 2 + 1 = 3 from rfl]
        by_cases hB2 : wCl D t 3 (wS D t 2 S)
        · obtain ⟨u, e2⟩ := x1 hB2
          rw [e2, fail]
          exact ⟨0, rfl, fun h => absurd hB2 h.2.1.2, fun _ => rfl⟩
        · obtain ⟨v2', hv2, e2⟩ := x2 hB2
          rw [e2, f294_b40, if_pos (by decide)]
          unfold f294_b106
          rw [of_s]
          obtain ⟨u, u1, u2, u3⟩ := ih (t + 1) (F + 1) v2' _ (by omega) (by omega) hv2
          exact ⟨u, u1, fun h => u2 h.2.2, fun h => u3 (fun hh => h ⟨hE, ⟨hB, hB2⟩, hh⟩)⟩
    · rw [v3 hE, fail]
      exact ⟨0, rfl, fun h => absurd h.1 hE, fun _ => rfl⟩
theorem M294 (hN : 2000 ≤ N) (hz : Z.1 (m + 24) = some (100, 256)) (hD : ∀ k, k < 256 → I (m + 24) k = D k) (hw : D 0 = 0 → LW D) : ∃ r : Int32, f294 kad N Z m I = some (r, I) ∧ (isWh D → r = 1) ∧ (¬ isWh D → r = 0) := by
  unfold f294 f294_b18
  rw [show ixA 256 (0 : Int32) = some 0 from ixA_of (n := 256) (i := 0) (by decide), Option.bind_some]
  simp only [hD 0 (by decide)]
  by_cases h0 : D 0 = 0
  · rw [if_neg (fun h => h h0)]
    obtain ⟨r, v1, v2, v3⟩ := M294_l (kad := kad) hN hz hD (hw h0) 6 0 N 255 S255 rfl (by omega) mS_255
    exact ⟨r, v1, fun h => v2 h.2, fun h => v3 (fun hh => h ⟨h0, hh⟩)⟩
  · rw [if_pos h0]
    obtain ⟨F, rfl⟩ : ∃ G, N = G + 1 := ⟨N - 1, by omega⟩
    exact ⟨0, M294_0, fun h => absurd h.1 h0, fun _ => rfl⟩
/-- the disk's words, where nothing is committed -/
theorem FF.lw (h : FF X) : X 9 0 = 0 → LW (X 9) := by
  intro h0
  rcases h with h | ⟨n, dd, h⟩
  · exact h.2.2.1
  · obtain ⟨⟨⟨⟨w1, w2, w3⟩, -⟩, -⟩, -, -, -, h5, h6⟩ := h
    by_cases hd : dd ≤ n
    · exact (h5 hd).2.1
    · exact (h6 (by omega)).1
theorem K174 (hN : 2000 ≤ N) (H : RM (g + 114) I X) (hw : X 9 0 = 0 → LW (X 9)) : ∃ r : Int32, f174 kad N Z g I = some (r, I) ∧ (isWh (X 9) → r = 1) ∧ (¬ isWh (X 9) → r = 0) := by
  obtain ⟨r, r1, r2, r3⟩ := K58 (kad := kad) (Z := Z) (d := g + 122) (I := I) (D := X 9) hN (fun k hk => H 9 k (by decide) hk) hw
  have hr : r = 0 ∨ r = 1 := by
    by_cases h : isWh (X 9)
    · exact Or.inr (r2 h)
    · exact Or.inl (r3 h)
  refine ⟨r, ?_, r2, r3⟩
  unfold f174
  rw [r1, Option.bind_some, if_pos hr]
theorem M295 (hN : 2000 ≤ N) (hz : Z.1 (m + 24) = some (100, 256)) (H : ML m I X) (hw : X 9 0 = 0 → LW (X 9)) : ∃ r : Int32, f295 kad N Z m I = some (r, up2 I m 0 0) ∧ (isWh (X 9) → r = 1) ∧ (¬ isWh (X 9) → r = 0) := by
  obtain ⟨r, r1, r2, r3⟩ := M294 (kad := kad) (I := up2 I m 0 0) (D := X 9) hN hz (fun k hk => by rw [up2_b (by omega)]; exact H.1 9 k (by unfold mC; omega) hk) hw
  have hr : r = 0 ∨ r = 1 := by
    by_cases h : isWh (X 9)
    · exact Or.inr (r2 h)
    · exact Or.inl (r3 h)
  refine ⟨r, ?_, r2, r3⟩
  unfold f295
  rw [wI_ok, Option.bind_some, r1, Option.bind_some, if_pos hr]
end IM
