/-! the made cells as numbers -/
/-! .. of one object; then of two, one behind the other -/
def LL (kad : Nat → Nat) (g : Nat) : List AEnt := Lc10 kad g
def zdec (kad : Nat → Nat) (g q k : Nat) (x : Int32) : Nat := if q = g + 114 ∧ k = 7 then (if 1 ≤ x.toNatClampNeg ∧ x.toNatClampNeg ≤ 200 then g + (182 + 9 * (x.toNatClampNeg - 1)) else g + 114 + 17) else if q = g + 143 ∧ k = 7 then (if x = 1 then g + 169 else g + 143 + 17) else match (LL kad g)[q - g]? with
  | some e => if e.1 = 7 ∧ k = 0 then kad (dzo x) else match e.2.2 k with
    | .ref r => r
    | _ => 0
  | none => 0
def zenc (kad : Nat → Nat) (g q _k r : Nat) : Int32 := if q = g + 114 then Int32.ofNat ((r - (g + 182)) / 9 + 1) else if q = g + 143 then 1 else match aKj kad r with
  | some i => Int32.ofNat i
  | none => 0
def zc (kad : Nat → Nat) (g : Nat) : AZ := (fun q => if q < g then none else match (LL kad g)[q - g]? with
  | some e => some (e.1, e.2.1)
  | none => none, (zdec kad g, zenc kad g))
def xv (e : AEnt) (k : Nat) : Int32 := match e.2.2 k with
  | .int x => x
  | _ => 0
def xc (kad : Nat → Nat) (g : Nat) : AI := fun q k => if q < g then 0 else match (LL kad g)[q - g]? with
  | some e => xv e k
  | none => 0
section CONV
variable {kad : Nat → Nat} {g q j k r N : Nat} {e : AEnt}
theorem LL_len : (LL kad g).length = 1997 := Lc10_len
theorem LL_lo (h : j < 1997) : (LL kad g)[j]? = (Lc10 kad g)[j]? := rfl
theorem LL_G : ∀ e ∈ LL kad g, eG kad e := Lc10_G
theorem LL_114 : ∃ f, (LL kad g)[114]? = some (8, (8, f)) ∧ f 7 = .ref (g + 114 + 17) := by
  refine ⟨_, ((LL_lo (by decide)).trans ((lc_lo (by decide) (by decide) (by decide)).trans (lr_8 (j := 0) (by decide)))).trans rfl, rfl⟩
theorem LL_143 : ∃ f, (LL kad g)[143]? = some (8, (8, f)) ∧ f 7 = .ref (g + 143 + 17) := by
  refine ⟨_, ((LL_lo (by decide)).trans ((lc_lo (by decide) (by decide) (by decide)).trans (lr_82 (j := 0) (by decide)))).trans rfl, rfl⟩
theorem zc_z (h : (LL kad g)[j]? = some e) : (zc kad g).1 (g + j) = some (e.1, e.2.1) := by
  simp only [zc, if_neg (show ¬ g + j < g by omega), Nat.add_sub_cancel_left, h]
theorem zc_none (h : q < g) : (zc kad g).1 q = none := by
  simp only [zc, if_pos h]
theorem zdec_at (h : (LL kad g)[j]? = some e) (h1 : ¬ (j = 114 ∧ k = 7)) (h2 : ¬ (j = 143 ∧ k = 7)) (h7 : ¬ (e.1 = 7 ∧ k = 0)) (hr : e.2.2 k = .ref r) (x : Int32) : zdec kad g (g + j) k x = r := by
  unfold zdec
  rw [if_neg (fun hh => h1 ⟨by omega, hh.2⟩), if_neg (fun hh => h2 ⟨by omega, hh.2⟩), Nat.add_sub_cancel_left, h]
  dsimp only
  rw [if_neg h7, hr]
theorem zdec_7 (h : (LL kad g)[j]? = some e) (h7 : e.1 = 7) (x : Int32) : zdec kad g (g + j) 0 x = kad (dzo x) := by
  unfold zdec
  rw [if_neg (fun hh => absurd hh.2 (by decide)), if_neg (fun hh => absurd hh.2 (by decide)), Nat.add_sub_cancel_left, h]
  dsimp only
  rw [if_pos ⟨h7, rfl⟩]
theorem xc_at (h : (LL kad g)[j]? = some e) : xc kad g (g + j) k = xv e k := by
  simp only [xc, if_neg (show ¬ g + j < g by omega), Nat.add_sub_cancel_left, h]
theorem aKj_inj (hinj : ∀ i j, i < 9 → j < 9 → kad i = kad j → i = j) {i : Nat} (hi : i < 9) : aKj kad (kad i) = some i := by
  cases hf : aKj kad (kad i) with
  | none =>
    exfalso
    have := List.find?_eq_none.mp hf i (List.mem_range.mpr hi)
    simp at this
  | some j =>
    obtain ⟨h1, h2⟩ := aKj_eq hf
    rw [hinj j i h1 hi h2]
theorem k8 (h : (LL kad g)[j]? = some e) (h8 : ¬ e.1 = 8) : ¬ j = 114 ∧ ¬ j = 143 := by
  refine ⟨fun hj => ?_, fun hj => ?_⟩
  · subst hj
    obtain ⟨f, hf, -⟩ := LL_114 (kad := kad) (g := g)
    rw [hf] at h
    cases h
    exact h8 rfl
  · subst hj
    obtain ⟨f, hf, -⟩ := LL_143 (kad := kad) (g := g)
    rw [hf] at h
    cases h
    exact h8 rfl
theorem hb_zc (hinj : ∀ i j, i < 9 → j < 9 → kad i = kad j → i = j) : HB kad (zc kad g) g (LL kad g) := by
  intro j e hj
  refine ⟨zc_z hj, fun h7 h8 k r hk x => ?_, fun h8 k r h7 hk x => ?_, fun h7 => ⟨fun x => zdec_7 hj h7 x, fun i hi => ?_⟩⟩
  · obtain ⟨g1, g2⟩ := k8 hj h8
    exact zdec_at hj (fun hh => g1 hh.1) (fun hh => g2 hh.1) (fun hh => h7 hh.1) hk x
  · exact zdec_at hj (fun hh => h7 hh.2) (fun hh => h7 hh.2) (fun hh => by rw [h8] at hh; exact absurd hh.1 (by decide)) hk x
  · obtain ⟨g1, g2⟩ := k8 hj (by rw [h7]; decide)
    show zenc kad g (g + j) 0 (kad i) = _
    unfold zenc
    rw [if_neg (by omega), if_neg (by omega), aKj_inj hinj hi]
/-- an object's shape, out of its cells -/
theorem envG_of {Z : AZ} (hB10 : HB kad Z g (LL kad g)) (hd : ∀ q, (q = g + 114 ∨ q = g + 143) → ∀ x, Z.2.1 q 7 x = zdec kad g q 7 x) (he : ∀ q, (q = g + 114 ∨ q = g + 143) → ∀ r, Z.2.2 q 7 r = zenc kad g q 7 r) (h9 : Z.1 (kad 9) = none) (hN : 2000 ≤ N) : envG kad N Z g := by
  refine ⟨hN, sh10_of hB10 (fun x => ?_) (fun x => ?_), h9, fun j hj => ?_, ?_⟩
  · rw [hd _ (Or.inl rfl)]
    unfold zdec
    rw [if_pos ⟨rfl, rfl⟩]
    split
    · exact hb_k hB10 (by omega)
    · exact sh8_own (hb_m1 hB10)
  · rw [hd _ (Or.inr rfl)]
    unfold zdec
    rw [if_neg (by omega), if_pos ⟨rfl, rfl⟩]
    split
    · exact hb_sk hB10
    · exact sh8_own (hb_m2 hB10)
  · rw [hd _ (Or.inl rfl), he _ (Or.inl rfl)]
    have e1 : zenc kad g (g + 114) 7 (g + (182 + 9 * j)) = nI (j + 1) := by
      unfold zenc
      rw [if_pos rfl, show (g + (182 + 9 * j) - (g + 182)) / 9 + 1 = j + 1 by omega]
      rfl
    rw [e1]
    unfold zdec
    rw [if_pos ⟨rfl, rfl⟩, nI_clamp (by omega), if_pos (by omega), Nat.add_sub_cancel]
  · rw [hd _ (Or.inr rfl), he _ (Or.inr rfl)]
    unfold zenc
    rw [if_neg (by omega), if_pos rfl]
    unfold zdec
    rw [if_neg (by omega), if_pos ⟨rfl, rfl⟩, if_pos rfl]
/-- an entry that says the same where it counts -/
theorem aAt.congr {D : AG} {a : Nat} {e' : AEnt} {H : Heap} (h : aAt D a e H) (h1 : e'.1 = e.1) (h2 : e'.2.1 = e.2.1) (hN : ∀ q, vwCl[e.1]? = some q → q.2.2 = e.2.1) (hv : ∀ k, k < e.2.1 → e'.2.2 k = e.2.2 k) (hi : e'.1 = 100 → ∀ j, ∃ x : Int32, e'.2.2 j = .int x) : aAt D a e' H := by
  rcases h with ⟨h0, r, hr, cell, q1, q2, q3, q4⟩ | ⟨h0, hc, -⟩
  · refine Or.inl ⟨by rw [h1]; exact h0, r, by rw [h1]; exact hr, cell, q1, by rw [h1]; exact q2, q3, fun k hk => ?_⟩
    rw [h1, hv k (by rw [← hN r hr]; exact hk)]
    exact q4 k hk
  · refine Or.inr ⟨by rw [h1]; exact h0, ?_, hi⟩
    rw [hc, h1, h2]
    refine congrArg some ?_
    unfold arrV
    congr 1
    apply Array.ext
    · simp
    · intro i p1 p2
      simp only [Array.getElem_ofFn]
      rw [hv i (by simpa using p1)]
theorem zc_conv {D : AG} {H : Heap} (h : ∀ j e, (LL kad g)[j]? = some e → aAt D (g + j) e H) : aHas D (aMem (zc kad g) (xc kad g)) H := by
  intro a e' ha
  by_cases hlt : a < g
  · simp only [aMem, zc_none hlt] at ha
    cases ha
  · obtain ⟨j, rfl⟩ : ∃ j, a = g + j := ⟨a - g, by omega⟩
    cases hj : (LL kad g)[j]? with
    | none =>
      exfalso
      have : (zc kad g).1 (g + j) = none := by
        simp only [zc, if_neg (show ¬ g + j < g by omega), Nat.add_sub_cancel_left, hj]
      simp only [aMem, this] at ha
      cases ha
    | some e =>
      rw [aMem_eq (zc_z hj)] at ha
      cases ha
      obtain ⟨G1, G2, G3, G4⟩ := LL_G e (List.mem_of_getElem? hj)
      refine (h j e hj).congr rfl rfl G2 (fun k hk => ?_) (fun h100 i => ?_)
      · have G := G1 k hk
        show (if aRf e.1 k = true then Value.ref (zdec kad g (g + j) k (xc kad g (g + j) k)) else .int (xc kad g (g + j) k)) = e.2.2 k
        by_cases hr : aRf e.1 k = true
        · rw [if_pos hr] at G ⊢
          obtain ⟨r, hr'⟩ := G
          have hx : xc kad g (g + j) k = 0 := by
            rw [xc_at hj]
            unfold xv
            rw [hr']
          rw [hr', hx]
          refine congrArg Value.ref ?_
          by_cases h1 : j = 114 ∧ k = 7
          · obtain ⟨rfl, rfl⟩ := h1
            obtain ⟨f, hf, hf7⟩ := LL_114 (kad := kad) (g := g)
            rw [hf] at hj
            cases hj
            unfold zdec
            rw [if_pos ⟨rfl, rfl⟩, if_neg (by decide)]
            exact Value.ref.inj (hf7.symm.trans hr')
          · by_cases h2 : j = 143 ∧ k = 7
            · obtain ⟨rfl, rfl⟩ := h2
              obtain ⟨f, hf, hf7⟩ := LL_143 (kad := kad) (g := g)
              rw [hf] at hj
              cases hj
              unfold zdec
              rw [if_neg (by omega), if_pos ⟨rfl, rfl⟩, if_neg (by decide)]
              exact Value.ref.inj (hf7.symm.trans hr')
            · by_cases h7 : e.1 = 7 ∧ k = 0
              · obtain ⟨h7, rfl⟩ := h7
                rw [zdec_7 hj h7]
                exact Value.ref.inj ((G3 h7).symm.trans hr')
              · exact zdec_at hj h1 h2 h7 hr' _
        · rw [if_neg hr] at G ⊢
          obtain ⟨x, hx⟩ := G
          rw [xc_at hj, hx]
          unfold xv
          rw [hx]
      · refine ⟨xc kad g (g + j) i, ?_⟩
        have h100 : e.1 = 100 := h100
        show (if aRf e.1 i = true then _ else _) = _
        rw [if_neg (by rw [h100]; simp [aRf])]
/-! two objects -/
def zz (kad : Nat → Nat) (g : Nat) : AZ := (fun q => if q < g + 1997 then (zc kad g).1 q else (zc kad (g + 1997)).1 q, (fun q k x => if q < g + 1997 then zdec kad g q k x else zdec kad (g + 1997) q k x, fun q k r => if q < g + 1997 then zenc kad g q k r else zenc kad (g + 1997) q k r))
def xx (kad : Nat → Nat) (g : Nat) : AI := fun q k => if q < g + 1997 then xc kad g q k else xc kad (g + 1997) q k
theorem zz_lo (h : q < g + 1997) : (zz kad g).1 q = (zc kad g).1 q ∧ (∀ k x, (zz kad g).2.1 q k x = zdec kad g q k x) ∧ ∀ k r, (zz kad g).2.2 q k r = zenc kad g q k r := ⟨if_pos h, fun k x => if_pos h, fun k r => if_pos h⟩
theorem zz_hi (h : ¬ q < g + 1997) : (zz kad g).1 q = (zc kad (g + 1997)).1 q ∧ (∀ k x, (zz kad g).2.1 q k x = zdec kad (g + 1997) q k x) ∧ ∀ k r, (zz kad g).2.2 q k r = zenc kad (g + 1997) q k r := ⟨if_neg h, fun k x => if_neg h, fun k r => if_neg h⟩
theorem zz_E (hinj : ∀ i j, i < 9 → j < 9 → kad i = kad j → i = j) (h9 : kad 9 < g) (hN : 2000 ≤ N) : env2 kad N (zz kad g) g (g + 1997) := by
  have n9 : (zz kad g).1 (kad 9) = none := by
    rw [(zz_lo (by omega)).1]
    exact zc_none h9
  have b1 : HB kad (zz kad g) g (LL kad g) := fun j e hj => by
    have hl := lt_of_some hj LL_len
    obtain ⟨z1, z2, z3⟩ := zz_lo (kad := kad) (g := g) (q := g + j) (by omega)
    obtain ⟨p1, p2, p3, p4⟩ := hb_zc (g := g) hinj j e hj
    exact ⟨z1.trans p1, fun h7 h8 k r hk x => (z2 k x).trans (p2 h7 h8 k r hk x), fun h8 k r h7 hk x => (z2 k x).trans (p3 h8 k r h7 hk x), fun h7 => ⟨fun x => (z2 0 x).trans ((p4 h7).1 x), fun i hi => (z3 0 (kad i)).trans ((p4 h7).2 i hi)⟩⟩
  have b2 : HB kad (zz kad g) (g + 1997) (LL kad (g + 1997)) := fun j e hj => by
    obtain ⟨z1, z2, z3⟩ := zz_hi (kad := kad) (g := g) (q := g + 1997 + j) (by omega)
    obtain ⟨p1, p2, p3, p4⟩ := hb_zc (g := g + 1997) hinj j e hj
    exact ⟨z1.trans p1, fun h7 h8 k r hk x => (z2 k x).trans (p2 h7 h8 k r hk x), fun h8 k r h7 hk x => (z2 k x).trans (p3 h8 k r h7 hk x), fun h7 => ⟨fun x => (z2 0 x).trans ((p4 h7).1 x), fun i hi => (z3 0 (kad i)).trans ((p4 h7).2 i hi)⟩⟩
  refine ⟨envG_of b1 (fun q hq x => (zz_lo (by omega)).2.1 7 x) (fun q hq r => (zz_lo (by omega)).2.2 7 r) n9 hN, envG_of b2 (fun q hq x => (zz_hi (by omega)).2.1 7 x) (fun q hq r => (zz_hi (by omega)).2.2 7 r) n9 hN, Or.inl (Nat.le_refl _)⟩
theorem aMem_z {Z Z' : AZ} {I I' : AI} {a : Nat} (h1 : Z'.1 a = Z.1 a) (h2 : ∀ k x, Z'.2.1 a k x = Z.2.1 a k x) (h3 : I' a = I a) : aMem Z' I' a = aMem Z I a := by
  cases hz : Z.1 a with
  | none => simp only [aMem, h1, hz]
  | some f =>
    rw [aMem_eq (h1.trans hz), aMem_eq hz]
    unfold aEnt
    rw [h3]
    congr 1
    congr 1
    congr 1
    funext k
    rw [h2]
theorem zz_conv {D : AG} {H : Heap} {M : AMem} (h : aHas D (bM (bM M g (LL kad g)) (g + 1997) (LL kad (g + 1997))) H) : aHas D (aMem (zz kad g) (xx kad g)) H := by
  have h1 : ∀ j e, (LL kad g)[j]? = some e → aAt D (g + j) e H := fun j e hj => h (g + j) e (by
    have hl := lt_of_some hj LL_len
    rw [bM_lo (by omega)]
    exact bM_at hj)
  have h2 : ∀ j e, (LL kad (g + 1997))[j]? = some e → aAt D (g + 1997 + j) e H := fun j e hj => h (g + 1997 + j) e (bM_at hj)
  intro a e ha
  by_cases hlt : a < g + 1997
  · obtain ⟨z1, z2, -⟩ := zz_lo (kad := kad) hlt
    rw [aMem_z (Z := zc kad g) (I := xc kad g) z1 z2 (funext fun k => if_pos hlt)] at ha
    exact zc_conv h1 a e ha
  · obtain ⟨z1, z2, -⟩ := zz_hi (kad := kad) hlt
    rw [aMem_z (Z := zc kad (g + 1997)) (I := xc kad (g + 1997)) z1 z2 (funext fun k => if_neg hlt)] at ha
    exact zc_conv h2 a e ha
theorem zz_dom {q : Nat} {e : AEnt} {I : AI} {M : AMem} (h : aMem (zz kad g) I q = some e) : ∃ e', bM (bM M g (LL kad g)) (g + 1997) (LL kad (g + 1997)) q = some e' := by
  have key : ∀ g, (zc kad g).1 q = none ∨ ∃ j e', q = g + j ∧ (LL kad g)[j]? = some e' := fun g => by
    by_cases hlt : q < g
    · exact Or.inl (zc_none hlt)
    · obtain ⟨j, rfl⟩ : ∃ j, q = g + j := ⟨q - g, by omega⟩
      cases hj : (LL kad g)[j]? with
      | none =>
        left
        simp only [zc, if_neg (show ¬ g + j < g by omega), Nat.add_sub_cancel_left, hj]
      | some e' => exact Or.inr ⟨j, e', rfl, hj⟩
  by_cases hlt : q < g + 1997
  · rcases key g with h1 | ⟨j, e', rfl, hj⟩
    · simp only [aMem, (zz_lo (kad := kad) hlt).1, h1] at h
      cases h
    · exact ⟨e', by rw [bM_lo hlt]; exact bM_at hj⟩
  · rcases key (g + 1997) with h1 | ⟨j, e', rfl, hj⟩
    · simp only [aMem, (zz_hi (kad := kad) hlt).1, h1] at h
      cases h
    · exact ⟨e', bM_at hj⟩
end CONV
