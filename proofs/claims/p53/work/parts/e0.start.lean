/-! class and model, new: they have in common what calls keep -/
def xZ (e : AEnt) : Prop := ∀ k, xv e k = 0
section XZ
variable {kad : Nat → Nat} {g j k c n ci r a : Nat} {f : Nat → Value} {e : AEnt}
theorem xZ_dfl : xZ (c, (n, dfl ci)) := fun k => by
  show (match defaultValue (aTyF ci k) with | .int x => x | _ => 0) = 0
  cases aTyF ci k <;> rfl
theorem xZ_ref (h : xZ (c, (n, f))) : xZ (c, (n, updV f j (.ref r))) := fun k => by
  have hk := h k
  unfold xv updV at *
  dsimp only at hk ⊢
  by_cases hj : k = j
  · rw [if_pos hj]
  · rw [if_neg hj]
    exact hk
theorem xZ_i0 : xZ (c, (n, fun _ => .int 0)) := fun _ => rfl
theorem Lc8_Z : ∀ c, 1 ≤ c → c ≤ 16 → ¬ c = 9 → ∃ e, (Lc8 a)[c]? = some e ∧ xZ e
  | 0, h, _, _ => absurd h (by decide)
  | 1, _, _, _ => ⟨_, rfl, xZ_ref (xZ_ref xZ_dfl)⟩
  | 2, _, _, _ => ⟨_, rfl, xZ_i0⟩
  | 3, _, _, _ => ⟨_, rfl, xZ_ref (xZ_ref xZ_dfl)⟩
  | 4, _, _, _ => ⟨_, rfl, xZ_i0⟩
  | 5, _, _, _ => ⟨_, rfl, xZ_i0⟩
  | 6, _, _, _ => ⟨_, rfl, xZ_i0⟩
  | 7, _, _, _ => ⟨_, rfl, xZ_i0⟩
  | 8, _, _, _ => ⟨_, rfl, xZ_ref xZ_dfl⟩
  | 9, _, _, h => absurd rfl h
  | 10, _, _, _ => ⟨_, rfl, xZ_ref (xZ_ref xZ_dfl)⟩
  | 11, _, _, _ => ⟨_, rfl, xZ_i0⟩
  | 12, _, _, _ => ⟨_, rfl, xZ_i0⟩
  | 13, _, _, _ => ⟨_, rfl, xZ_ref (xZ_ref xZ_dfl)⟩
  | 14, _, _, _ => ⟨_, rfl, xZ_i0⟩
  | 15, _, _, _ => ⟨_, rfl, xZ_i0⟩
  | 16, _, _, _ => ⟨_, rfl, xZ_i0⟩
  | n + 17, _, h, _ => absurd h (by omega)
/-- a cell of the class, a number -/
theorem xc_lo (hj : j < 1997) (h : (Lc10 kad g)[j]? = some e) : xc kad g (g + j) k = xv e k := xc_at ((LL_lo hj).trans h)
theorem xc_m (hj : j < 26) (h : (Lc8 (g + 114))[j]? = some e) : xc kad g (g + 114 + j) k = xv e k := by
  rw [Nat.add_assoc]
  exact xc_lo (by omega) (by rw [show 114 + j = (113 + j) + 1 by omega, lc_lo (by omega) (by omega) (by omega), lr_8 hj]; exact h)
theorem xc_own : xc kad g g k = 0 := (xc_lo (j := 0) (kad := kad) (g := g) (k := k) (by decide) lc_own).trans (xZ_ref (xZ_ref (xZ_ref (xZ_ref (xZ_ref (xZ_ref (xZ_ref (xZ_ref (xZ_ref (xZ_ref xZ_dfl))))))))) k)
theorem xc_asm : xc kad g (g + 1) k = 0 := (xc_lo (j := 1) (by decide) ((lc_lo (j := 0) (by decide) (by decide) (by decide)).trans ((lr_0 (by decide)).trans rfl))).trans (xZ_ref (xZ_ref (xZ_ref (xZ_ref (xZ_ref (xZ_ref (xZ_ref (xZ_ref (xZ_ref (xZ_ref (xZ_ref xZ_dfl)))))))))) k)
theorem xc_busy : xc kad g (g + 1 + 5) k = 0 := (xc_lo (j := 6) (by decide) ((lc_lo (j := 5) (by decide) (by decide) (by decide)).trans ((lr_0 (by decide)).trans (cJ_lo (j := 4) (by decide) (by decide))))).trans (xZ_i0 (c := 101) (n := 5) k)
theorem xc_img : xc kad g (g + 113) k = 0 := (xc_lo (j := 113) (by decide) ((lc_lo (j := 112) (by decide) (by decide) (by decide)).trans lr_112)).trans (xZ_i0 (c := 100) (n := 256) k)
theorem xc_disk : xc kad g (g + 114 + 9) k = fD k := by
  rw [xc_m (j := 9) (by decide) rfl]
  unfold xv fD updV
  dsimp only
  by_cases hk : k = 32
  · rw [if_pos hk, if_pos hk]
  · rw [if_neg hk, if_neg hk]
theorem xc_mz (h1 : 1 ≤ c) (h2 : c ≤ 16) (h9 : ¬ c = 9) : xc kad g (g + 114 + c) k = 0 := by
  obtain ⟨e, he, hz⟩ := Lc8_Z (a := g + 114) c h1 h2 h9
  rw [xc_m (by omega) he]
  exact hz k
theorem xc_9 {t : Nat} (hj : j < 5) (ht : t < 3) (h : (Lc9 (g + (1982 + 3 * j)))[t]? = some e) : xc kad g (g + (1982 + 3 * j) + t) k = xv e k := by
  rw [Nat.add_assoc]
  exact xc_lo (by omega) ((lc_t hj ht).trans h)
theorem xc_d {t : Nat} (ht : t < 3) (h : (Lc9 (g + 178))[t]? = some e) : xc kad g (g + 178 + t) k = xv e k := by
  rw [Nat.add_assoc]
  exact xc_lo (by omega) (by rw [show 178 + t = (177 + t) + 1 by omega, lc_lo (by omega) (by omega) (by omega), lr_9 ht]; exact h)
end XZ
section MI0
variable {kad : Nat → Nat} {g : Nat} {J : AI}
def T0 : AI := fun q _ => if q = 7 then Int32.ofInt (-1) else 0
theorem wd0 : wd 0 := ⟨by decide, by decide⟩
theorem upto0 {n : Nat} : upto n 0 := ⟨0, by decide, Nat.zero_le _⟩
theorem TI_0 : TI 0 T0 := ⟨⟨by decide, by decide⟩, ⟨upto0, upto0⟩, fun k _ => ⟨wd0, wd0⟩, fun t ht => ⟨⟨upto0, upto0⟩, ⟨upto0, upto0, upto0, upto0⟩, ⟨Or.inl rfl, Or.inl rfl, fun _ => rfl, fun _ => rfl⟩, fun k _ => by
  have e1 : T0 (10 + t) k = 0 := if_neg (by omega)
  have e2 : T0 (20 + t) k = 0 := if_neg (by omega)
  rw [e1, e2]
  exact ⟨wd0, wd0⟩⟩⟩
theorem ovK0 {c k : Nat} (h9 : ¬ c = 9) : ov K0 (offm fD 0) c k = 0 := by
  unfold ov offm K0
  split
  · rfl
  · split
    · rfl
    · rfl
theorem ovK9 {k : Nat} : ov K0 (offm fD 0) 9 k = fD k := rfl
/-- a new object -/
def A0 : XA := ((0, K0), ((0, fun _ => 0), (aOff 0 K0 (fun _ => 0) fD 0 0 0, (0, T0))))
theorem A0_ok : okA A0 := ⟨⟨by decide, fun i hi => absurd hi (Nat.not_lt_zero _)⟩, ⟨Or.inl rfl, fun _ _ => wd0⟩, ⟨K0_ok, Or.inl fD_ok⟩, TI_0⟩
theorem CI_0 (hc : ∀ b, g ≤ b → b < g + 1997 → J b = xc kad g b) : CI g A0 J := by
  refine ⟨⟨⟨⟨?_, fun i hi => absurd hi (by show ¬ i < 0; omega)⟩, by decide⟩, fun q hq => ?_⟩, ⟨?_, fun k hk => ?_⟩, ⟨fun c k hcc hr => ?_, ?_⟩, ⟨⟨?_, ?_, ?_⟩, fun k hk => ?_, fun t ht => ?_⟩⟩
  · rw [hc _ (by omega) (by omega)]
    exact xc_asm
  · rw [hc _ (by omega) (by omega)]
    exact xc_busy
  · rw [hc _ (by omega) (by omega)]
    exact xc_own
  · rw [hc _ (by omega) (by omega), xc_img]
    rfl
  · have hc17 : 1 ≤ c ∧ c ≤ 16 := by
      match c, hcc, hr with
      | 0, _, hr => exact hr.elim
      | c + 1, _, hr =>
        refine ⟨by omega, ?_⟩
        by_cases hh : c + 1 ≤ 16
        · exact hh
        · exfalso
          match c, hh, hr with
          | 16, _, hr => exact hr.elim
          | 17, _, hr => exact hr.elim
          | 18, _, hr => exact hr.elim
          | n + 19, _, _ => omega
          | 0, hh, _ | 1, hh, _ | 2, hh, _ | 3, hh, _ | 4, hh, _ | 5, hh, _ | 6, hh, _ | 7, hh, _ | 8, hh, _ | 9, hh, _ | 10, hh, _ | 11, hh, _ | 12, hh, _ | 13, hh, _ | 14, hh, _ | 15, hh, _ => omega
    rw [hc _ (by omega) (by omega)]
    by_cases h9 : c = 9
    · subst h9
      rw [xc_disk]
      rfl
    · rw [xc_mz hc17.1 hc17.2 h9, ovK0 h9]
  · rw [hc _ (by omega) (by omega)]
    exact xc_own
  · rw [hc _ (by omega) (by omega)]
    exact xc_own
  · rw [hc _ (by omega) (by omega), show g + 178 = g + 178 + 0 from rfl, xc_d (by decide) (show (Lc9 (g + 178))[0]? = some _ from rfl)]
    rfl
  · rw [hc _ (by omega) (by omega), show g + 178 = g + 178 + 0 from rfl, xc_d (by decide) (show (Lc9 (g + 178))[0]? = some _ from rfl)]
    rfl
  · rw [hc _ (by omega) (by omega), hc _ (by omega) (by omega), show g + 179 = g + 178 + 1 from rfl, show g + 180 = g + 178 + 2 from rfl, xc_d (t := 1) (by decide) (show (Lc9 (g + 178))[1]? = some _ from rfl), xc_d (t := 2) (by decide) (show (Lc9 (g + 178))[2]? = some _ from rfl)]
    exact ⟨rfl, rfl⟩
  · have e : ∀ u, u < 3 → J (g + (1982 + 3 * t) + u) = xc kad g (g + (1982 + 3 * t) + u) := fun u hu => hc _ (by omega) (by omega)
    have e0 : J (g + (1982 + 3 * t)) = xc kad g (g + (1982 + 3 * t) + 0) := e 0 (by decide)
    have z0 : ∀ k, xc kad g (g + (1982 + 3 * t) + 0) k = xv (9, (10, updV (updV (updV (dfl 9) 2 (.int (-1))) 3 (.ref (g + (1982 + 3 * t) + 1))) 4 (.ref (g + (1982 + 3 * t) + 2)))) k := fun k => xc_9 ht (by decide) rfl
    refine ⟨⟨?_, ?_, ?_, ?_⟩, ⟨?_, ?_, ?_, ?_⟩, fun k hk => ?_⟩
    · rw [e0, z0]; rfl
    · rw [e0, z0]; rfl
    · rw [e0, z0]; rfl
    · rw [e0, z0]; rfl
    · rw [e0, z0]; rfl
    · rw [e0, z0]; rfl
    · rw [e0, z0]; rfl
    · rw [e0, z0]; rfl
    · have q1 : T0 (10 + t) k = 0 := if_neg (by omega)
      have q2 : T0 (20 + t) k = 0 := if_neg (by omega)
      show J (g + (1982 + 3 * t) + 1) k = T0 (10 + t) k ∧ J (g + (1982 + 3 * t) + 2) k = T0 (20 + t) k
      rw [q1, q2, e 1 (by decide), e 2 (by decide), xc_9 ht (t := 1) (by decide) rfl, xc_9 ht (t := 2) (by decide) rfl]
      exact ⟨rfl, rfl⟩
end MI0
