/-! class and model, new: they have in common what calls keep -/
def xZ (e : AEnt) : Prop := ∀ k, xv e k = 0
section XZ
variable {kad : Nat → Nat} {g j k c n ci r a : Nat} {f : Nat → Value} {e : AEnt}
theorem xZ_dfl : xZ (c, (n, dfl ci)) := fun k => by
  show (match defaultValue (aTyF ci k) with | .int x => x | _ => 0) = 0
  cases aTyF ci k <;> rfl
theorem xZ_ref (h : xZ (c, (n, f))) : xZ (c, (n, updV f j (.ref r))) := fun k => by
  have hk := h k
  unfold xv updV at *
  dsimp only at hk ⊢
  by_cases hj : k = j
  · rw [if_pos hj]
  · rw [if_neg hj]
    exact hk
theorem xZ_i0 : xZ (c, (n, fun _ => .int 0)) := fun _ => rfl
theorem Lc8_Z : ∀ c, 1 ≤ c → c ≤ 16 → ¬ c = 9 → ∃ e, (Lc8 a)[c]? = some e ∧ xZ e
  | 0, h, _, _ => absurd h (by decide)
  | 1, _, _, _ => ⟨_, rfl, xZ_ref (xZ_ref xZ_dfl)⟩
  | 2, _, _, _ => ⟨_, rfl, xZ_i0⟩
  | 3, _, _, _ => ⟨_, rfl, xZ_ref (xZ_ref xZ_dfl)⟩
  | 4, _, _, _ => ⟨_, rfl, xZ_i0⟩
  | 5, _, _, _ => ⟨_, rfl, xZ_i0⟩
  | 6, _, _, _ => ⟨_, rfl, xZ_i0⟩
  | 7, _, _, _ => ⟨_, rfl, xZ_i0⟩
  | 8, _, _, _ => ⟨_, rfl, xZ_ref xZ_dfl⟩
  | 9, _, _, h => absurd rfl h
  | 10, _, _, _ => ⟨_, rfl, xZ_ref (xZ_ref xZ_dfl)⟩
  | 11, _, _, _ => ⟨_, rfl, xZ_i0⟩
  | 12, _, _, _ => ⟨_, rfl, xZ_i0⟩
  | 13, _, _, _ => ⟨_, rfl, xZ_ref (xZ_ref xZ_dfl)⟩
  | 14, _, _, _ => ⟨_, rfl, xZ_i0⟩
  | 15, _, _, _ => ⟨_, rfl, xZ_i0⟩
  | 16, _, _, _ => ⟨_, rfl, xZ_i0⟩
  | n + 17, _, h, _ => absurd h (by omega)
/-- a cell of the class, a number -/
theorem xc_lo (hj : j < 1997) (h : (Lc10 kad g)[j]? = some e) : xc kad g (g + j) k = xv e k := xc_at ((LL_lo hj).trans h)
theorem xc_m (hj : j < 26) (h : (Lc8 (g + 114))[j]? = some e) : xc kad g (g + 114 + j) k = xv e k := by
  rw [Nat.add_assoc]
  exact xc_lo (by omega) (by rw [show 114 + j = (113 + j) + 1 by omega, lc_lo (by omega) (by omega) (by omega), lr_8 hj]; exact h)
theorem xc_own : xc kad g g k = 0 := (xc_lo (j := 0) (kad := kad) (g := g) (k := k) (by decide) lc_own).trans (xZ_ref (xZ_ref (xZ_ref (xZ_ref (xZ_ref (xZ_ref (xZ_ref (xZ_ref (xZ_ref (xZ_ref xZ_dfl))))))))) k)
theorem xc_asm : xc kad g (g + 1) k = 0 := (xc_lo (j := 1) (by decide) ((lc_lo (j := 0) (by decide) (by decide) (by decide)).trans ((lr_0 (by decide)).trans rfl))).trans (xZ_ref (xZ_ref (xZ_ref (xZ_ref (xZ_ref (xZ_ref (xZ_ref (xZ_ref (xZ_ref (xZ_ref (xZ_ref xZ_dfl)))))))))) k)
theorem xc_busy : xc kad g (g + 1 + 5) k = 0 := (xc_lo (j := 6) (by decide) ((lc_lo (j := 5) (by decide) (by decide) (by decide)).trans ((lr_0 (by decide)).trans (cJ_lo (j := 4) (by decide) (by decide))))).trans (xZ_i0 (c := 101) (n := 5) k)
theorem xc_img : xc kad g (g + 113) k = 0 := (xc_lo (j := 113) (by decide) ((lc_lo (j := 112) (by decide) (by decide) (by decide)).trans lr_112)).trans (xZ_i0 (c := 100) (n := 256) k)
theorem xc_disk : xc kad g (g + 114 + 9) k = fD k := by
  rw [xc_m (j := 9) (by decide) rfl]
  unfold xv fD updV
  dsimp only
  by_cases hk : k = 32
  · rw [if_pos hk, if_pos hk]
  · rw [if_neg hk, if_neg hk]
theorem xc_mz (h1 : 1 ≤ c) (h2 : c ≤ 16) (h9 : ¬ c = 9) : xc kad g (g + 114 + c) k = 0 := by
  obtain ⟨e, he, hz⟩ := Lc8_Z (a := g + 114) c h1 h2 h9
  rw [xc_m (by omega) he]
  exact hz k
theorem xc_9 {t : Nat} (hj : j < 5) (ht : t < 3) (h : (Lc9 (g + (1982 + 3 * j)))[t]? = some e) : xc kad g (g + (1982 + 3 * j) + t) k = xv e k := by
  rw [Nat.add_assoc]
  exact xc_lo (by omega) ((lc_t hj ht).trans h)
theorem xc_d {t : Nat} (ht : t < 3) (h : (Lc9 (g + 178))[t]? = some e) : xc kad g (g + 178 + t) k = xv e k := by
  rw [Nat.add_assoc]
  exact xc_lo (by omega) (by rw [show 178 + t = (177 + t) + 1 by omega, lc_lo (by omega) (by omega) (by omega), lr_9 ht]; exact h)
theorem Lr11_Z : ∀ x ∈ Lr11, xZ x := by
  unfold Lr11
  have s : ∀ {c n : Nat}, ∀ x ∈ ([(c, (n, fun _ => .int 0))] : List AEnt), xZ x := fun x hx => by
    rw [List.mem_singleton.mp hx]
    exact xZ_i0
  exact (List.forall_mem_append.mpr ⟨(List.forall_mem_append.mpr ⟨(List.forall_mem_append.mpr ⟨(List.forall_mem_append.mpr ⟨(List.forall_mem_append.mpr ⟨(List.forall_mem_append.mpr ⟨(List.forall_mem_append.mpr ⟨(List.forall_mem_append.mpr ⟨(List.forall_mem_append.mpr ⟨(List.forall_mem_append.mpr ⟨(List.forall_mem_append.mpr ⟨(List.forall_mem_append.mpr ⟨(List.forall_mem_append.mpr ⟨(List.forall_mem_append.mpr ⟨(List.forall_mem_append.mpr ⟨(List.forall_mem_append.mpr ⟨(List.forall_mem_append.mpr ⟨(List.forall_mem_append.mpr ⟨(List.forall_mem_append.mpr ⟨(List.forall_mem_append.mpr ⟨(List.forall_mem_append.mpr ⟨(List.forall_mem_append.mpr ⟨(List.forall_mem_append.mpr ⟨(List.forall_mem_append.mpr ⟨(List.forall_mem_append.mpr ⟨(List.forall_mem_append.mpr ⟨(List.forall_mem_append.mpr ⟨(List.forall_mem_append.mpr ⟨(List.forall_mem_append.mpr ⟨(List.forall_mem_append.mpr ⟨(List.forall_mem_append.mpr ⟨(List.forall_mem_append.mpr ⟨(List.forall_mem_append.mpr ⟨(List.forall_mem_append.mpr ⟨(List.forall_mem_append.mpr ⟨(List.forall_mem_append.mpr ⟨(List.forall_mem_append.mpr ⟨(List.forall_mem_append.mpr ⟨(List.forall_mem_append.mpr ⟨(List.forall_mem_append.mpr ⟨(List.forall_mem_append.mpr ⟨(List.forall_mem_append.mpr ⟨(fun e he => absurd he List.not_mem_nil), s⟩), s⟩), s⟩), s⟩), s⟩), s⟩), s⟩), s⟩), s⟩), s⟩), s⟩), s⟩), s⟩), s⟩), s⟩), s⟩), s⟩), s⟩), s⟩), s⟩), s⟩), s⟩), s⟩), s⟩), s⟩), s⟩), s⟩), s⟩), s⟩), s⟩), s⟩), s⟩), s⟩), s⟩), s⟩), s⟩), s⟩), s⟩), s⟩), s⟩), s⟩), s⟩)
set_option maxRecDepth 2000 in
theorem xc_mod (hj : j < 43) : xc kad g (g + 1997 + j) k = 0 := by
  rw [Nat.add_assoc]
  have h1 : j < (Lm11 (g + 1997)).length := by rw [Lm11_len]; exact hj
  rw [xc_at (LL_hi.trans (List.getElem?_eq_getElem h1))]
  have hz : ∀ x ∈ Lm11 (g + 1997), xZ x := List.forall_mem_cons.mpr ⟨xZ_ref (xZ_ref (xZ_ref (xZ_ref (xZ_ref (xZ_ref (xZ_ref (xZ_ref (xZ_ref (xZ_ref (xZ_ref (xZ_ref (xZ_ref (xZ_ref (xZ_ref (xZ_ref (xZ_ref (xZ_ref (xZ_ref (xZ_ref (xZ_ref (xZ_ref (xZ_ref (xZ_ref (xZ_ref (xZ_ref (xZ_ref (xZ_ref (xZ_ref (xZ_ref (xZ_ref (xZ_ref (xZ_ref (xZ_ref (xZ_ref (xZ_ref (xZ_ref (xZ_ref (xZ_ref (xZ_ref (xZ_ref (xZ_ref xZ_dfl))))))))))))))))))))))))))))))))))))))))), Lr11_Z⟩
  exact hz _ (List.getElem_mem h1) k
end XZ
