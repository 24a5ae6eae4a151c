/-! the class and the model, whole -/
section SH10
variable {kad : Nat → Nat} {Z : AZ} {a j n : Nat} {e : AEnt}
theorem skp {P T : List AEnt} (h : P.length = n) : (P ++ T)[n + j]? = T[j]? := by
  rw [List.getElem?_append_right (by omega), h, Nat.add_sub_cancel_left]
theorem Lr10_eq : Lr10 kad a = Lc0 kad (a + 1) ++ ([(100, (256, fun _ => .int 0))] ++ (Lc8 (a + 114) ++ ([(103, (200, fun _ => .null))] ++ ([(100, (256, fun _ => .int 0))] ++ ([(100, (256, fun _ => .int 0))] ++ (Lc8 (a + 143) ++ (Lc5 (a + 169) ++ (Lc9 (a + 178) ++ [(105, (5, fun _ => .null))])))))))) := by
  simp only [Lr10, List.nil_append, List.append_assoc]
theorem lr_0 (h : j < 112) : (Lr10 kad a)[j]? = (Lc0 kad (a + 1))[j]? := by
  rw [Lr10_eq, List.getElem?_append_left (by rw [Lc0_len]; exact h)]
theorem lr_112 : (Lr10 kad a)[112]? = some (100, (256, fun _ => .int 0)) := by
  rw [Lr10_eq, show (112 : Nat) = 112 + 0 from rfl, skp Lc0_len]
  rfl
theorem lr_8 (h : j < 26) : (Lr10 kad a)[113 + j]? = (Lc8 (a + 114))[j]? := by
  rw [Lr10_eq, show 113 + j = 112 + (1 + j) by omega, skp Lc0_len, skp (n := 1) rfl, List.getElem?_append_left (by rw [Lc8_len]; exact h)]
theorem lr_sk : (Lr10 kad a)[140 + j]? = ([(100, (256, fun _ => .int 0))] ++ ([(100, (256, fun _ => .int 0))] ++ (Lc8 (a + 143) ++ (Lc5 (a + 169) ++ (Lc9 (a + 178) ++ [(105, (5, fun _ => .null))])))) : List AEnt)[j]? := by
  rw [Lr10_eq, show 140 + j = 112 + (1 + (26 + (1 + j))) by omega, skp Lc0_len, skp (n := 1) rfl, skp Lc8_len, skp (n := 1) rfl]
theorem lr_140 : (Lr10 kad a)[140]? = some (100, (256, fun _ => .int 0)) := (lr_sk (j := 0)).trans rfl
theorem lr_141 : (Lr10 kad a)[141]? = some (100, (256, fun _ => .int 0)) := (lr_sk (j := 1)).trans rfl
theorem lr_82 (h : j < 26) : (Lr10 kad a)[142 + j]? = (Lc8 (a + 143))[j]? := by
  rw [show 142 + j = 140 + (1 + (1 + j)) by omega, lr_sk, skp (n := 1) rfl, skp (n := 1) rfl, List.getElem?_append_left (by rw [Lc8_len]; exact h)]
theorem lr_5 (h : j < 9) : (Lr10 kad a)[168 + j]? = (Lc5 (a + 169))[j]? := by
  rw [show 168 + j = 140 + (1 + (1 + (26 + j))) by omega, lr_sk, skp (n := 1) rfl, skp (n := 1) rfl, skp Lc8_len, List.getElem?_append_left (by rw [Lc5_len]; exact h)]
theorem lr_9 (h : j < 3) : (Lr10 kad a)[177 + j]? = (Lc9 (a + 178))[j]? := by
  rw [show 177 + j = 140 + (1 + (1 + (26 + (9 + j)))) by omega, lr_sk, skp (n := 1) rfl, skp (n := 1) rfl, skp Lc8_len, skp Lc5_len, List.getElem?_append_left (by rw [Lc9_len]; exact h)]
theorem lt_of_some {L : List AEnt} (h : L[j]? = some e) (hn : L.length = n) : j < n := hn ▸ (List.getElem?_eq_some_iff.mp h).1
theorem ls_lo (h : j < 181) (h1 : ¬ 139 = j) : (Ls10 kad a)[j]? = (Lr10 kad a)[j]? := by
  unfold Ls10
  rw [List.getElem?_append_left (by rw [List.length_set, Lr10_len]; exact h), List.getElem?_set_ne h1]
theorem lc_lo (h : j < 181) (h1 : ¬ 139 = j) (h2 : ¬ 180 = j) : (Lc10 kad a)[j + 1]? = (Lr10 kad a)[j]? := by
  rw [show Lc10 kad a = cJ Lc9 10 13 (Lf10 a) (Ls10 kad a) a 1982 3 180 5 5 5 from rfl, cJ_lo (by rw [Ls10_len]; omega) h2, ls_lo h h1]
theorem lc_140 : (Lc10 kad a)[140]? = some (103, (200, aJ a 182 9 200)) := by
  rw [show Lc10 kad a = cJ Lc9 10 13 (Lf10 a) (Ls10 kad a) a 1982 3 180 5 5 5 from rfl, show (140 : Nat) = 139 + 1 from rfl, cJ_lo (by rw [Ls10_len]; omega) (by decide)]
  unfold Ls10
  rw [List.getElem?_append_left (by rw [List.length_set, Lr10_len]; omega), List.getElem?_set_self (by rw [Lr10_len]; omega)]
theorem lc_181 : (Lc10 kad a)[181]? = some (105, (5, aJ a 1982 3 5)) := cJ_row (by rw [Ls10_len]; omega)
theorem lc_k {t : Nat} (hj : j < 200) (ht : t < 9) : (Lc10 kad a)[182 + 9 * j + t]? = (Lc5 (a + (182 + 9 * j)))[t]? := by
  rw [show Lc10 kad a = cJ Lc9 10 13 (Lf10 a) (Ls10 kad a) a 1982 3 180 5 5 5 from rfl, show 182 + 9 * j + t = (181 + (9 * j + t)) + 1 by omega, cJ_lo (by rw [Ls10_len]; omega) (by omega)]
  unfold Ls10
  rw [skp (n := 181) (by rw [List.length_set, Lr10_len])]
  exact gJ_at (fun _ => Lc5_len) ht hj
theorem lc_t {t : Nat} (hj : j < 5) (ht : t < 3) : (Lc10 kad a)[1982 + 3 * j + t]? = (Lc9 (a + (1982 + 3 * j)))[t]? := by
  rw [Nat.add_assoc]
  exact cJ_at (fun _ => Lc9_len) (by rw [Ls10_len]) ht hj
theorem lc_own : (Lc10 kad a)[0]? = some (10, (13, Lf10 a)) := rfl
end SH10
section SH10B
variable {kad : Nat → Nat} {Z : AZ} {a j n : Nat} {e : AEnt}
theorem hb_m1 (h : HB kad Z a (Lc10 kad a)) : HB kad Z (a + 114) (Lc8 (a + 114)) := h.sub fun j e hj => by
  have hl := lt_of_some hj Lc8_len
  rw [show 114 + j = (113 + j) + 1 by omega, lc_lo (by omega) (by omega) (by omega), lr_8 hl]
  exact hj
theorem hb_m2 (h : HB kad Z a (Lc10 kad a)) : HB kad Z (a + 143) (Lc8 (a + 143)) := h.sub fun j e hj => by
  have hl := lt_of_some hj Lc8_len
  rw [show 143 + j = (142 + j) + 1 by omega, lc_lo (by omega) (by omega) (by omega), lr_82 hl]
  exact hj
theorem hb_sk (h : HB kad Z a (Lc10 kad a)) : sh5 kad Z (a + 169) := sh5_of (h.sub fun j e hj => by
  have hl := lt_of_some hj Lc5_len
  rw [show 169 + j = (168 + j) + 1 by omega, lc_lo (by omega) (by omega) (by omega), lr_5 hl]
  exact hj)
theorem hb_k (h : HB kad Z a (Lc10 kad a)) (hj : j < 200) : sh5 kad Z (a + (182 + 9 * j)) := sh5_of (h.sub fun i e hi => by
  rw [lc_k hj (lt_of_some hi Lc5_len)]
  exact hi)
theorem sh10_of (h : HB kad Z a (Lc10 kad a)) (hk1 : ∀ x, sh5 kad Z (Z.2.1 (a + 114) 7 x)) (hk2 : ∀ x, sh5 kad Z (Z.2.1 (a + 143) 7 x)) : sh10 kad Z a := by
  have d7 : ¬ (10 : Nat) = 7 := by decide
  have d8 : ¬ (10 : Nat) = 8 := by decide
  refine ⟨h.zz (j := 0) lc_own, h.rf (j := 0) lc_own d7 d8 rfl, sh0_of (h.sub fun j e hj => ?_), h.rf (j := 0) lc_own d7 d8 rfl, h.zz (j := 113) ((lc_lo (by decide) (by decide) (by decide)).trans lr_112), h.rf (j := 0) lc_own d7 d8 rfl, sh8_of (hb_m1 h) hk1, h.rf (j := 0) lc_own d7 d8 rfl, h.zz (j := 140) lc_140, fun j hj => h.rf (j := 140) lc_140 (show ¬ (103 : Nat) = 7 by decide) (show ¬ (103 : Nat) = 8 by decide) (aJ_at hj), fun j hj => hb_k h hj, h.rf (j := 0) lc_own d7 d8 rfl, h.zz (j := 141) ((lc_lo (by decide) (by decide) (by decide)).trans lr_140), h.rf (j := 0) lc_own d7 d8 rfl, h.zz (j := 142) ((lc_lo (by decide) (by decide) (by decide)).trans lr_141), h.rf (j := 0) lc_own d7 d8 rfl, sh8_of (hb_m2 h) hk2, h.rf (j := 0) lc_own d7 d8 rfl, hb_sk h, h.rf (j := 0) lc_own d7 d8 rfl, sh9_of (h.sub fun j e hj => ?_), h.rf (j := 0) lc_own d7 d8 rfl, h.zz (j := 181) lc_181, fun j hj => h.rf (j := 181) lc_181 (show ¬ (105 : Nat) = 7 by decide) (show ¬ (105 : Nat) = 8 by decide) (aJ_at hj), fun j hj => sh9_of (h.sub fun i e hi => ?_)⟩
  · have hl := lt_of_some hj Lc0_len
    rw [Nat.add_comm 1 j, lc_lo (by omega) (by omega) (by omega), lr_0 hl]
    exact hj
  · have hl := lt_of_some hj Lc9_len
    rw [show 178 + j = (177 + j) + 1 by omega, lc_lo (by omega) (by omega) (by omega), lr_9 hl]
    exact hj
  · rw [lc_t hj (lt_of_some hi Lc9_len)]
    exact hi
end SH10B
