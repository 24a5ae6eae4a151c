/-! the model's constructor, whole, behind the class's cells -/
section MODC
variable {l : Launch} {kad : Nat → Nat} {d mi : Nat} {y : AMeth} {f : AFr} {S9 : ASt} {r : ARes} {M M' : AMem} {t : Option Nat × (Nat × Nat)} {g c s : Nat}
theorem cs_conv (h : ∀ (D : AG) (H : Heap), D.2.2 = kad → aHas D M H → aHas D M' H) (hd : ∀ q e, M' q = some e → ∃ e', M q = some e') (k : aStm l kad d y f (M', t) r S9) : aStm l kad d y f (M, t) r S9 := by
  refine aStm.step (S := (M, t)) ⟨Nat.le_refl t.2.1, Nat.le_refl t.2.2⟩ k fun p e R s m args below meth c D A b Q X0 hkad hnm hml hRm hRc hbS H locs ls hR hl k => ?_
  refine k H locs ls ⟨h D H hkad hR.1, fun a e ha => ?_, hR.2.2.1, hR.2.2.2⟩ hl
  obtain ⟨e', he'⟩ := hd a e ha
  exact hR.2.1 a e' he'
theorem zc_dom {q : Nat} {e : AEnt} {I : AI} (h : aMem (zc kad g) I q = some e) : ∃ e', bM M g (LL kad g) q = some e' := by
  by_cases hlt : q < g
  · simp only [aMem, zc_none hlt] at h
    cases h
  · obtain ⟨j, rfl⟩ : ∃ j, q = g + j := ⟨q - g, by omega⟩
    cases hj : (LL kad g)[j]? with
    | none =>
      exfalso
      have : (zc kad g).1 (g + j) = none := by
        simp only [zc, if_neg (show ¬ g + j < g by omega), Nat.add_sub_cancel_left, hj]
      simp only [aMem, this] at h
      cases h
    | some e => exact ⟨e, bM_at hj⟩
set_option maxRecDepth 20000 in
theorem Lc11_ok (hl0 : l.stackTraces = false) (hinj : ∀ i j, i < 9 → j < 9 → kad i = kad j → i = j) (h9 : kad 9 < g) (hd : 1 ≤ d) : ∃ J : AI, MIr g (g + 1997) J J ∧ aStm l kad d aM183 (0, ([(0, .ref (g + 1997))], [])) (cSt (bM M g (Lc10 kad g)) (g + 1997) [(11, (74, dfl 11))] c s) (.inl none) (aMem (zc kad g) J, (some (g + 2040), (c + 42, s + 6199))) := by
  have hE := zc_E (N := 2000) hinj h9 (Nat.le_refl _)
  obtain ⟨v, J, e1, a1, a2, a3, a4⟩ := M254 (kad := kad) (N := 2000) (Z := zc kad g) (m := g + 1997) (I := xc kad g) (Nat.le_refl _)
  refine ⟨J, MI_0 (fun b h1 h2 => a3 b (by omega) (by omega)) a1 (fun b j h1 h2 => ?_), Lm11_ok ?_⟩
  · by_cases hb : b = 0
    · subst hb
      by_cases hj : j = 52
      · subst hj
        exact a2
      · exact (a4 j hj).trans (xc_mod (j := 0) (by decide))
    · rw [a3 _ (by omega) (by omega)]
      exact xc_mod h1
  · have hst : cSt (bM M g (Lc10 kad g)) (g + 1997) (Lm11 (g + 1997)) (c + 42) (s + 6199) = (bM M g (LL kad g), (some (g + 2040), (c + 42, s + 6199))) := by
      refine cSt_eq ?_ (by rw [Lm11_len]) rfl rfl
      have := bM_app (M := M) (a := g) (l := Lc10 kad g) (lc := Lm11 (g + 1997))
      rw [Lc10_len] at this
      exact this
    rw [hst]
    refine cs_conv (M' := aMem (zc kad g) (xc kad g)) (fun D H hk h => zc_conv h) (fun q e he => zc_dom he) ?_
    have hrun : aGo kad d 183 (339, ([(0, .ref (g + 1997))], [])) (aMem (zc kad g) (xc kad g), (some (g + 2040), (c + 42, s + 6199))) (fun r S1 => r = .inl none ∧ S1 = (aMem (zc kad g) J, (some (g + 2040), (c + 42, s + 6199)))) := by
      refine go_ops aMi183 1 _ (f1 := (340, ([(0, .ref (g + 1997))], [.ref (g + 1997)]))) rfl ?_
      refine gg_cv (as := []) (r := []) (v := none) (I1 := J) aMi183 rfl rfl rfl aMi254 (Nat.le_of_ble_eq_true rfl) rfl (Nat.le_of_ble_eq_true rfl) (Nat.le_of_ble_eq_true rfl) (by omega) (isK_of (sh11_z hE.2.2.1)) (aEv.mono (Tf254 (by omega) (g + 1997) hE.2.2.1 (xc kad g) _ e1) (fun r S1 h => h)) ?_
      exact go_ret (v := none) aMi183 (q := (.return_, 1)) rfl rfl ⟨rfl, rfl⟩
    obtain ⟨n, r, S1, h1, h2, h3⟩ := hrun
    have := aRun_ok l hl0 kad n d 183 _ _ S1 r aM183 aMi183 h1
    rw [h2, h3] at this
    exact this
end MODC
