/-! walking on the abstract machine -/
section GO
variable {kad : Nat → Nat} {d mi : Nat} {f f1 : AFr} {S : ASt} {Q : ARes → ASt → Prop} {y : AMeth} {q : Instr × Nat}
theorem aRun_mono (kad : Nat → Nat) : ∀ (n m d mi : Nat) (f : AFr) (S : ASt) (x : ARes × ASt), n ≤ m → aRun kad n d mi f S = some x → aRun kad m d mi f S = some x := by
  intro n
  induction n with
  | zero => intro m d mi f S x _ h; cases h
  | succ n ih =>
    intro m d mi f S x hm h
    obtain ⟨m, rfl⟩ : ∃ k, m = k + 1 := ⟨m - 1, by omega⟩
    have hm : n ≤ m := by omega
    unfold aRun at h ⊢
    split at h
    · cases h
    · rename_i y hy
      try rw [hy]
      try dsimp only
      split at h
      · cases h
      · rename_i q hq
        try rw [hq]
        try dsimp only
        split at h
        · rename_i v hv
          try rw [hv]
          exact h
        · rename_i hv
          try rw [hv]
          try dsimp only
          split at h
          · rename_i f1 hf1
            try rw [hf1]
            exact ih m d mi f1 S x hm h
          · rename_i hf1
            try rw [hf1]
            try dsimp only
            split at h
            · rename_i z hz
              try rw [hz]
              exact ih m d mi z.1 z.2 x hm h
            · rename_i hz
              try rw [hz]
              try dsimp only
              split at h
              · rename_i z hz1
                try rw [hz1]
                exact ih m d mi z.1 z.2 x hm h
              · rename_i hz1
                try rw [hz1]
                try dsimp only
                split at h
                · rename_i E hE
                  try rw [hE]
                  exact h
                · rename_i hE
                  try rw [hE]
                  try dsimp only
                  split at h
                  · rename_i hc
                    try rw [hc]
                    try dsimp only
                    split at h
                    · cases h
                    · rename_i c hc1
                      try rw [hc1]
                      try dsimp only
                      split at h
                      · cases h
                      · rename_i w hw
                        try rw [hw]
                        try dsimp only
                        split at h
                        · cases h
                        · cases h
                        · rename_i d2
                          try dsimp only
                          split at h
                          · cases h
                          · rename_i u hr
                            rw [ih m d2 w.1 _ S _ hm hr]
                            dsimp only
                            split at h
                            · cases h
                            · rename_i x1 hx1
                              try rw [hx1]
                              exact ih m _ mi _ u.2 x hm h
                  · rename_i c hc
                    try rw [hc]
                    try dsimp only
                    split at h
                    · cases h
                    · rename_i d1
                      try dsimp only
                      split at h
                      · cases h
                      · rename_i E S1 hr
                        rw [ih m d1 c.1 _ S _ hm hr]
                        exact h
                      · rename_i v S1 hr
                        rw [ih m d1 c.1 _ S _ hm hr]
                        exact ih m _ mi _ S1 x hm h
def aGo (kad : Nat → Nat) (d mi : Nat) (f : AFr) (S : ASt) (Q : ARes → ASt → Prop) : Prop := ∃ (n : Nat) (r : ARes) (S1 : ASt), aRun kad n d mi f S = some (r, S1) ∧ Q r S1
/-- a method, from its first frame -/
def aEv (kad : Nat → Nat) (d mi : Nat) (argv : List Value) (S : ASt) (Q : ARes → ASt → Prop) : Prop := aGo kad d mi (0, (lv_args 0 argv, [])) S Q
theorem aGo.mono {Q' : ARes → ASt → Prop} (h : aGo kad d mi f S Q) (hQ : ∀ r S1, Q r S1 → Q' r S1) : aGo kad d mi f S Q' := by
  obtain ⟨n, r, S1, h1, h2⟩ := h
  exact ⟨n, r, S1, h1, hQ r S1 h2⟩
theorem aEv.mono {argv : List Value} {Q' : ARes → ASt → Prop} (h : aEv kad d mi argv S Q) (hQ : ∀ r S1, Q r S1 → Q' r S1) : aEv kad d mi argv S Q' := aGo.mono h hQ
theorem go_op (hy : aMS[mi]? = some y) (hq : aFind (aPs y) f.1 = some q) (hr : aRet (aRt y) q.1 f.2.2 = none) (ho : aOp (aNl y) q.1 f.1 f.2.1 f.2.2 = some f1) (k : aGo kad d mi f1 S Q) : aGo kad d mi f S Q := by
  obtain ⟨n, r, S1, h1, h2⟩ := k
  refine ⟨n + 1, r, S1, ?_, h2⟩
  unfold aRun
  rw [hy]
  dsimp only
  rw [hq]
  dsimp only
  rw [hr]
  dsimp only
  rw [ho]
  exact h1
theorem go_ops (hy : aMS[mi]? = some y) : ∀ (k : Nat) (f : AFr), aOpsN y k f = some f1 → aGo kad d mi f1 S Q → aGo kad d mi f S Q := by
  intro k
  induction k with
  | zero => intro f h g; cases h; exact g
  | succ k ih =>
    intro f h g
    unfold aOpsN at h
    split at h
    · cases h
    · rename_i q hq
      split at h
      · cases h
      · rename_i hr
        split at h
        · cases h
        · rename_i f2 ho
          exact go_op hy hq hr ho (ih f2 h g)
theorem go_mo {z : AFr × ASt} (hy : aMS[mi]? = some y) (hq : aFind (aPs y) f.1 = some q) (hr : aRet (aRt y) q.1 f.2.2 = none) (ho : aOp (aNl y) q.1 f.1 f.2.1 f.2.2 = none) (hm : aMo y q.1 f S = some z) (k : aGo kad d mi z.1 z.2 Q) : aGo kad d mi f S Q := by
  obtain ⟨n, r, S1, h1, h2⟩ := k
  refine ⟨n + 1, r, S1, ?_, h2⟩
  unfold aRun
  rw [hy]
  dsimp only
  rw [hq]
  dsimp only
  rw [hr]
  dsimp only
  rw [ho]
  dsimp only
  rw [hm]
  exact h1
theorem go_ex {z : AFr × ASt} (hy : aMS[mi]? = some y) (hq : aFind (aPs y) f.1 = some q) (hr : aRet (aRt y) q.1 f.2.2 = none) (ho : aOp (aNl y) q.1 f.1 f.2.1 f.2.2 = none) (hm : aMo y q.1 f S = none) (he : aEx kad y q.1 f S = some z) (k : aGo kad d mi z.1 z.2 Q) : aGo kad d mi f S Q := by
  obtain ⟨n, r, S1, h1, h2⟩ := k
  refine ⟨n + 1, r, S1, ?_, h2⟩
  unfold aRun
  rw [hy]
  dsimp only
  rw [hq]
  dsimp only
  rw [hr]
  dsimp only
  rw [ho]
  dsimp only
  rw [hm]
  dsimp only
  rw [he]
  exact h1
theorem go_thr {E : String} (hy : aMS[mi]? = some y) (hq : aFind (aPs y) f.1 = some q) (hr : aRet (aRt y) q.1 f.2.2 = none) (ho : aOp (aNl y) q.1 f.1 f.2.1 f.2.2 = none) (hm : aMo y q.1 f S = none) (he : aEx kad y q.1 f S = none) (ht : aThr q.1 mi f.1 f.2.2 = some E) (k : Q (.inr E) (S.1, (none, (S.2.2.1 + 1, S.2.2.2 + 6)))) : aGo kad d mi f S Q := by
  refine ⟨1, .inr E, _, ?_, k⟩
  unfold aRun
  rw [hy]
  dsimp only
  rw [hq]
  dsimp only
  rw [hr]
  dsimp only
  rw [ho]
  dsimp only
  rw [hm]
  dsimp only
  rw [he]
  dsimp only
  rw [ht]
theorem go_ret {v : Option Value} (hy : aMS[mi]? = some y) (hq : aFind (aPs y) f.1 = some q) (hr : aRet (aRt y) q.1 f.2.2 = some v) (k : Q (.inl v) S) : aGo kad d mi f S Q := by
  refine ⟨1, .inl v, S, ?_, k⟩
  unfold aRun
  rw [hy]
  dsimp only
  rw [hq]
  dsimp only
  rw [hr]
theorem go_call {c : Nat × (Nat × (List Value × List Value))} (hy : aMS[mi]? = some y) (hq : aFind (aPs y) f.1 = some q) (hr : aRet (aRt y) q.1 f.2.2 = none) (ho : aOp (aNl y) q.1 f.1 f.2.1 f.2.2 = none) (hm : aMo y q.1 f S = none) (he : aEx kad y q.1 f S = none) (ht : aThr q.1 mi f.1 f.2.2 = none) (hc : aCall y q.1 f.2.2 S.1 = some c) (hd : 0 < d) (hk : c.2.1 < 2)
    (k : aEv kad (d - 1) c.1 c.2.2.1 S (fun r S1 => match r with
      | .inl v => aGo kad d mi (f.1 + 3, (f.2.1, v.toList ++ c.2.2.2)) S1 Q
      | .inr E => Q (.inr E) S1)) : aGo kad d mi f S Q := by
  obtain ⟨d1, rfl⟩ : ∃ k, d = k + 1 := ⟨d - 1, by omega⟩
  rw [Nat.add_sub_cancel] at k
  obtain ⟨n, r, S1, h1, h2⟩ := k
  have go : ∀ n' (x : ARes × ASt), n ≤ n' → (match r with | .inl v => aRun kad n' (d1 + 1) mi (f.1 + 3, (f.2.1, v.toList ++ c.2.2.2)) S1 | .inr E => some (.inr E, S1)) = some x → aRun kad (n' + 1) (d1 + 1) mi f S = some x := by
    intro n' x hn hx
    have h1' := aRun_mono kad n n' d1 c.1 _ S _ hn h1
    unfold aRun
    rw [hy]
    dsimp only
    rw [hq]
    dsimp only
    rw [hr]
    dsimp only
    rw [ho]
    dsimp only
    rw [hm]
    dsimp only
    rw [he]
    dsimp only
    rw [ht]
    dsimp only
    rw [hc]
    dsimp only
    rw [h1']
    cases r with
    | inl v => exact hx
    | inr E =>
      dsimp only
      rw [if_pos hk]
      exact hx
  cases r with
  | inl v =>
    obtain ⟨n2, r2, S2, g1, g2⟩ := h2
    refine ⟨max n n2 + 1, r2, S2, go (max n n2) _ (Nat.le_max_left _ _) ?_, g2⟩
    exact aRun_mono kad n2 (max n n2) _ mi _ S1 _ (Nat.le_max_right _ _) g1
  | inr E => exact ⟨n + 1, .inr E, S1, go n _ (Nat.le_refl _) rfl, h2⟩
theorem go_help {c : Nat × (List Value × List Value)} {w : Nat × (List Value × List Value)} (hy : aMS[mi]? = some y) (hq : aFind (aPs y) f.1 = some q) (hr : aRet (aRt y) q.1 f.2.2 = none) (ho : aOp (aNl y) q.1 f.1 f.2.1 f.2.2 = none) (hm : aMo y q.1 f S = none) (he : aEx kad y q.1 f S = none) (ht : aThr q.1 mi f.1 f.2.2 = none) (hc0 : aCall y q.1 f.2.2 S.1 = none) (hc : aHcl y q.1 f.2.2 = some c) (hw : aHca c.1 c.2.1 S.1 = some w) (hd : 2 ≤ d)
    (k : aEv kad (d - 2) w.1 w.2.1 S (fun r S1 => ∃ x, aHre c.1 c.2.1 w.2.2 r = some x ∧ aGo kad d mi (f.1 + 3, (f.2.1, .int x :: c.2.2)) S1 Q)) : aGo kad d mi f S Q := by
  obtain ⟨d1, rfl⟩ : ∃ k, d = k + 2 := ⟨d - 2, by omega⟩
  rw [Nat.add_sub_cancel] at k
  obtain ⟨n, r, S1, h1, x, h2, n2, r2, S2, g1, g2⟩ := k
  refine ⟨max n n2 + 1, r2, S2, ?_, g2⟩
  have h1' := aRun_mono kad n (max n n2) d1 w.1 _ S _ (Nat.le_max_left _ _) h1
  have g1' := aRun_mono kad n2 (max n n2) _ mi _ S1 _ (Nat.le_max_right _ _) g1
  unfold aRun
  rw [hy]
  dsimp only
  rw [hq]
  dsimp only
  rw [hr]
  dsimp only
  rw [ho]
  dsimp only
  rw [hm]
  dsimp only
  rw [he]
  dsimp only
  rw [ht]
  dsimp only
  rw [hc0]
  dsimp only
  rw [hc]
  dsimp only
  rw [hw]
  dsimp only
  rw [h1']
  dsimp only
  rw [h2]
  exact g1'
end GO
