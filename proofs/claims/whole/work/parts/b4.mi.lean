/-! class and model: what they have in common between two calls -/
def miS (g m : Nat) (I J : AI) : Prop := ∃ n L, LI n L ∧ CSr n (g + 1) L I ∧ MSr n m L J
def miB (g : Nat) (I : AI) : Prop := ∀ q, q < 5 → I (g + 1 + 5) q = 0
def miI (g m : Nat) (I J : AI) : Prop := (I g 2 = 0 ∨ I g 2 = 1) ∧ J m 22 = I g 2 ∧ ∀ k, k < 256 → wd (I (g + 113) k) ∧ J (m + 14) k = I (g + 113) k
def miF (g m : Nat) (I J : AI) : Prop := ∃ q K D W, okK q K ∧ DK D ∧ CF g K D W I ∧ MF m K D W J
def miN (g m : Nat) (I J : AI) : Prop := ∃ q K M D W s kc, (okK q K ∧ (∀ k, k < q → wd (K 11 k)) ∧ (∀ k, k < 256 → wd (M k)) ∧ (D 0 = 0 ∧ WF D)) ∧ Gd q K (wake M D W) s kc ∧ (CG g K (wake M D W) s kc I ∧ CS g M D I) ∧ (MG m K (wake M D W) s kc J ∧ MS m M D W J)
def miM (g m : Nat) (I J : AI) : Prop := miF g m I J ∨ miN g m I J
def miT (g m : Nat) (I J : AI) : Prop := ∃ n T, TI n T ∧ CT g T I ∧ MT m T J
def MIr (g m : Nat) (I J : AI) : Prop := (miS g m I J ∧ miB g I) ∧ miI g m I J ∧ miM g m I J ∧ miT g m I J
/-- the class's cells, the model's -/
def frG (g : Nat) (I J : AI) : Prop := ∀ b, ¬ (g ≤ b ∧ b < g + 1997) → J b = I b
def frH (m : Nat) (I J : AI) : Prop := ∀ b, ¬ (m ≤ b ∧ b < m + 43) → J b = I b
section MIS
variable {g m q s kc n : Nat} {I J I' J' K B X T : AI} {M D : Nat → Int32} {W v : Int32}
theorem frG.refl : frG g I I := fun _ _ => rfl
theorem frH.refl : frH m I I := fun _ _ => rfl
theorem frG.trans {Q : AI} (h : frG g I J) (h2 : frG g J Q) : frG g I Q := fun b hb => (h2 b hb).trans (h b hb)
theorem frH.trans {Q : AI} (h : frH m I J) (h2 : frH m J Q) : frH m I Q := fun b hb => (h2 b hb).trans (h b hb)
theorem frH.up {b j : Nat} (h : m ≤ b ∧ b < m + 43) : frH m I (up2 I b j v) := fun c hc => up2_b (by omega)
theorem frG.up {b j : Nat} (h : g ≤ b ∧ b < g + 1997) : frG g I (up2 I b j v) := fun c hc => up2_b (by omega)
theorem TX.rng {b j : Nat} (h : TX m b j) : m ≤ b ∧ b < m + 43 ∧ (b = m → ¬ j = 0 ∧ ¬ j = 1 ∧ ¬ (14 ≤ j ∧ j ≤ 22) ∧ ¬ (58 ≤ j ∧ j ≤ 60)) ∧ ¬ (m + 1 ≤ b ∧ b ≤ m + 14) ∧ ¬ (m + 28 ≤ b) := by
  rcases h with h | h | h
  · rcases h with h | h
    · obtain ⟨h1, h2⟩ := h
      subst h1
      refine ⟨by omega, by omega, fun _ => by omega, by omega, by omega⟩
    · refine ⟨by omega, by omega, fun hh => by omega, by omega, by omega⟩
  · obtain ⟨h1, h2⟩ := h
    subst h1
    refine ⟨by omega, by omega, fun _ => by omega, by omega, by omega⟩
  · refine ⟨by omega, by omega, fun hh => by omega, by omega, by omega⟩
theorem frMX.h (h : frMX m I J) : frH m I J := fun b hb => funext fun j => h b j (fun hh => hb ⟨hh.rng.1, hh.rng.2.1⟩)
theorem frX.h (h : frX g I J) : frG g I J := fun b hb => h.1 b (by omega) (by omega) (by omega)
/-- the model's machine, where its cells are the same -/
theorem TX_mA {c k : Nat} (hc : mC c) (hk : c = 1 → k < 14) : TX m (mA m c) (mK c k) := by
  have hW : ∀ b j, (15 ≤ b ∧ b ≤ 17) ∨ (20 ≤ b ∧ b ≤ 25) → TX m (m + b) j := fun b j h => Or.inl (Or.inr (by omega))
  unfold mC at hc
  rcases hc with rfl | rfl | rfl | rfl | rfl | rfl | rfl | rfl | rfl | rfl | rfl | rfl
  · have : mF k = 23 ∨ mF k = 24 ∨ (27 ≤ mF k ∧ mF k ≤ 35) ∨ (37 ≤ mF k ∧ mF k ≤ 39) := (mF_rng ⟨k, hk rfl⟩).2.2.2.2.2
    exact Or.inl (Or.inl ⟨rfl, show mF k = 23 ∨ mF k = 24 ∨ (27 ≤ mF k ∧ mF k ≤ 35) ∨ (37 ≤ mF k ∧ mF k ≤ 39) ∨ mF k = 46 ∨ mF k = 47 ∨ mF k = 52 by omega⟩)
  · exact hW 16 k (by omega)
  · exact hW 22 k (by omega)
  · exact hW 23 k (by omega)
  · exact hW 15 k (by omega)
  · exact hW 17 k (by omega)
  · exact Or.inl (Or.inl ⟨rfl, show 52 = 23 ∨ 52 = 24 ∨ (27 ≤ 52 ∧ 52 ≤ 35) ∨ (37 ≤ 52 ∧ 52 ≤ 39) ∨ 52 = 46 ∨ 52 = 47 ∨ 52 = 52 by omega⟩)
  · exact hW 24 k (by omega)
  · exact Or.inr (Or.inl ⟨rfl, show 43 = 40 ∨ 43 = 43 ∨ 43 = 55 by omega⟩)
  · exact Or.inr (Or.inr (show m + 19 = m + 18 ∨ m + 19 = m + 19 ∨ m + 19 = m + 26 ∨ m + 19 = m + 27 by omega))
  · exact Or.inr (Or.inr (show m + 18 = m + 18 ∨ m + 18 = m + 19 ∨ m + 18 = m + 26 ∨ m + 18 = m + 27 by omega))
  · exact hW 25 k (by omega)
theorem ML.cong (H : ML m J X) (h : ∀ b j, TX m b j → J' b j = J b j) : ML m J' X := by
  obtain ⟨h1, h2, h3⟩ := H
  refine ⟨fun c k hc hr => ?_, ?_, fun hh => ?_⟩
  · rw [h _ _ (TX_mA hc (fun e => by subst e; exact hr))]
    exact h1 c k hc hr
  · rw [h m 46 (Or.inl (Or.inl ⟨rfl, by omega⟩))]; exact h2
  · rw [h m 47 (Or.inl (Or.inl ⟨rfl, by omega⟩))]; exact h3 hh
theorem MF.cong (H : MF m K D W J) (h : ∀ b j, TX m b j → J' b j = J b j) : MF m K D W J' := ⟨H.1.cong h, by rw [h m 40 (Or.inr (Or.inl ⟨rfl, Or.inl rfl⟩))]; exact H.2⟩
theorem MG.cong (H : MG m K B s kc J) (h : ∀ b j, TX m b j → J' b j = J b j) : MG m K B s kc J' := by
  refine ⟨H.1.cong h, fun j hj => ?_, by rw [h m 40 (Or.inr (Or.inl ⟨rfl, Or.inl rfl⟩))]; exact H.2.2⟩
  rw [h (m + 20) j (Or.inl (Or.inr (by omega))), h (m + 21) j (Or.inl (Or.inr (by omega)))]
  exact H.2.1 j hj
theorem MS.cong (H : MS m M D W J) (h : ∀ b j, TX m b j → J' b j = J b j) : MS m M D W J' := by
  refine ⟨fun k hk => ?_, by rw [h m 55 (Or.inr (Or.inl ⟨rfl, Or.inr (Or.inr rfl)⟩))]; exact H.2⟩
  rw [h (m + 26) k (Or.inr (Or.inr (by omega))), h (m + 27) k (Or.inr (Or.inr (by omega)))]
  exact H.1 k hk
theorem CF.cong (H : CF g K D W I) (h5 : I' g 5 = I g 5) (h : ∀ b, g + 114 < b → b < g + 131 → I' b = I b) : CF g K D W I' := ⟨H.1.cong (fun b h1 h2 => h b h1 h2), by rw [h5]; exact H.2⟩
theorem CG.cong5 (H : CG g K B s kc I) (h5 : I' g 5 = I g 5) (h : ∀ b, g + 114 < b → b < g + 131 → I' b = I b) (hk : ∀ b, g + 182 ≤ b → b < g + 1982 → I' b = I b) : CG g K B s kc I' := ⟨H.1.cong (fun b h1 h2 => h b h1 h2), by rw [h5]; exact H.2.1, fun j h1 h2 => (H.2.2 j h1 h2).cong (fun b h3 h4 => hk b (by omega) (by have := Nat.mod_lt j (show 0 < 200 by decide); omega))⟩
theorem CS.cong (H : CS g M D I) (h1 : I' (g + 141) = I (g + 141)) (h2 : I' (g + 142) = I (g + 142)) : CS g M D I' := fun k hk => by
  rw [h1, h2]
  exact H k hk
theorem miM.cong (H : miM g m I J) (h5 : I' g 5 = I g 5) (hc : ∀ b, g + 114 < b → b < g + 131 → I' b = I b) (hs : I' (g + 141) = I (g + 141) ∧ I' (g + 142) = I (g + 142)) (hk : ∀ b, g + 182 ≤ b → b < g + 1982 → I' b = I b) (hm : ∀ b j, TX m b j → J' b j = J b j) : miM g m I' J' := by
  rcases H with ⟨q, K, D, W, a1, a2, a3, a4⟩ | ⟨q, K, M, D, W, s, kc, a1, a2, ⟨a3, a4⟩, a5, a6⟩
  · exact Or.inl ⟨q, K, D, W, a1, a2, a3.cong h5 hc, a4.cong hm⟩
  · exact Or.inr ⟨q, K, M, D, W, s, kc, a1, a2, ⟨a3.cong5 h5 hc hk, a4.cong hs.1 hs.2⟩, a5.cong hm, a6.cong hm⟩
theorem miS.cong (H : miS g m I J) (h0 : I' (g + 1) 0 = I (g + 1) 0) (h1 : ∀ i, i < 100 → I' (g + 1 + (12 + i)) = I (g + 1 + (12 + i))) (m1 : J' m 1 = J m 1) (m2 : J' (m + 1) = J (m + 1)) (m3 : J' (m + 2) = J (m + 2)) : miS g m I' J' := by
  obtain ⟨n, L, a1, a2, a3⟩ := H
  exact ⟨n, L, a1, a2.o h0 (fun i hi => h1 i (by have := a1.1; omega)), a3.o m1 m2 m3⟩
theorem miI.cong (H : miI g m I J) (h2 : I' g 2 = I g 2) (h3 : I' (g + 113) = I (g + 113)) (m2 : J' m 22 = J m 22) (m3 : J' (m + 14) = J (m + 14)) : miI g m I' J' := by
  unfold miI
  rw [h2, h3, m2, m3]
  exact H
theorem CT.cong (H : CT g T I) (h0 : I' g 12 = I g 12) (h1 : ∀ b, g + 178 ≤ b → b < g + 181 → I' b = I b) (h2 : ∀ b, g + 1982 ≤ b → b < g + 1997 → I' b = I b) : CT g T I' := by
  obtain ⟨⟨a1, a2, a3⟩, b, c⟩ := H
  refine ⟨⟨by rw [h0]; exact a1, by rw [h1 _ (by omega) (by omega)]; exact a2, by rw [h1 _ (by omega) (by omega)]; exact a3⟩, fun k hk => ?_, fun t ht => (c t ht).cong (fun b h3 h4 => h2 b (by omega) (by omega))⟩
  rw [h1 _ (by omega) (by omega), h1 _ (by omega) (by omega)]
  exact b k hk
theorem miT.cong (H : miT g m I J) (h0 : I' g 12 = I g 12) (h1 : ∀ b, g + 178 ≤ b → b < g + 181 → I' b = I b) (h2 : ∀ b, g + 1982 ≤ b → b < g + 1997 → I' b = I b) (hm : ∀ b j, (m + 28 ≤ b ∧ b ≤ m + 39) ∨ (b = m ∧ (j = 58 ∨ j = 59 ∨ j = 60)) → J' b j = J b j) : miT g m I' J' := by
  obtain ⟨n, T, a1, a2, a3⟩ := H
  exact ⟨n, T, a1, a2.cong h0 h1 h2, a3.fr hm⟩
/-- both sides elsewhere -/
theorem MIr.cong (H : MIr g m I J) (hc : ∀ b, g ≤ b → b < g + 1997 → I' b = I b) (hm : ∀ b, m ≤ b → b < m + 43 → J' b = J b) : MIr g m I' J' := by
  obtain ⟨⟨a1, a2⟩, b, c, d⟩ := H
  refine ⟨⟨a1.cong ?_ (fun i hi => hc _ (by omega) (by omega)) ?_ (hm _ (by omega) (by omega)) (hm _ (by omega) (by omega)), fun q hq => ?_⟩, b.cong ?_ (hc _ (by omega) (by omega)) ?_ (hm _ (by omega) (by omega)), c.cong ?_ (fun b h1 h2 => hc _ (by omega) (by omega)) ⟨hc _ (by omega) (by omega), hc _ (by omega) (by omega)⟩ (fun b h1 h2 => hc _ (by omega) (by omega)) (fun b j h => ?_), d.cong ?_ (fun b h1 h2 => hc _ (by omega) (by omega)) (fun b h1 h2 => hc _ (by omega) (by omega)) (fun b j h => ?_)⟩
  · rw [hc _ (by omega) (by omega)]
  · rw [hm _ (by omega) (by omega)]
  · rw [hc _ (by omega) (by omega)]; exact a2 q hq
  · rw [hc _ (by omega) (by omega)]
  · rw [hm _ (by omega) (by omega)]
  · rw [hc _ (by omega) (by omega)]
  · rw [hm _ h.rng.1 h.rng.2.1]
  · rw [hc _ (by omega) (by omega)]
  · rw [hm _ (by omega) (by omega)]
/-- a machine's call -/
theorem MIr.mach (H : MIr g m I J) (hc : frX g I I') (hm : frMX m (up2 J m 0 v) J') (hM : miM g m I' J') : MIr g m I' J' := by
  obtain ⟨⟨a1, a2⟩, b, c, d⟩ := H
  have hm' : ∀ b j, ¬ TX m b j → ¬ (b = m ∧ j = 0) → J' b j = J b j := fun b j h1 h2 => (hm b j h1).trans (up2_ne h2)
  have hb : ∀ b, ¬ b = m → (m + 1 ≤ b ∧ b ≤ m + 14) ∨ m + 28 ≤ b → J' b = J b := fun b h1 h2 => funext fun j => hm' b j (fun hh => by have := hh.rng; omega) (by omega)
  have hf : ∀ j, j = 1 ∨ (14 ≤ j ∧ j ≤ 22) ∨ (58 ≤ j ∧ j ≤ 60) → J' m j = J m j := fun j hj => hm' m j (fun hh => by have := hh.rng.2.2.1 rfl; omega) (by omega)
  refine ⟨⟨a1.cong (congrFun (hc.1 _ (by omega) (by omega) (by omega)) 0) (fun i hi => hc.1 _ (by omega) (by omega) (by omega)) (hf 1 (by omega)) (hb _ (by omega) (by omega)) (hb _ (by omega) (by omega)), fun q hq => ?_⟩, b.cong (hc.2 2 (by decide)) (hc.1 _ (by omega) (by omega) (by omega)) (hf 22 (by omega)) (hb _ (by omega) (by omega)), hM, d.cong (hc.2 12 (by decide)) (fun b h1 h2 => hc.1 _ (by omega) (by omega) (by omega)) (fun b h1 h2 => hc.1 _ (by omega) (by omega) (by omega)) (fun b j h => ?_)⟩
  · rw [hc.1 _ (by omega) (by omega) (by omega)]; exact a2 q hq
  · rcases h with h | h
    · exact congrFun (hb b (by omega) (by omega)) j
    · rw [h.1]; exact hf j (by omega)
/-- what is thrown -/
theorem MIr.th (H : MIr g m I J) : MIr g m I (up2 J m 0 v) := by
  refine H.mach frC.rfl'.x frM.rfl'.x (H.2.2.1.cong rfl (fun _ _ _ => rfl) ⟨rfl, rfl⟩ (fun _ _ _ => rfl) (fun b j h => up2_ne (fun hh => ?_)))
  have := h.rng.2.2.1 hh.1
  omega
/-- a test's call -/
theorem MIr.test (H : MIr g m I J) (hc : frCT g I I') (hm : frMT m (up2 J m 0 v) J') (hT : miT g m I' J') : MIr g m I' J' := by
  obtain ⟨⟨a1, a2⟩, b, c, d⟩ := H
  have hm' : ∀ b j, ¬ (b = m ∧ (j = 58 ∨ j = 59 ∨ j = 60)) → ¬ (m + 28 ≤ b ∧ b ≤ m + 39) → ¬ (b = m ∧ j = 0) → J' b j = J b j := fun b j h1 h2 h3 => (hm b j h1 h2).trans (up2_ne h3)
  have hb : ∀ b, ¬ b = m → ¬ (m + 28 ≤ b ∧ b ≤ m + 39) → J' b = J b := fun b h1 h2 => funext fun j => hm' b j (by omega) h2 (by omega)
  refine ⟨⟨a1.cong (congrFun (hc.1 _ (by omega) (by omega) (by omega)) 0) (fun i hi => hc.1 _ (by omega) (by omega) (by omega)) (hm' m 1 (by omega) (by omega) (by omega)) (hb _ (by omega) (by omega)) (hb _ (by omega) (by omega)), fun q hq => ?_⟩, b.cong (hc.2 2 (by decide)) (hc.1 _ (by omega) (by omega) (by omega)) (hm' m 22 (by omega) (by omega) (by omega)) (hb _ (by omega) (by omega)), c.cong (hc.2 5 (by decide)) (fun b h1 h2 => hc.1 _ (by omega) (by omega) (by omega)) ⟨hc.1 _ (by omega) (by omega) (by omega), hc.1 _ (by omega) (by omega) (by omega)⟩ (fun b h1 h2 => hc.1 _ (by omega) (by omega) (by omega)) (fun b j h => ?_), hT⟩
  · rw [hc.1 _ (by omega) (by omega) (by omega)]; exact a2 q hq
  · have := h.rng
    exact hm' b j (by omega) (by omega) (by omega)
/-- a source's call -/
theorem MIr.src (H : MIr g m I J) (hc : frCL g I I') (hm : frML m (up2 J m 0 v) J') (hS : miS g m I' J') : MIr g m I' J' := by
  obtain ⟨⟨a1, a2⟩, b, c, d⟩ := H
  have hm' : ∀ b j, ¬ (b = m ∧ (j = 0 ∨ j = 1)) → ¬ (b = m + 1 ∨ b = m + 2) → J' b j = J b j := fun b j h1 h2 => (hm b j (by omega) h2).trans (up2_ne (by omega))
  have hb : ∀ b, ¬ b = m → ¬ (b = m + 1 ∨ b = m + 2) → J' b = J b := fun b h1 h2 => funext fun j => hm' b j (by omega) h2
  refine ⟨⟨hS, fun q hq => ?_⟩, b.cong ?_ (hc _ (by omega)) (hm' m 22 (by omega) (by omega)) (hb _ (by omega) (by omega)), c.cong ?_ (fun b h1 h2 => hc _ (by omega)) ⟨hc _ (by omega), hc _ (by omega)⟩ (fun b h1 h2 => hc _ (by omega)) (fun b j h => ?_), d.cong ?_ (fun b h1 h2 => hc _ (by omega)) (fun b h1 h2 => hc _ (by omega)) (fun b j h => ?_)⟩
  · rw [hc _ (by omega)]; exact a2 q hq
  · rw [hc _ (by omega)]
  · rw [hc _ (by omega)]
  · have := h.rng
    exact hm' b j (by omega) (by omega)
  · rw [hc _ (by omega)]
  · exact hm' b j (by omega) (by omega)
/-- the source's error is looked for -/
theorem MIr.err (H : MIr g m I J) (hc : asH (g + 1) I I') (hm : asJ m (up2 J m 0 v) J') : MIr g m I' J' := by
  obtain ⟨⟨a1, a2⟩, b, c, d⟩ := H
  obtain ⟨hc1, hc2, hc3⟩ := hc
  have hm' : ∀ b j, ¬ (b = m ∧ (j = 0 ∨ (14 ≤ j ∧ j ≤ 19))) → ¬ (m + 3 ≤ b ∧ b ≤ m + 13) → J' b j = J b j := fun b j h1 h2 => (hm b j (by omega) h2).trans (up2_ne (by omega))
  have hb : ∀ b, ¬ b = m → ¬ (m + 3 ≤ b ∧ b ≤ m + 13) → J' b = J b := fun b h1 h2 => funext fun j => hm' b j (by omega) h2
  refine ⟨⟨a1.cong (hc2 0 (by decide)) (fun i hi => hc1 _ (by omega)) (hm' m 1 (by omega) (by omega)) (hb _ (by omega) (by omega)) (hb _ (by omega) (by omega)), fun q hq => (hc3 q hq).trans (a2 q hq)⟩, b.cong ?_ (hc1 _ (by omega)) (hm' m 22 (by omega) (by omega)) (hb _ (by omega) (by omega)), c.cong ?_ (fun b h1 h2 => hc1 _ (by omega)) ⟨hc1 _ (by omega), hc1 _ (by omega)⟩ (fun b h1 h2 => hc1 _ (by omega)) (fun b j h => ?_), d.cong ?_ (fun b h1 h2 => hc1 _ (by omega)) (fun b h1 h2 => hc1 _ (by omega)) (fun b j h => ?_)⟩
  · rw [hc1 _ (by omega)]
  · rw [hc1 _ (by omega)]
  · have := h.rng
    exact hm' b j (by omega) (by omega)
  · rw [hc1 _ (by omega)]
  · exact hm' b j (by omega) (by omega)
end MIS
