/-! the tests' calls, in both -/
section OTs
variable {kad : Nat → Nat} {N : Nat} {Z : AZ} {g m n : Nat} {I J I' J' T : AI} {v i a b c d : Int32}
theorem frCT.h (h : frCT g I I') : frG g I I' := fun b hb => h.1 b (by omega) (by omega) (by omega)
theorem frMT.h0 (h : frMT m (up2 J m 0 v) J') : frH m J J' := fun b hb => funext fun j => (h b j (by omega) (by omega)).trans (up2_ne (by omega))
theorem frMT.th (h : frMT m (up2 J m 0 v) J') : J' m 0 = v := by rw [h m 0 (by omega) (by omega), up2_eq]
theorem OUT.got (H : MIr g m I J) {es : List Nat} {cls : Option ((Int32 ⊕ String) × AI)} {mdl : Option (Int32 × AI)} {x : Int32 ⊕ String} {y : Int32} (e1 : cls = some (x, I')) (hx : x = rx es 0 v) (e2 : mdl = some (y, J')) (hy : y = v) (hc : frCT g I I') (hm : frMT m (up2 J m 0 0) J') (hM : miT g m I' J') : OUT g m es I J cls mdl := by
  subst hx
  exact ⟨0, v, y, I', J', Nat.zero_le _, e1, e2, fun _ => hy, hm.th, hc.h, hm.h0, H.test hc hm hM⟩
theorem O176 (H : MIr g m I J) : OUT g m [0, 1] I J (f176 kad N Z g i I) (f296 kad N Z m i J) := by
  obtain ⟨n, T, t1, t2, t3⟩ := H.2.2.2
  obtain ⟨x, I', e1, h1, h2⟩ := K176 (kad := kad) (N := N) (Z := Z) t1 t2 i
  obtain ⟨y, J', f1, k1, k2⟩ := M296 (kad := kad) (N := N) (Z := Z) t1 t3 i
  by_cases hb : bad i 0 65535
  · exact OUT.no H (th := 1) (by decide) (by decide) e1 (h1 hb) f1 (k1 hb)
  · obtain ⟨h3, h4⟩ := h2 hb
    obtain ⟨k3, k4⟩ := k2 hb
    by_cases h6 : T 9 1 = 6
    · exact OUT.no H (th := 2) (by decide) (by decide) e1 (h3 h6) f1 (k3 h6)
    · obtain ⟨x1, x2, x3⟩ := h4 h6
      obtain ⟨y1, y2, y3⟩ := k4 h6
      exact OUT.got H e1 x1 f1 y1 x3 y3 ⟨n, _, t1.key h6 (wd_bad hb), x2, y2⟩
theorem O177 (H : MIr g m I J) : OUT g m [0, 1] I J (f177 kad N Z g i I) (f297 kad N Z m i J) := by
  obtain ⟨n, T, t1, t2, t3⟩ := H.2.2.2
  obtain ⟨x, I', e1, h1, h2⟩ := K177 (kad := kad) (N := N) (Z := Z) t1 t2 i
  obtain ⟨y, J', f1, k1, k2⟩ := M297 (kad := kad) (N := N) (Z := Z) t1 t3 i
  by_cases hb : bad i 0 65535
  · exact OUT.no H (th := 1) (by decide) (by decide) e1 (h1 hb) f1 (k1 hb)
  · obtain ⟨h3, h4⟩ := h2 hb
    obtain ⟨k3, k4⟩ := k2 hb
    by_cases h6 : T 9 2 = 6
    · exact OUT.no H (th := 2) (by decide) (by decide) e1 (h3 h6) f1 (k3 h6)
    · obtain ⟨x1, x2, x3⟩ := h4 h6
      obtain ⟨y1, y2, y3⟩ := k4 h6
      exact OUT.got H e1 x1 f1 y1 x3 y3 ⟨n, _, t1.word h6 (wd_bad hb), x2, y2⟩
theorem upto_bad {lo hi : Nat} (h : ¬ bad i (Int32.ofNat lo) (Int32.ofNat hi)) (h1 : lo < 2147483648 := by decide) (h2 : hi < 2147483648 := by decide) : upto hi i := by
  obtain ⟨k, e, e1, e2, e3⟩ := bad_nat h h1 h2
  exact ⟨k, e, e3⟩
theorem O178 (hE : miE kad N Z g m) (H : MIr g m I J) : OUT g m [0, 1] I J (f178 kad N Z g a b c d I) (f298 kad N Z m a b c d J) := by
  obtain ⟨n, T, t1, t2, t3⟩ := H.2.2.2
  obtain ⟨x, I', e1, h1, h2⟩ := K178 (kad := kad) (N := N) (Z := Z) t1 t2 a b c d
  obtain ⟨y, J', f1, k1, k2⟩ := M298 (kad := kad) (N := N) (Z := Z) hE.1 t1 t3 a b c d
  by_cases hb : bad4 a b c d
  · exact OUT.no H (th := 1) (by decide) (by decide) e1 (h1 hb) f1 (k1 hb)
  · obtain ⟨h3, h4⟩ := h2 hb
    obtain ⟨k3, k4⟩ := k2 hb
    by_cases h5 : n = 5
    · exact OUT.no H (th := 2) (by decide) (by decide) e1 (h3 h5) f1 (k3 h5)
    · have hn5 : n < 5 := by have := t1.1.2; omega
      obtain ⟨x1, x2, x3⟩ := h4 hn5
      obtain ⟨y1, y2, y3⟩ := k4 hn5
      exact OUT.got H e1 x1 f1 y1 x3 y3 ⟨n + 1, _, t1.add hn5 (upto_bad (lo := 1) (hi := 500) (fun hh => hb (Or.inl hh))) (upto_bad (lo := 0) (hi := 100) (fun hh => hb (Or.inr (Or.inl hh)))) (upto_bad (lo := 1) (hi := 20) (fun hh => hb (Or.inr (Or.inr (Or.inl hh))))) (upto_bad (lo := 0) (hi := 500) (fun hh => hb (Or.inr (Or.inr (Or.inr hh))))), x2, y2⟩
theorem O179 (H : MIr g m I J) : OUQ g m I J (f179 kad N Z g I) (f299 kad N Z m J) := by
  obtain ⟨n, T, t1, t2, t3⟩ := H.2.2.2
  exact OUQ.q H (K179 t2) (M299 t3)
theorem O181 (H : MIr g m I J) : OUT g m [2] I J (f181 kad N Z g i I) (f303 kad N Z m i J) := by
  obtain ⟨n, T, t1, t2, t3⟩ := H.2.2.2
  exact OUT.bd H (by decide) (K181 t1 t2 i) (M303 t1 t3 i)
theorem O182 (hE : miE kad N Z g m) (H : MIr g m I J) : OUQ g m I J (f182 kad N Z g I) (f304 kad N Z m J) := by
  obtain ⟨n, T, t1, t2, t3⟩ := H.2.2.2
  exact OUQ.q H (K182 hE.1 t1 t2) (M304 hE.1 t1 t3)
/-- behind a submission -/
theorem MIr.sub (H : MIr g m I J) (hc : frCS g I I') (hm : frS m (up2 J m 0 v) J') (hM : miM g m I' J') (hT : miT g m I' J') : MIr g m I' J' := by
  obtain ⟨⟨a1, a2⟩, b, c, d⟩ := H
  have hb : ∀ b, (m + 1 ≤ b ∧ b ≤ m + 14) → J' b = J b := fun b h1 => funext fun j => (hm b j (fun hh => by have := hh.rng; omega) (by omega)).trans (up2_ne (by omega))
  have hf : ∀ j, j = 1 ∨ j = 22 → J' m j = J m j := fun j hj => (hm m j (fun hh => by have := hh.rng.2.2.1 rfl; omega) (by omega)).trans (up2_ne (by omega))
  refine ⟨⟨a1.cong (congrFun (hc _ (by omega) (by omega)) 0) (fun i hi => hc _ (by omega) (by omega)) (hf 1 (by omega)) (hb _ (by omega)) (hb _ (by omega)), fun q hq => ?_⟩, b.cong (congrFun (hc _ (by omega) (by omega)) 2) (hc _ (by omega) (by omega)) (hf 22 (by omega)) (hb _ (by omega)), hM, hT⟩
  rw [hc _ (by omega) (by omega)]; exact a2 q hq
theorem frS.h0 (h : frS m (up2 J m 0 v) J') : frH m J J' := fun b hb => funext fun j => (h b j (fun hh => by have := hh.rng; omega) (by omega)).trans (up2_ne (by omega))
theorem frS.th (h : frS m (up2 J m 0 v) J') : J' m 0 = v := by rw [h m 0 TX_0 (by omega), up2_eq]
theorem frCS.h (h : frCS g I I') : frG g I I' := fun b hb => h b (by omega) (by omega)
theorem O180 (hE : miE kad N Z g m) (H : MIr g m I J) : OUT g m [1] I J (f180 kad N Z g I) (f302 kad N Z m J) := by
  obtain ⟨hN, hg, hm, hz, zk, zs⟩ := hE
  obtain ⟨n, T, t1, t2, t3⟩ := H.2.2.2
  obtain ⟨b1, b2, b3⟩ := H.2.1
  by_cases h2 : I g 2 = 0
  · exact OUT.q H (th := 1) (by decide) (K180_0 h2) (M302_0 (b2.trans h2)) (fun hh => absurd hh (by decide))
  have h22 : ¬ J m 22 = 0 := fun hh => h2 (b2.symm.trans hh)
  rcases H.2.2.1 with ⟨q, K, D, W, a1, a2, a3, a4⟩ | ⟨q, K, M, D, W, s, kc, ⟨a1, ak, aM, aD⟩, a2, ⟨a3, a4⟩, a5, a6⟩
  · obtain ⟨T', acc, u1, ⟨x, I', e1, x1, x2, x3⟩, y, J', f1, y1, y2, y3, y4⟩ := M302_off (kad := kad) (M := I (g + 113)) hN hg hm zs (fun k hk => (b3 k hk).1) t1 t2 t3 (fun _ _ => rfl) (fun k hk => (b3 k hk).2) h2 h22 a1 a4
    subst x1
    refine ⟨0, acc, y, I', J', Nat.zero_le _, e1, f1, fun _ => y1, y4.th, x3.h, y4.h0, H.sub x3 y4 (Or.inl ⟨q, K, D, W, a1, a2, a3.cong (congrFun (x3 _ (by omega) (by omega)) 5) (fun b h1 h2 => x3 b (by omega) (by omega)), y3⟩) ⟨n, T', u1, x2, y2⟩⟩
  · have h0 : ¬ tr K (wake M D W) s 1 0 = 0 := oN.tr oN.wake s
    obtain ⟨T', acc, u1, ⟨x, I', e1, x1, x2, x3⟩, y, J', f1, y1, y2, y3, y4, y5⟩ := M302_on (kad := kad) (M := I (g + 113)) hN hg hm zs (fun k hk => (b3 k hk).1) t1 t2 t3 (fun _ _ => rfl) (fun k hk => (b3 k hk).2) h2 h22 a1 a2 h0 a5 a6
    subst x1
    exact ⟨0, acc, y, I', J', Nat.zero_le _, e1, f1, fun _ => y1, y5.th, x3.h, y5.h0, H.sub x3 y5 (Or.inr ⟨q, K, M, D, W, s, kc, ⟨a1, ak, aM, aD⟩, a2, ⟨a3.cong5 (congrFun (x3 _ (by omega) (by omega)) 5) (fun b h1 h2 => x3 b (by omega) (by omega)) (fun b h1 h2 => x3 b (by omega) (by omega)), a4.cong (x3 _ (by omega) (by omega)) (x3 _ (by omega) (by omega))⟩, y3, y4⟩) ⟨n, T', u1, x2, y2⟩⟩
end OTs
