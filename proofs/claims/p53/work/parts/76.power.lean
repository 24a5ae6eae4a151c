/-! start, crash and format, in both -/
def CF (g : Nat) (K : AI) (D : Nat → Int32) (W : Int32) (I : AI) : Prop := RM (g + 114) I (ov K (offm D W)) ∧ I g 5 = 0
def MF (m : Nat) (K : AI) (D : Nat → Int32) (W : Int32) (I : AI) : Prop := ML m I (ov K (offm D W)) ∧ I m 40 = 0
def K0 : AI := fun _ _ => 0
section PW
variable {kad : Nat → Nat} {N : Nat} {Z : AZ} {g m q s kc r : Nat} {I : AI} {K B : AI} {M D D' : Nat → Int32} {W W' : Int32}
theorem off_1 {k : Nat} : offm D W 1 k = 0 := by
  unfold offm
  rw [if_neg (by decide), if_neg (by decide)]
theorem off_3 {k : Nat} : offm D W 3 k = 0 := by
  unfold offm
  rw [if_neg (by decide), if_neg (by decide)]
theorem off_8 {k : Nat} : offm D W 8 k = W := by
  unfold offm
  rw [if_pos rfl]
theorem off_9 : offm D W 9 = D := by
  funext k
  unfold offm
  rw [if_neg (by decide), if_pos rfl]
theorem off_o {c : Nat} (h : ¬ c = 8 ∧ ¬ c = 9) : offm D W c = fun _ => 0 := by
  funext k
  unfold offm
  rw [if_neg h.1, if_neg h.2]
theorem K0_ok : okK 0 K0 := ⟨rfl, by decide, fun i j _ hj => absurd hj (by omega)⟩
theorem K0_tr : tr K0 B 0 = ov K0 B := by
  rw [tr_0]
  unfold sKeys
  rw [if_neg]
  intro h
  have : sTold (ov K0 B) (ov K0 B 1 2) 21 0 = sTold K0 (ov K0 B 1 2) 21 0 := sTold_cong (by rw [ov_k (by decide)]) (fun i => by rw [ov_k (by decide)]) 21 0
  rw [this, sTold_iff K0_ok 21 0 rfl] at h
  obtain ⟨j, _, hj, _⟩ := h
  omega
theorem rel_off {e c k : Nat} {L : AI} : rel e (ov K (offm D' W')) c k ↔ rel e (ov K (offm D W)) c k := by
  refine rel_cong ?_ ?_ ?_ ?_ ?_ ?_
  · rw [ov_r3, ov_r3, off_3, off_3]
  · rw [ov_r1, ov_r1, off_1, off_1]
  · rw [ov_k (by decide), ov_k (by decide)]
  · rw [ov_r20, ov_r20, off_o (by decide), off_o (by decide)]
  · rw [ov_r20, ov_r20, off_o (by decide), off_o (by decide)]
  · rw [ov_r (by decide), ov_r (by decide), off_o (by decide), off_o (by decide)]
theorem off_same {c : Nat} (h : ¬ c = 8 ∧ ¬ c = 9) : ov K (offm D' W') c = ov K (offm D W) c := by
  by_cases hc : 10 ≤ c ∧ c ≤ 12
  · rw [ov_k hc, ov_k hc]
  · rw [ov_r hc, ov_r hc, off_o h, off_o h]
theorem RM.disk {a : Nat} {J : AI} (H : RM a I (ov K (offm D W))) (h8 : J (a + 8) 1 = W') (h9 : ∀ k, k < 256 → J (a + 9) k = D' k) (hb : ∀ b, a < b → b < a + 17 → ¬ b = a + 8 → ¬ b = a + 9 → J b = I b) : RM a J (ov K (offm D' W')) := by
  intro c k hc hr
  have hv := rel_vc hr
  have hr' := (rel_off (L := K) (D := D) (W := W)).mp hr
  by_cases h : ¬ c = 8 ∧ ¬ c = 9
  · rw [off_same (D := D) (W := W) h, hb (a + c) (by omega) (by omega) (by omega) (by omega)]
    exact H c k hc hr'
  · rcases (show c = 8 ∨ c = 9 by omega) with rfl | rfl
    · have : k = 1 := hr
      rw [this, h8, ov_r8, off_8]
    · rw [h9 k hr, ov_r9, off_9]
theorem mA_24 {c k : Nat} (hc : mC c) (h : ¬ c = 8 ∧ ¬ c = 9) (hk : c = 1 → k < 14) : ¬ (mA m c = m + 24) ∧ ¬ (mA m c = m ∧ mK c k = 52) := by
  unfold mC at hc
  rcases hc with rfl | rfl | rfl | rfl | rfl | rfl | rfl | rfl | rfl | rfl | rfl | rfl
  · refine ⟨fun h => ?_, fun h => (mF_rng ⟨k, hk rfl⟩).2.2.1 h.2⟩
    simp only [mA] at h; omega
  · refine ⟨fun h => ?_, fun h => ?_⟩ <;> simp only [mA] at h <;> omega
  · refine ⟨fun h => ?_, fun h => ?_⟩ <;> simp only [mA] at h <;> omega
  · refine ⟨fun h => ?_, fun h => ?_⟩ <;> simp only [mA] at h <;> omega
  · refine ⟨fun h => ?_, fun h => ?_⟩ <;> simp only [mA] at h <;> omega
  · refine ⟨fun h => ?_, fun h => ?_⟩ <;> simp only [mA] at h <;> omega
  · exact absurd rfl h.1
  · exact absurd rfl h.2
  · refine ⟨fun h => ?_, fun h => ?_⟩
    · simp only [mA] at h; omega
    · exact absurd (show (43 : Nat) = 52 from h.2) (by decide)
  · refine ⟨fun h => ?_, fun h => ?_⟩ <;> simp only [mA] at h <;> omega
  · refine ⟨fun h => ?_, fun h => ?_⟩ <;> simp only [mA] at h <;> omega
  · refine ⟨fun h => ?_, fun h => ?_⟩ <;> simp only [mA] at h <;> omega
theorem ML.disk {J : AI} (H : ML m I (ov K (offm D W))) (h8 : J m 52 = W') (h9 : ∀ k, k < 256 → J (m + 24) k = D' k) (hb : ∀ b j, m ≤ b → b ≤ m + 25 → ¬ b = m + 24 → ¬ (b = m ∧ j = 52) → J b j = I b j) : ML m J (ov K (offm D' W')) := by
  have hL : ∀ D W, sLeft (ov K (offm D W)) = 0 := fun D W => by
    unfold sLeft
    rw [ov_r3, off_3, if_pos rfl]
  refine ⟨fun c k hc hr => ?_, ?_, fun h => ?_⟩
  · have hr' := (rel_off (L := K) (D := D) (W := W)).mp hr
    by_cases h : ¬ c = 8 ∧ ¬ c = 9
    · have hk1 : c = 1 → k < 14 := fun hh => by subst hh; exact hr
      obtain ⟨a1, a2⟩ := mA_24 (m := m) hc h hk1
      have hrg : m ≤ mA m c ∧ mA m c ≤ m + 25 := by
        unfold mC at hc
        rcases hc with rfl | rfl | rfl | rfl | rfl | rfl | rfl | rfl | rfl | rfl | rfl | rfl <;> simp only [mA] <;> omega
      rw [off_same (D := D) (W := W) h, hb _ _ hrg.1 hrg.2 a1 a2]
      exact H.1 c k hc hr'
    · rcases (show c = 8 ∨ c = 9 by omega) with rfl | rfl
      · have : k = 1 := hr
        rw [this, ov_r8, off_8]
        exact h8
      · rw [ov_r9, off_9]
        exact h9 k hr
  · rw [hb m 46 (by omega) (by omega) (by omega) (by omega), hL, H.2.1, hL]
  · exact absurd (by rw [ov_r3, off_3]) h
/-- start: the class -/
theorem C143_off (hN : 2000 ≤ N) (hg : sh10 kad Z g) (H : CF g K D W I) (hm : MD D r D') (hM : ∀ k, k < 256 → I (g + 113) k = M k) : Ok (f143 kad N Z g I) (fun x J => (I g 2 = 0 → x = rx [1] 1 0 ∧ J = I) ∧ (¬ I g 2 = 0 → x = rx [1] 0 (Int32.ofNat r) ∧ CG g K0 (wake M D' (W + Int32.ofNat r)) 0 0 J ∧ CS g M D' J ∧ frX g I J)) := by
  have e0 : I (g + 115) 0 = 0 := by
    rw [show I (g + 115) 0 = ov K (offm D W) 1 0 from H.1 1 0 (by decide) (show 0 < 14 by decide), ov_r1, off_1]
  unfold f143 f140
  rw [if_pos e0]
  by_cases h2 : I g 2 = 0
  · rw [if_neg (fun h => h h2), Option.bind_some]
    unfold xB
    dsimp only
    exact Ok.ret ⟨fun _ => ⟨rfl, rfl⟩, fun h => absurd h2 h⟩
  · rw [if_pos h2, Option.bind_some]
    unfold xB f72
    dsimp only
    refine Ok.bind (P := fun _ J => J = up2 I (g + 124) 0 0) (Ok.w (Ok.ret rfl)) fun _ Y hY => ?_
    dsimp only
    have y1 : ∀ b, ¬ b = g + 124 → Y b = I b := fun b hb => by rw [hY, up2_b hb]
    have y2 : Y (g + 124) 0 = 0 := by rw [hY, up2_eq]
    have hD : ∀ k, k < 256 → Y (g + 114 + 9) k = D k := fun k hk => by
      rw [y1 _ (by omega), H.1 9 k (by decide) hk, ov_r9, off_9]
    have hW : Y (g + 114 + 8) 1 = W := by
      rw [y1 _ (by omega), H.1 8 1 (by decide) rfl, ov_r8, off_8]
    refine (C80 (M := M) hN (sh10_s3 hg) K0_ok ⟨y2, fun k hk => absurd hk (by omega)⟩ hm hD hW (sh10_a1 hg) (by omega) (fun k hk => by rw [y1 _ (by omega)]; exact hM k hk)).bind fun x J ⟨a1, a2, a3⟩ => ?_
    dsimp only
    rw [show cA J (g + 113) 256 (0 : Int32) (g + 141) 256 (0 : Int32) (256 : Int32) = some (cpI J (g + 113) (g + 141) 0 0 256) from cA_ok (s := 0) (d := 0) (n := 256) (by decide) (by decide), Option.bind_some, show cA (cpI J (g + 113) (g + 141) 0 0 256) (g + 123) 256 (0 : Int32) (g + 142) 256 (0 : Int32) (256 : Int32) = some (cpI (cpI J (g + 113) (g + 141) 0 0 256) (g + 123) (g + 142) 0 0 256) from cA_ok (s := 0) (d := 0) (n := 256) (by decide) (by decide), Option.bind_some]
    have c1 : ∀ b, ¬ b = g + 141 → ¬ b = g + 142 → cpI (cpI J (g + 113) (g + 141) 0 0 256) (g + 123) (g + 142) 0 0 256 b = J b := fun b h1 h2 => by rw [cpI_b h2, cpI_b h1]
    rw [a1]
    refine Ok.ret ⟨fun h => absurd h h2, fun _ => ⟨rfl, ⟨?_, ?_, fun j _ hj => absurd hj (by omega)⟩, fun k hk => ⟨?_, ?_⟩, fun b b1 b2 b3 => ?_, fun j _ => ?_⟩⟩
    · rw [tr_0]
      exact a2.cong (fun b b1 b2 => c1 b (by omega) (by omega))
    · rw [c1 g (by omega) (by omega), a3 g (by omega), y1 g (by omega)]
      exact H.2
    · rw [cpI_b (by omega), cpI_at (by omega), a3 _ (by omega), y1 _ (by omega), show 0 + (k - 0) = k from by omega]
      exact hM k hk
    · rw [cpI_at (by omega), cpI_b (by omega), show 0 + (k - 0) = k from by omega]
      have hw9 : ∀ X : AI, (sKeys X) 9 = X 9 := fun X => sKeys_o (by decide)
      rw [show J (g + 123) k = sKeys (ov K0 (wake M D' (W + Int32.ofNat r))) 9 k from a2 9 k (by decide) hk, hw9, ov_r9, wake_9]
    · rw [c1 b (by omega) (by omega), a3 b (by omega), y1 b (by omega)]
    · rw [c1 g (by omega) (by omega), a3 g (by omega), y1 g (by omega)]
theorem C143_on {X : AI} (H : RM (g + 114) I X) (h0 : ¬ X 1 0 = 0) : f143 kad N Z g I = some (rx [1] 1 0, I) := by
  unfold f143
  rw [if_neg (show ¬ I (g + 115) 0 = 0 from fun h => h0 ((H 1 0 (by decide) (show 0 < 14 by decide)).symm.trans h))]
  rfl
/-- crash -/
theorem C144_on (hN : 2000 ≤ N) (hg : sh10 kad Z g) (hK : okK q K) (hB : B 1 2 = 0) (H : CG g K B s kc I) (h0 : ¬ tr K B s 1 0 = 0) : Ok (f144 kad N Z g I) (fun x J => x = rx [1] 0 (Int32.ofNat s) ∧ CF g K (tr K B s 9) (tr K B s 8 1) J ∧ frC g I J) := by
  have hKX : okK q (tr K B s) := by
    unfold okK at hK ⊢
    rw [tr_key (by decide), tr_key (by decide)]
    exact hK
  have hck : CK q (g + 114) K I := (H.1.ck hKX).cong (tr_key (by decide)).symm (tr_key (by decide)).symm (tr_key (by decide)).symm
  have e2 : I (g + 115) 2 = Int32.ofNat s := (H.1 1 2 (by decide) (show 2 < 14 by decide)).trans (tr_2 hB s)
  unfold f144
  rw [K165 H.1, if_neg h0, Option.bind_some]
  unfold xB
  dsimp only
  refine Ok.w ?_
  rw [e2]
  refine (C81 hN (sh10_s3 hg) hK (I := up2 I g 5 0) (D := tr K B s 9) (W := tr K B s 8 1) ⟨?_, fun k hk => ?_⟩ (fun k hk => ?_) ?_).bind fun _ J ⟨a1, a2⟩ => ?_
  · rw [up2_b (by omega)]; exact hck.1
  · rw [up2_b (by omega), up2_b (by omega)]; exact hck.2 k hk
  · rw [up2_b (by omega)]; exact H.1 9 k (by decide) hk
  · rw [up2_b (by omega)]; exact H.1 8 1 (by decide) rfl
  · dsimp only
    refine Ok.ret ⟨rfl, ⟨a1, ?_⟩, fun b b1 b2 b3 => ?_, fun j hj => ?_⟩
    · rw [a2 g (by omega), up2_eq]
    · rw [a2 b (by omega), up2_b b1]
    · rw [a2 g (by omega), up2_ne (fun hh => hj hh.2)]
theorem C144_off (H : CF g K D W I) : f144 kad N Z g I = some (rx [1] 1 0, I) := by
  unfold f144
  rw [K165 H.1, if_pos (by rw [ov_r1, off_1]), Option.bind_some]
  rfl
/-- format -/
theorem C145_off (hN : 2000 ≤ N) (hg : sh10 kad Z g) (H : CF g K D W I) : Ok (f145 kad N Z g I) (fun x J => x = rx [1] 0 (cFi D 6 0 0) ∧ CF g K fD 0 J ∧ frC g I J) := by
  have e0 : I (g + 115) 0 = 0 := by
    rw [show I (g + 115) 0 = ov K (offm D W) 1 0 from H.1 1 0 (by decide) (show 0 < 14 by decide), ov_r1, off_1]
  have hD : ∀ k, k < 256 → I (g + 122 + 1) k = D k := fun k hk => by
    rw [show I (g + 122 + 1) k = ov K (offm D W) 9 k from H.1 9 k (by decide) hk, ov_r9, off_9]
  unfold f145
  rw [if_pos e0, K52 hN, cFi_cong hD 6 0 0 (by decide), Option.bind_some]
  dsimp only
  refine (K42 hN (sh3_a0 (sh8_s3 (sh10_s3 hg)))).bind fun _ J ⟨a1, a2, a3⟩ => Ok.ret ⟨rfl, ⟨H.1.disk a2 a1 (fun b b1 b2 b3 b4 => a3 b b3 b4), ?_⟩, fun b b1 b2 b3 => a3 b (by omega) (by omega), fun j _ => by rw [show ((), J).2 = J from rfl, a3 g (by omega) (by omega)]⟩
  rw [show ((), J).2 = J from rfl, a3 g (by omega) (by omega)]
  exact H.2
theorem C145_on {X : AI} (H : RM (g + 114) I X) (h0 : ¬ X 1 0 = 0) : f145 kad N Z g I = some (rx [1] 1 0, I) := by
  unfold f145
  rw [if_neg (show ¬ I (g + 115) 0 = 0 from fun h => h0 ((H 1 0 (by decide) (show 0 < 14 by decide)).symm.trans h))]
  rfl
end PW
