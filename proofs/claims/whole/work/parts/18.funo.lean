-- KernelGymModel.isWhole ()Z
def f295 (kad : Nat → Nat) (N : Nat) (Z : AZ) (a0 : Nat) (I : AI) : Option (Int32 × AI) :=
  (pI Z I 11 0 a0 (0 : Int32)).bind fun I2_1 =>
  (isK Z a0 11).bind fun u6_2 =>
  (f294 kad N Z a0 I2_1).bind fun r6_3 =>
  if r6_3.1 = 0 ∨ r6_3.1 = 1 then some (r6_3.1, r6_3.2) else none
set_option maxRecDepth 20000 in
theorem Tf295 {kad : Nat → Nat} {N : Nat} {Z : AZ} {d : Nat} {t : Option Nat × (Nat × Nat)} (hd : 4 ≤ d) : ∀ (a0 : Nat) (I : AI) (r : Int32 × AI), f295 kad N Z a0 I = some r → aGo kad d 295 (0, ([(0, .ref a0)], [])) (aMem Z I, t) (qI Z t r) := by
  intro a0 I r h
  unfold f295 at h
  refine go_ops aMi295 2 _ (f1 := (2, ([(0, .ref a0)], [.int (0 : Int32), .ref a0]))) rfl ?_
  obtain ⟨I2_1, hxI2_1, h⟩ := Option.bind_eq_some_iff.mp h
  refine gg_pI aMi295 rfl rfl rfl rfl (by decide) hxI2_1 ?_
  refine go_ops aMi295 1 _ (f1 := (6, ([(0, .ref a0)], [.ref a0]))) rfl ?_
  obtain ⟨u6_2, hxu6_2, h⟩ := Option.bind_eq_some_iff.mp h
  obtain ⟨r6_3, hxr6_3, h⟩ := Option.bind_eq_some_iff.mp h
  refine gg_cv (as := []) (r := []) aMi295 rfl rfl rfl aMi294 (Nat.le_of_ble_eq_true rfl) rfl (Nat.le_of_ble_eq_true rfl) (Nat.le_of_ble_eq_true rfl) (by omega) hxu6_2 (Tf294 (by omega) a0 I2_1 _ hxr6_3) ?_
  show aGo kad d 295 (9, ([(0, .ref a0)], [.int r6_3.1])) (aMem Z r6_3.2, t) _
  split at h
  · rename_i hz
    cases h
    exact go_ret aMi295 rfl (aRetZ hz) ⟨rfl, rfl⟩
  · cases h
-- KernelGymModel.testKey (I)I
def f296_b29 (kad : Nat → Nat) (N : Nat) (Z : AZ) (a0 : Nat) (i1 : Int32) (s0 : Int32) (s1 : Nat) (I : AI) : Option (Int32 × AI) :=
  (isK Z s1 11).bind fun u29_1 =>
  (f185 kad N Z s1 s0 I).bind fun r29_2 =>
  if ¬ r29_2.1 = 0 then
    (gR Z r29_2.2 11 56 a0).bind fun b38_3 =>
    (gI Z r29_2.2 11 58 a0).bind fun x42_4 =>
    (sI Z r29_2.2 100 b38_3 x42_4 i1).bind fun I46_5 =>
    (gI Z I46_5 11 58 a0).bind fun x49_6 =>
    (pI Z I46_5 11 58 a0 (x49_6 + (1 : Int32))).bind fun I54_7 =>
    (gI Z I54_7 11 58 a0).bind fun x58_8 =>
    some (x58_8, I54_7)
  else
    some ((0 : Int32), r29_2.2)
set_option maxRecDepth 20000 in
theorem Tf296_b29 {kad : Nat → Nat} {N : Nat} {Z : AZ} {d : Nat} {t : Option Nat × (Nat × Nat)} (hd : 1 ≤ d) : ∀ (a0 : Nat) (i1 : Int32) (s0 : Int32) (s1 : Nat) (I : AI) (r : Int32 × AI), f296_b29 kad N Z a0 i1 s0 s1 I = some r → aGo kad d 296 (29, ([(0, .ref a0), (1, .int i1)], [.int s0, .ref s1])) (aMem Z I, t) (qI Z t r) := by
  intro a0 i1 s0 s1 I r h
  unfold f296_b29 at h
  obtain ⟨u29_1, hxu29_1, h⟩ := Option.bind_eq_some_iff.mp h
  obtain ⟨r29_2, hxr29_2, h⟩ := Option.bind_eq_some_iff.mp h
  refine gg_cv (as := [.int s0]) (r := []) aMi296 rfl rfl rfl aMi185 (Nat.le_of_ble_eq_true rfl) rfl (Nat.le_of_ble_eq_true rfl) (Nat.le_of_ble_eq_true rfl) (by omega) hxu29_1 (Tf185 (by omega) s1 s0 I _ hxr29_2) ?_
  show aGo kad d 296 (32, ([(0, .ref a0), (1, .int i1)], [.int r29_2.1])) (aMem Z r29_2.2, t) _
  refine gg_br (b := decide (¬ r29_2.1 = 0)) (tg := 37) (off := 5) aMi296 rfl rfl rfl rfl (fun hb => ?_) (fun hb => ?_)
  · rw [if_pos (of_decide_eq_true hb)] at h
    refine go_ops aMi296 1 _ (f1 := (38, ([(0, .ref a0), (1, .int i1)], [.ref a0]))) rfl ?_
    obtain ⟨b38_3, hxb38_3, h⟩ := Option.bind_eq_some_iff.mp h
    refine gg_gR aMi296 rfl rfl rfl hxb38_3 ?_
    refine go_ops aMi296 1 _ (f1 := (42, ([(0, .ref a0), (1, .int i1)], [.ref a0, .ref b38_3]))) rfl ?_
    obtain ⟨x42_4, hxx42_4, h⟩ := Option.bind_eq_some_iff.mp h
    refine gg_gI aMi296 rfl rfl rfl hxx42_4 ?_
    refine go_ops aMi296 1 _ (f1 := (46, ([(0, .ref a0), (1, .int i1)], [.int i1, .int x42_4, .ref b38_3]))) rfl ?_
    obtain ⟨I46_5, hxI46_5, h⟩ := Option.bind_eq_some_iff.mp h
    refine gg_sI (Or.inl ⟨rfl, rfl⟩) aMi296 rfl hxI46_5 ?_
    refine go_ops aMi296 2 _ (f1 := (49, ([(0, .ref a0), (1, .int i1)], [.ref a0, .ref a0]))) rfl ?_
    obtain ⟨x49_6, hxx49_6, h⟩ := Option.bind_eq_some_iff.mp h
    refine gg_gI aMi296 rfl rfl rfl hxx49_6 ?_
    refine go_ops aMi296 2 _ (f1 := (54, ([(0, .ref a0), (1, .int i1)], [.int (x49_6 + (1 : Int32)), .ref a0]))) rfl ?_
    obtain ⟨I54_7, hxI54_7, h⟩ := Option.bind_eq_some_iff.mp h
    refine gg_pI aMi296 rfl rfl rfl rfl (by decide) hxI54_7 ?_
    refine go_ops aMi296 1 _ (f1 := (58, ([(0, .ref a0), (1, .int i1)], [.ref a0]))) rfl ?_
    obtain ⟨x58_8, hxx58_8, h⟩ := Option.bind_eq_some_iff.mp h
    refine gg_gI aMi296 rfl rfl rfl hxx58_8 ?_
    cases h
    exact go_ret aMi296 rfl aRetI ⟨rfl, rfl⟩
  · rw [if_neg (of_decide_eq_false hb)] at h
    refine go_ops aMi296 1 _ (f1 := (36, ([(0, .ref a0), (1, .int i1)], [.int (0 : Int32)]))) rfl ?_
    cases h
    exact go_ret aMi296 rfl aRetI ⟨rfl, rfl⟩
def f296 (kad : Nat → Nat) (N : Nat) (Z : AZ) (a0 : Nat) (i1 : Int32) (I : AI) : Option (Int32 × AI) :=
  (f186 kad N Z i1 (0 : Int32) (65535 : Int32) I).bind fun r5_1 =>
  if ¬ r5_1.1 = 0 then
    (gI Z r5_1.2 11 58 a0).bind fun x16_2 =>
    if ¬ x16_2 = (6 : Int32) then
      f296_b29 kad N Z a0 i1 (0 : Int32) a0 r5_1.2
    else
      f296_b29 kad N Z a0 i1 (2 : Int32) a0 r5_1.2
  else
    f296_b29 kad N Z a0 i1 (1 : Int32) a0 r5_1.2
set_option maxRecDepth 20000 in
theorem Tf296 {kad : Nat → Nat} {N : Nat} {Z : AZ} {d : Nat} {t : Option Nat × (Nat × Nat)} (hd : 1 ≤ d) : ∀ (a0 : Nat) (i1 : Int32) (I : AI) (r : Int32 × AI), f296 kad N Z a0 i1 I = some r → aGo kad d 296 (0, ([(0, .ref a0), (1, .int i1)], [])) (aMem Z I, t) (qI Z t r) := by
  intro a0 i1 I r h
  unfold f296 at h
  refine go_ops aMi296 3 _ (f1 := (3, ([(0, .ref a0), (1, .int i1)], [.int (0 : Int32), .int i1, .ref a0]))) rfl ?_
  refine gg_kI (Or.inl ⟨rfl, rfl⟩) aMi296 rfl rfl ?_
  obtain ⟨r5_1, hxr5_1, h⟩ := Option.bind_eq_some_iff.mp h
  refine gg_cs (as := [.int i1, .int (0 : Int32), .int (65535 : Int32)]) (r := [.ref a0]) aMi296 rfl rfl rfl aMi186 rfl (Nat.le_of_ble_eq_true rfl) (Nat.le_of_ble_eq_true rfl) (by omega) (Tf186 (by omega) i1 (0 : Int32) (65535 : Int32) I _ hxr5_1) ?_
  show aGo kad d 296 (8, ([(0, .ref a0), (1, .int i1)], [.int r5_1.1, .ref a0])) (aMem Z r5_1.2, t) _
  refine gg_br (b := decide (¬ r5_1.1 = 0)) (tg := 15) (off := 7) aMi296 rfl rfl rfl rfl (fun hb => ?_) (fun hb => ?_)
  · rw [if_pos (of_decide_eq_true hb)] at h
    refine go_ops aMi296 1 _ (f1 := (16, ([(0, .ref a0), (1, .int i1)], [.ref a0, .ref a0]))) rfl ?_
    obtain ⟨x16_2, hxx16_2, h⟩ := Option.bind_eq_some_iff.mp h
    refine gg_gI aMi296 rfl rfl rfl hxx16_2 ?_
    refine go_ops aMi296 1 _ (f1 := (21, ([(0, .ref a0), (1, .int i1)], [.int (6 : Int32), .int x16_2, .ref a0]))) rfl ?_
    refine gg_br (b := decide (¬ x16_2 = (6 : Int32))) (tg := 28) (off := 7) aMi296 rfl rfl rfl rfl (fun hb => ?_) (fun hb => ?_)
    · rw [if_pos (of_decide_eq_true hb)] at h
      refine go_ops aMi296 1 _ (f1 := (29, ([(0, .ref a0), (1, .int i1)], [.int (0 : Int32), .ref a0]))) rfl ?_
      exact Tf296_b29 hd a0 i1 (0 : Int32) a0 r5_1.2 _ h
    · rw [if_neg (of_decide_eq_false hb)] at h
      refine go_ops aMi296 2 _ (f1 := (29, ([(0, .ref a0), (1, .int i1)], [.int (2 : Int32), .ref a0]))) rfl ?_
      exact Tf296_b29 hd a0 i1 (2 : Int32) a0 r5_1.2 _ h
  · rw [if_neg (of_decide_eq_false hb)] at h
    refine go_ops aMi296 2 _ (f1 := (29, ([(0, .ref a0), (1, .int i1)], [.int (1 : Int32), .ref a0]))) rfl ?_
    exact Tf296_b29 hd a0 i1 (1 : Int32) a0 r5_1.2 _ h
-- KernelGymModel.testWord (I)I
def f297_b29 (kad : Nat → Nat) (N : Nat) (Z : AZ) (a0 : Nat) (i1 : Int32) (s0 : Int32) (s1 : Nat) (I : AI) : Option (Int32 × AI) :=
  (isK Z s1 11).bind fun u29_1 =>
  (f185 kad N Z s1 s0 I).bind fun r29_2 =>
  if ¬ r29_2.1 = 0 then
    (gR Z r29_2.2 11 57 a0).bind fun b38_3 =>
    (gI Z r29_2.2 11 59 a0).bind fun x42_4 =>
    (sI Z r29_2.2 100 b38_3 x42_4 i1).bind fun I46_5 =>
    (gI Z I46_5 11 59 a0).bind fun x49_6 =>
    (pI Z I46_5 11 59 a0 (x49_6 + (1 : Int32))).bind fun I54_7 =>
    (gI Z I54_7 11 59 a0).bind fun x58_8 =>
    some (x58_8, I54_7)
  else
    some ((0 : Int32), r29_2.2)
set_option maxRecDepth 20000 in
theorem Tf297_b29 {kad : Nat → Nat} {N : Nat} {Z : AZ} {d : Nat} {t : Option Nat × (Nat × Nat)} (hd : 1 ≤ d) : ∀ (a0 : Nat) (i1 : Int32) (s0 : Int32) (s1 : Nat) (I : AI) (r : Int32 × AI), f297_b29 kad N Z a0 i1 s0 s1 I = some r → aGo kad d 297 (29, ([(0, .ref a0), (1, .int i1)], [.int s0, .ref s1])) (aMem Z I, t) (qI Z t r) := by
  intro a0 i1 s0 s1 I r h
  unfold f297_b29 at h
  obtain ⟨u29_1, hxu29_1, h⟩ := Option.bind_eq_some_iff.mp h
  obtain ⟨r29_2, hxr29_2, h⟩ := Option.bind_eq_some_iff.mp h
  refine gg_cv (as := [.int s0]) (r := []) aMi297 rfl rfl rfl aMi185 (Nat.le_of_ble_eq_true rfl) rfl (Nat.le_of_ble_eq_true rfl) (Nat.le_of_ble_eq_true rfl) (by omega) hxu29_1 (Tf185 (by omega) s1 s0 I _ hxr29_2) ?_
  show aGo kad d 297 (32, ([(0, .ref a0), (1, .int i1)], [.int r29_2.1])) (aMem Z r29_2.2, t) _
  refine gg_br (b := decide (¬ r29_2.1 = 0)) (tg := 37) (off := 5) aMi297 rfl rfl rfl rfl (fun hb => ?_) (fun hb => ?_)
  · rw [if_pos (of_decide_eq_true hb)] at h
    refine go_ops aMi297 1 _ (f1 := (38, ([(0, .ref a0), (1, .int i1)], [.ref a0]))) rfl ?_
    obtain ⟨b38_3, hxb38_3, h⟩ := Option.bind_eq_some_iff.mp h
    refine gg_gR aMi297 rfl rfl rfl hxb38_3 ?_
    refine go_ops aMi297 1 _ (f1 := (42, ([(0, .ref a0), (1, .int i1)], [.ref a0, .ref b38_3]))) rfl ?_
    obtain ⟨x42_4, hxx42_4, h⟩ := Option.bind_eq_some_iff.mp h
    refine gg_gI aMi297 rfl rfl rfl hxx42_4 ?_
    refine go_ops aMi297 1 _ (f1 := (46, ([(0, .ref a0), (1, .int i1)], [.int i1, .int x42_4, .ref b38_3]))) rfl ?_
    obtain ⟨I46_5, hxI46_5, h⟩ := Option.bind_eq_some_iff.mp h
    refine gg_sI (Or.inl ⟨rfl, rfl⟩) aMi297 rfl hxI46_5 ?_
    refine go_ops aMi297 2 _ (f1 := (49, ([(0, .ref a0), (1, .int i1)], [.ref a0, .ref a0]))) rfl ?_
    obtain ⟨x49_6, hxx49_6, h⟩ := Option.bind_eq_some_iff.mp h
    refine gg_gI aMi297 rfl rfl rfl hxx49_6 ?_
    refine go_ops aMi297 2 _ (f1 := (54, ([(0, .ref a0), (1, .int i1)], [.int (x49_6 + (1 : Int32)), .ref a0]))) rfl ?_
    obtain ⟨I54_7, hxI54_7, h⟩ := Option.bind_eq_some_iff.mp h
    refine gg_pI aMi297 rfl rfl rfl rfl (by decide) hxI54_7 ?_
    refine go_ops aMi297 1 _ (f1 := (58, ([(0, .ref a0), (1, .int i1)], [.ref a0]))) rfl ?_
    obtain ⟨x58_8, hxx58_8, h⟩ := Option.bind_eq_some_iff.mp h
    refine gg_gI aMi297 rfl rfl rfl hxx58_8 ?_
    cases h
    exact go_ret aMi297 rfl aRetI ⟨rfl, rfl⟩
  · rw [if_neg (of_decide_eq_false hb)] at h
    refine go_ops aMi297 1 _ (f1 := (36, ([(0, .ref a0), (1, .int i1)], [.int (0 : Int32)]))) rfl ?_
    cases h
    exact go_ret aMi297 rfl aRetI ⟨rfl, rfl⟩
def f297 (kad : Nat → Nat) (N : Nat) (Z : AZ) (a0 : Nat) (i1 : Int32) (I : AI) : Option (Int32 × AI) :=
  (f186 kad N Z i1 (0 : Int32) (65535 : Int32) I).bind fun r5_1 =>
  if ¬ r5_1.1 = 0 then
    (gI Z r5_1.2 11 59 a0).bind fun x16_2 =>
    if ¬ x16_2 = (6 : Int32) then
      f297_b29 kad N Z a0 i1 (0 : Int32) a0 r5_1.2
    else
      f297_b29 kad N Z a0 i1 (2 : Int32) a0 r5_1.2
  else
    f297_b29 kad N Z a0 i1 (1 : Int32) a0 r5_1.2
set_option maxRecDepth 20000 in
theorem Tf297 {kad : Nat → Nat} {N : Nat} {Z : AZ} {d : Nat} {t : Option Nat × (Nat × Nat)} (hd : 1 ≤ d) : ∀ (a0 : Nat) (i1 : Int32) (I : AI) (r : Int32 × AI), f297 kad N Z a0 i1 I = some r → aGo kad d 297 (0, ([(0, .ref a0), (1, .int i1)], [])) (aMem Z I, t) (qI Z t r) := by
  intro a0 i1 I r h
  unfold f297 at h
  refine go_ops aMi297 3 _ (f1 := (3, ([(0, .ref a0), (1, .int i1)], [.int (0 : Int32), .int i1, .ref a0]))) rfl ?_
  refine gg_kI (Or.inl ⟨rfl, rfl⟩) aMi297 rfl rfl ?_
  obtain ⟨r5_1, hxr5_1, h⟩ := Option.bind_eq_some_iff.mp h
  refine gg_cs (as := [.int i1, .int (0 : Int32), .int (65535 : Int32)]) (r := [.ref a0]) aMi297 rfl rfl rfl aMi186 rfl (Nat.le_of_ble_eq_true rfl) (Nat.le_of_ble_eq_true rfl) (by omega) (Tf186 (by omega) i1 (0 : Int32) (65535 : Int32) I _ hxr5_1) ?_
  show aGo kad d 297 (8, ([(0, .ref a0), (1, .int i1)], [.int r5_1.1, .ref a0])) (aMem Z r5_1.2, t) _
  refine gg_br (b := decide (¬ r5_1.1 = 0)) (tg := 15) (off := 7) aMi297 rfl rfl rfl rfl (fun hb => ?_) (fun hb => ?_)
  · rw [if_pos (of_decide_eq_true hb)] at h
    refine go_ops aMi297 1 _ (f1 := (16, ([(0, .ref a0), (1, .int i1)], [.ref a0, .ref a0]))) rfl ?_
    obtain ⟨x16_2, hxx16_2, h⟩ := Option.bind_eq_some_iff.mp h
    refine gg_gI aMi297 rfl rfl rfl hxx16_2 ?_
    refine go_ops aMi297 1 _ (f1 := (21, ([(0, .ref a0), (1, .int i1)], [.int (6 : Int32), .int x16_2, .ref a0]))) rfl ?_
    refine gg_br (b := decide (¬ x16_2 = (6 : Int32))) (tg := 28) (off := 7) aMi297 rfl rfl rfl rfl (fun hb => ?_) (fun hb => ?_)
    · rw [if_pos (of_decide_eq_true hb)] at h
      refine go_ops aMi297 1 _ (f1 := (29, ([(0, .ref a0), (1, .int i1)], [.int (0 : Int32), .ref a0]))) rfl ?_
      exact Tf297_b29 hd a0 i1 (0 : Int32) a0 r5_1.2 _ h
    · rw [if_neg (of_decide_eq_false hb)] at h
      refine go_ops aMi297 2 _ (f1 := (29, ([(0, .ref a0), (1, .int i1)], [.int (2 : Int32), .ref a0]))) rfl ?_
      exact Tf297_b29 hd a0 i1 (2 : Int32) a0 r5_1.2 _ h
  · rw [if_neg (of_decide_eq_false hb)] at h
    refine go_ops aMi297 2 _ (f1 := (29, ([(0, .ref a0), (1, .int i1)], [.int (1 : Int32), .ref a0]))) rfl ?_
    exact Tf297_b29 hd a0 i1 (1 : Int32) a0 r5_1.2 _ h
-- KernelGymModel.addTest (IIII)I
def f298_b161 (kad : Nat → Nat) (N : Nat) (Z : AZ) : Nat → Nat → Int32 → AI → Option (Int32 × AI)
  | 0, _, _, _ => none
  | F + 1, a0, i6, I =>
    if (6 : Int32) ≤ i6 then
      (pI Z I 11 58 a0 (0 : Int32)).bind fun I220_1 =>
      (pI Z I220_1 11 59 a0 (0 : Int32)).bind fun I225_2 =>
      (gI Z I225_2 11 60 a0).bind fun x230_3 =>
      (pI Z I225_2 11 60 a0 (x230_3 + (1 : Int32))).bind fun I235_4 =>
      (gI Z I235_4 11 60 a0).bind fun x239_5 =>
      some ((x239_5 - (1 : Int32)), I235_4)
    else
      (gR Z I 11 61 a0).bind fun b169_6 =>
      (gI Z I 11 60 a0).bind fun x175_7 =>
      (gR Z I 11 56 a0).bind fun b183_8 =>
      (lI Z I 100 b183_8 i6).bind fun x188_9 =>
      (sI Z I 100 b169_6 (((6 : Int32) * x175_7) + i6) x188_9).bind fun I189_10 =>
      (gR Z I189_10 11 63 a0).bind fun b191_11 =>
      (gI Z I189_10 11 60 a0).bind fun x197_12 =>
      (gR Z I189_10 11 57 a0).bind fun b205_13 =>
      (lI Z I189_10 100 b205_13 i6).bind fun x210_14 =>
      (sI Z I189_10 100 b191_11 (((6 : Int32) * x197_12) + i6) x210_14).bind fun I211_15 =>
      f298_b161 kad N Z F a0 (i6 + (1 : Int32)) I211_15
set_option maxRecDepth 20000 in
theorem Tf298_b161 {kad : Nat → Nat} {N : Nat} {Z : AZ} {d : Nat} {t : Option Nat × (Nat × Nat)} (hd : 1 ≤ d) : ∀ (F : Nat) (a0 : Nat) (i6 : Int32) (I : AI) (r : Int32 × AI), f298_b161 kad N Z F a0 i6 I = some r → aGo kad d 298 (161, ([(0, .ref a0), (6, .int i6)], [])) (aMem Z I, t) (qI Z t r) := by
  intro F
  induction F with
  | zero => intro a0 i6 I r h; cases h
  | succ F ih =>
    intro a0 i6 I r h
    unfold f298_b161 at h
    refine go_ops aMi298 2 _ (f1 := (165, ([(0, .ref a0), (6, .int i6)], [.int (6 : Int32), .int i6]))) rfl ?_
    refine gg_br (b := decide ((6 : Int32) ≤ i6)) (tg := 218) (off := 53) aMi298 rfl rfl rfl rfl (fun hb => ?_) (fun hb => ?_)
    · rw [if_pos (of_decide_eq_true hb)] at h
      refine go_ops aMi298 2 _ (f1 := (220, ([(0, .ref a0), (6, .int i6)], [.int (0 : Int32), .ref a0]))) rfl ?_
      obtain ⟨I220_1, hxI220_1, h⟩ := Option.bind_eq_some_iff.mp h
      refine gg_pI aMi298 rfl rfl rfl rfl (by decide) hxI220_1 ?_
      refine go_ops aMi298 2 _ (f1 := (225, ([(0, .ref a0), (6, .int i6)], [.int (0 : Int32), .ref a0]))) rfl ?_
      obtain ⟨I225_2, hxI225_2, h⟩ := Option.bind_eq_some_iff.mp h
      refine gg_pI aMi298 rfl rfl rfl rfl (by decide) hxI225_2 ?_
      refine go_ops aMi298 2 _ (f1 := (230, ([(0, .ref a0), (6, .int i6)], [.ref a0, .ref a0]))) rfl ?_
      obtain ⟨x230_3, hxx230_3, h⟩ := Option.bind_eq_some_iff.mp h
      refine gg_gI aMi298 rfl rfl rfl hxx230_3 ?_
      refine go_ops aMi298 2 _ (f1 := (235, ([(0, .ref a0), (6, .int i6)], [.int (x230_3 + (1 : Int32)), .ref a0]))) rfl ?_
      obtain ⟨I235_4, hxI235_4, h⟩ := Option.bind_eq_some_iff.mp h
      refine gg_pI aMi298 rfl rfl rfl rfl (by decide) hxI235_4 ?_
      refine go_ops aMi298 1 _ (f1 := (239, ([(0, .ref a0), (6, .int i6)], [.ref a0]))) rfl ?_
      obtain ⟨x239_5, hxx239_5, h⟩ := Option.bind_eq_some_iff.mp h
      refine gg_gI aMi298 rfl rfl rfl hxx239_5 ?_
      refine go_ops aMi298 2 _ (f1 := (244, ([(0, .ref a0), (6, .int i6)], [.int (x239_5 - (1 : Int32))]))) rfl ?_
      cases h
      exact go_ret aMi298 rfl aRetI ⟨rfl, rfl⟩
    · rw [if_neg (of_decide_eq_false hb)] at h
      refine go_ops aMi298 1 _ (f1 := (169, ([(0, .ref a0), (6, .int i6)], [.ref a0]))) rfl ?_
      obtain ⟨b169_6, hxb169_6, h⟩ := Option.bind_eq_some_iff.mp h
      refine gg_gR aMi298 rfl rfl rfl hxb169_6 ?_
      refine go_ops aMi298 2 _ (f1 := (175, ([(0, .ref a0), (6, .int i6)], [.ref a0, .int (6 : Int32), .ref b169_6]))) rfl ?_
      obtain ⟨x175_7, hxx175_7, h⟩ := Option.bind_eq_some_iff.mp h
      refine gg_gI aMi298 rfl rfl rfl hxx175_7 ?_
      refine go_ops aMi298 4 _ (f1 := (183, ([(0, .ref a0), (6, .int i6)], [.ref a0, .int (((6 : Int32) * x175_7) + i6), .ref b169_6]))) rfl ?_
      obtain ⟨b183_8, hxb183_8, h⟩ := Option.bind_eq_some_iff.mp h
      refine gg_gR aMi298 rfl rfl rfl hxb183_8 ?_
      refine go_ops aMi298 1 _ (f1 := (188, ([(0, .ref a0), (6, .int i6)], [.int i6, .ref b183_8, .int (((6 : Int32) * x175_7) + i6), .ref b169_6]))) rfl ?_
      obtain ⟨x188_9, hxx188_9, h⟩ := Option.bind_eq_some_iff.mp h
      refine gg_lI (Or.inl ⟨rfl, rfl⟩) aMi298 rfl hxx188_9 ?_
      obtain ⟨I189_10, hxI189_10, h⟩ := Option.bind_eq_some_iff.mp h
      refine gg_sI (Or.inl ⟨rfl, rfl⟩) aMi298 rfl hxI189_10 ?_
      refine go_ops aMi298 1 _ (f1 := (191, ([(0, .ref a0), (6, .int i6)], [.ref a0]))) rfl ?_
      obtain ⟨b191_11, hxb191_11, h⟩ := Option.bind_eq_some_iff.mp h
      refine gg_gR aMi298 rfl rfl rfl hxb191_11 ?_
      refine go_ops aMi298 2 _ (f1 := (197, ([(0, .ref a0), (6, .int i6)], [.ref a0, .int (6 : Int32), .ref b191_11]))) rfl ?_
      obtain ⟨x197_12, hxx197_12, h⟩ := Option.bind_eq_some_iff.mp h
      refine gg_gI aMi298 rfl rfl rfl hxx197_12 ?_
      refine go_ops aMi298 4 _ (f1 := (205, ([(0, .ref a0), (6, .int i6)], [.ref a0, .int (((6 : Int32) * x197_12) + i6), .ref b191_11]))) rfl ?_
      obtain ⟨b205_13, hxb205_13, h⟩ := Option.bind_eq_some_iff.mp h
      refine gg_gR aMi298 rfl rfl rfl hxb205_13 ?_
      refine go_ops aMi298 1 _ (f1 := (210, ([(0, .ref a0), (6, .int i6)], [.int i6, .ref b205_13, .int (((6 : Int32) * x197_12) + i6), .ref b191_11]))) rfl ?_
      obtain ⟨x210_14, hxx210_14, h⟩ := Option.bind_eq_some_iff.mp h
      refine gg_lI (Or.inl ⟨rfl, rfl⟩) aMi298 rfl hxx210_14 ?_
      obtain ⟨I211_15, hxI211_15, h⟩ := Option.bind_eq_some_iff.mp h
      refine gg_sI (Or.inl ⟨rfl, rfl⟩) aMi298 rfl hxI211_15 ?_
      refine go_ops aMi298 2 _ (f1 := (161, ([(6, .int (i6 + (1 : Int32))), (0, .ref a0)], []))) rfl ?_
      refine go_le (lv1 := [(0, .ref a0), (6, .int (i6 + (1 : Int32)))]) (aLe_of (show (List.map (fun q => q.1) ([(0, .ref a0), (6, .int (i6 + (1 : Int32)))] : ALv)).Nodup from (by show ([0, 6] : List Nat).Nodup; decide)) (aSubL_cons rfl (aSubL_cons rfl aSubL_nil))) ?_
      exact ih a0 (i6 + (1 : Int32)) I211_15 _ h
def f298_b73 (kad : Nat → Nat) (N : Nat) (Z : AZ) (a0 : Nat) (i1 : Int32) (i2 : Int32) (i3 : Int32) (i4 : Int32) (s0 : Int32) (s1 : Nat) (I : AI) : Option (Int32 × AI) :=
  (isK Z s1 11).bind fun u73_1 =>
  (f185 kad N Z s1 s0 I).bind fun r73_2 =>
  if ¬ r73_2.1 = 0 then
    (gR Z r73_2.2 11 65 a0).bind fun b82_3 =>
    (gI Z r73_2.2 11 60 a0).bind fun x86_4 =>
    (sI Z r73_2.2 100 b82_3 x86_4 i1).bind fun I90_5 =>
    (gR Z I90_5 11 66 a0).bind fun b92_6 =>
    (gI Z I90_5 11 60 a0).bind fun x96_7 =>
    (sI Z I90_5 100 b92_6 x96_7 i2).bind fun I100_8 =>
    (gR Z I100_8 11 67 a0).bind fun b102_9 =>
    (gI Z I100_8 11 60 a0).bind fun x106_10 =>
    (sI Z I100_8 100 b102_9 x106_10 i3).bind fun I110_11 =>
    (gR Z I110_11 11 68 a0).bind fun b112_12 =>
    (gI Z I110_11 11 60 a0).bind fun x116_13 =>
    (sI Z I110_11 100 b112_12 x116_13 i4).bind fun I121_14 =>
    (gR Z I121_14 11 69 a0).bind fun b123_15 =>
    (gI Z I121_14 11 60 a0).bind fun x127_16 =>
    (sI Z I121_14 100 b123_15 x127_16 (Int32.ofInt (-1))).bind fun I131_17 =>
    (gR Z I131_17 11 62 a0).bind fun b133_18 =>
    (gI Z I131_17 11 60 a0).bind fun x137_19 =>
    (gI Z I131_17 11 58 a0).bind fun x141_20 =>
    (sI Z I131_17 100 b133_18 x137_19 x141_20).bind fun I144_21 =>
    (gR Z I144_21 11 64 a0).bind fun b146_22 =>
    (gI Z I144_21 11 60 a0).bind fun x150_23 =>
    (gI Z I144_21 11 59 a0).bind fun x154_24 =>
    (sI Z I144_21 100 b146_22 x150_23 x154_24).bind fun I157_25 =>
    f298_b161 kad N Z N a0 (0 : Int32) I157_25
  else
    some ((0 : Int32), r73_2.2)
set_option maxRecDepth 20000 in
theorem Tf298_b73 {kad : Nat → Nat} {N : Nat} {Z : AZ} {d : Nat} {t : Option Nat × (Nat × Nat)} (hd : 1 ≤ d) : ∀ (a0 : Nat) (i1 : Int32) (i2 : Int32) (i3 : Int32) (i4 : Int32) (s0 : Int32) (s1 : Nat) (I : AI) (r : Int32 × AI), f298_b73 kad N Z a0 i1 i2 i3 i4 s0 s1 I = some r → aGo kad d 298 (73, ([(0, .ref a0), (1, .int i1), (2, .int i2), (3, .int i3), (4, .int i4)], [.int s0, .ref s1])) (aMem Z I, t) (qI Z t r) := by
  intro a0 i1 i2 i3 i4 s0 s1 I r h
  unfold f298_b73 at h
  obtain ⟨u73_1, hxu73_1, h⟩ := Option.bind_eq_some_iff.mp h
  obtain ⟨r73_2, hxr73_2, h⟩ := Option.bind_eq_some_iff.mp h
  refine gg_cv (as := [.int s0]) (r := []) aMi298 rfl rfl rfl aMi185 (Nat.le_of_ble_eq_true rfl) rfl (Nat.le_of_ble_eq_true rfl) (Nat.le_of_ble_eq_true rfl) (by omega) hxu73_1 (Tf185 (by omega) s1 s0 I _ hxr73_2) ?_
  show aGo kad d 298 (76, ([(0, .ref a0), (1, .int i1), (2, .int i2), (3, .int i3), (4, .int i4)], [.int r73_2.1])) (aMem Z r73_2.2, t) _
  refine gg_br (b := decide (¬ r73_2.1 = 0)) (tg := 81) (off := 5) aMi298 rfl rfl rfl rfl (fun hb => ?_) (fun hb => ?_)
  · rw [if_pos (of_decide_eq_true hb)] at h
    refine go_ops aMi298 1 _ (f1 := (82, ([(0, .ref a0), (1, .int i1), (2, .int i2), (3, .int i3), (4, .int i4)], [.ref a0]))) rfl ?_
    obtain ⟨b82_3, hxb82_3, h⟩ := Option.bind_eq_some_iff.mp h
    refine gg_gR aMi298 rfl rfl rfl hxb82_3 ?_
    refine go_ops aMi298 1 _ (f1 := (86, ([(0, .ref a0), (1, .int i1), (2, .int i2), (3, .int i3), (4, .int i4)], [.ref a0, .ref b82_3]))) rfl ?_
    obtain ⟨x86_4, hxx86_4, h⟩ := Option.bind_eq_some_iff.mp h
    refine gg_gI aMi298 rfl rfl rfl hxx86_4 ?_
    refine go_ops aMi298 1 _ (f1 := (90, ([(0, .ref a0), (1, .int i1), (2, .int i2), (3, .int i3), (4, .int i4)], [.int i1, .int x86_4, .ref b82_3]))) rfl ?_
    obtain ⟨I90_5, hxI90_5, h⟩ := Option.bind_eq_some_iff.mp h
    refine gg_sI (Or.inl ⟨rfl, rfl⟩) aMi298 rfl hxI90_5 ?_
    refine go_ops aMi298 1 _ (f1 := (92, ([(0, .ref a0), (1, .int i1), (2, .int i2), (3, .int i3), (4, .int i4)], [.ref a0]))) rfl ?_
    obtain ⟨b92_6, hxb92_6, h⟩ := Option.bind_eq_some_iff.mp h
    refine gg_gR aMi298 rfl rfl rfl hxb92_6 ?_
    refine go_ops aMi298 1 _ (f1 := (96, ([(0, .ref a0), (1, .int i1), (2, .int i2), (3, .int i3), (4, .int i4)], [.ref a0, .ref b92_6]))) rfl ?_
    obtain ⟨x96_7, hxx96_7, h⟩ := Option.bind_eq_some_iff.mp h
    refine gg_gI aMi298 rfl rfl rfl hxx96_7 ?_
    refine go_ops aMi298 1 _ (f1 := (100, ([(0, .ref a0), (1, .int i1), (2, .int i2), (3, .int i3), (4, .int i4)], [.int i2, .int x96_7, .ref b92_6]))) rfl ?_
    obtain ⟨I100_8, hxI100_8, h⟩ := Option.bind_eq_some_iff.mp h
    refine gg_sI (Or.inl ⟨rfl, rfl⟩) aMi298 rfl hxI100_8 ?_
    refine go_ops aMi298 1 _ (f1 := (102, ([(0, .ref a0), (1, .int i1), (2, .int i2), (3, .int i3), (4, .int i4)], [.ref a0]))) rfl ?_
    obtain ⟨b102_9, hxb102_9, h⟩ := Option.bind_eq_some_iff.mp h
    refine gg_gR aMi298 rfl rfl rfl hxb102_9 ?_
    refine go_ops aMi298 1 _ (f1 := (106, ([(0, .ref a0), (1, .int i1), (2, .int i2), (3, .int i3), (4, .int i4)], [.ref a0, .ref b102_9]))) rfl ?_
    obtain ⟨x106_10, hxx106_10, h⟩ := Option.bind_eq_some_iff.mp h
    refine gg_gI aMi298 rfl rfl rfl hxx106_10 ?_
    refine go_ops aMi298 1 _ (f1 := (110, ([(0, .ref a0), (1, .int i1), (2, .int i2), (3, .int i3), (4, .int i4)], [.int i3, .int x106_10, .ref b102_9]))) rfl ?_
    obtain ⟨I110_11, hxI110_11, h⟩ := Option.bind_eq_some_iff.mp h
    refine gg_sI (Or.inl ⟨rfl, rfl⟩) aMi298 rfl hxI110_11 ?_
    refine go_ops aMi298 1 _ (f1 := (112, ([(0, .ref a0), (1, .int i1), (2, .int i2), (3, .int i3), (4, .int i4)], [.ref a0]))) rfl ?_
    obtain ⟨b112_12, hxb112_12, h⟩ := Option.bind_eq_some_iff.mp h
    refine gg_gR aMi298 rfl rfl rfl hxb112_12 ?_
    refine go_ops aMi298 1 _ (f1 := (116, ([(0, .ref a0), (1, .int i1), (2, .int i2), (3, .int i3), (4, .int i4)], [.ref a0, .ref b112_12]))) rfl ?_
    obtain ⟨x116_13, hxx116_13, h⟩ := Option.bind_eq_some_iff.mp h
    refine gg_gI aMi298 rfl rfl rfl hxx116_13 ?_
    refine go_ops aMi298 1 _ (f1 := (121, ([(0, .ref a0), (1, .int i1), (2, .int i2), (3, .int i3), (4, .int i4)], [.int i4, .int x116_13, .ref b112_12]))) rfl ?_
    obtain ⟨I121_14, hxI121_14, h⟩ := Option.bind_eq_some_iff.mp h
    refine gg_sI (Or.inl ⟨rfl, rfl⟩) aMi298 rfl hxI121_14 ?_
    refine go_ops aMi298 1 _ (f1 := (123, ([(0, .ref a0), (1, .int i1), (2, .int i2), (3, .int i3), (4, .int i4)], [.ref a0]))) rfl ?_
    obtain ⟨b123_15, hxb123_15, h⟩ := Option.bind_eq_some_iff.mp h
    refine gg_gR aMi298 rfl rfl rfl hxb123_15 ?_
    refine go_ops aMi298 1 _ (f1 := (127, ([(0, .ref a0), (1, .int i1), (2, .int i2), (3, .int i3), (4, .int i4)], [.ref a0, .ref b123_15]))) rfl ?_
    obtain ⟨x127_16, hxx127_16, h⟩ := Option.bind_eq_some_iff.mp h
    refine gg_gI aMi298 rfl rfl rfl hxx127_16 ?_
    refine go_ops aMi298 1 _ (f1 := (131, ([(0, .ref a0), (1, .int i1), (2, .int i2), (3, .int i3), (4, .int i4)], [.int (Int32.ofInt (-1)), .int x127_16, .ref b123_15]))) rfl ?_
    obtain ⟨I131_17, hxI131_17, h⟩ := Option.bind_eq_some_iff.mp h
    refine gg_sI (Or.inl ⟨rfl, rfl⟩) aMi298 rfl hxI131_17 ?_
    refine go_ops aMi298 1 _ (f1 := (133, ([(0, .ref a0), (1, .int i1), (2, .int i2), (3, .int i3), (4, .int i4)], [.ref a0]))) rfl ?_
    obtain ⟨b133_18, hxb133_18, h⟩ := Option.bind_eq_some_iff.mp h
    refine gg_gR aMi298 rfl rfl rfl hxb133_18 ?_
    refine go_ops aMi298 1 _ (f1 := (137, ([(0, .ref a0), (1, .int i1), (2, .int i2), (3, .int i3), (4, .int i4)], [.ref a0, .ref b133_18]))) rfl ?_
    obtain ⟨x137_19, hxx137_19, h⟩ := Option.bind_eq_some_iff.mp h
    refine gg_gI aMi298 rfl rfl rfl hxx137_19 ?_
    refine go_ops aMi298 1 _ (f1 := (141, ([(0, .ref a0), (1, .int i1), (2, .int i2), (3, .int i3), (4, .int i4)], [.ref a0, .int x137_19, .ref b133_18]))) rfl ?_
    obtain ⟨x141_20, hxx141_20, h⟩ := Option.bind_eq_some_iff.mp h
    refine gg_gI aMi298 rfl rfl rfl hxx141_20 ?_
    obtain ⟨I144_21, hxI144_21, h⟩ := Option.bind_eq_some_iff.mp h
    refine gg_sI (Or.inl ⟨rfl, rfl⟩) aMi298 rfl hxI144_21 ?_
    refine go_ops aMi298 1 _ (f1 := (146, ([(0, .ref a0), (1, .int i1), (2, .int i2), (3, .int i3), (4, .int i4)], [.ref a0]))) rfl ?_
    obtain ⟨b146_22, hxb146_22, h⟩ := Option.bind_eq_some_iff.mp h
    refine gg_gR aMi298 rfl rfl rfl hxb146_22 ?_
    refine go_ops aMi298 1 _ (f1 := (150, ([(0, .ref a0), (1, .int i1), (2, .int i2), (3, .int i3), (4, .int i4)], [.ref a0, .ref b146_22]))) rfl ?_
    obtain ⟨x150_23, hxx150_23, h⟩ := Option.bind_eq_some_iff.mp h
    refine gg_gI aMi298 rfl rfl rfl hxx150_23 ?_
    refine go_ops aMi298 1 _ (f1 := (154, ([(0, .ref a0), (1, .int i1), (2, .int i2), (3, .int i3), (4, .int i4)], [.ref a0, .int x150_23, .ref b146_22]))) rfl ?_
    obtain ⟨x154_24, hxx154_24, h⟩ := Option.bind_eq_some_iff.mp h
    refine gg_gI aMi298 rfl rfl rfl hxx154_24 ?_
    obtain ⟨I157_25, hxI157_25, h⟩ := Option.bind_eq_some_iff.mp h
    refine gg_sI (Or.inl ⟨rfl, rfl⟩) aMi298 rfl hxI157_25 ?_
    refine go_ops aMi298 2 _ (f1 := (161, ([(6, .int (0 : Int32)), (0, .ref a0), (1, .int i1), (2, .int i2), (3, .int i3), (4, .int i4)], []))) rfl ?_
    refine go_le (lv1 := [(0, .ref a0), (6, .int (0 : Int32))]) (aLe_of (show (List.map (fun q => q.1) ([(0, .ref a0), (6, .int (0 : Int32))] : ALv)).Nodup from (by show ([0, 6] : List Nat).Nodup; decide)) (aSubL_cons rfl (aSubL_cons rfl aSubL_nil))) ?_
    exact Tf298_b161 hd N a0 (0 : Int32) I157_25 _ h
  · rw [if_neg (of_decide_eq_false hb)] at h
    refine go_ops aMi298 1 _ (f1 := (80, ([(0, .ref a0), (1, .int i1), (2, .int i2), (3, .int i3), (4, .int i4)], [.int (0 : Int32)]))) rfl ?_
    cases h
    exact go_ret aMi298 rfl aRetI ⟨rfl, rfl⟩
def f298_b48 (kad : Nat → Nat) (N : Nat) (Z : AZ) (a0 : Nat) (i1 : Int32) (i2 : Int32) (i3 : Int32) (i4 : Int32) (s0 : Int32) (I : AI) : Option (Int32 × AI) :=
  if ¬ s0 = 0 then
    (gI Z I 11 60 a0).bind fun x61_1 =>
    if ¬ x61_1 = (5 : Int32) then
      f298_b73 kad N Z a0 i1 i2 i3 i4 (0 : Int32) a0 I
    else
      f298_b73 kad N Z a0 i1 i2 i3 i4 (2 : Int32) a0 I
  else
    f298_b73 kad N Z a0 i1 i2 i3 i4 (1 : Int32) a0 I
set_option maxRecDepth 20000 in
theorem Tf298_b48 {kad : Nat → Nat} {N : Nat} {Z : AZ} {d : Nat} {t : Option Nat × (Nat × Nat)} (hd : 1 ≤ d) : ∀ (a0 : Nat) (i1 : Int32) (i2 : Int32) (i3 : Int32) (i4 : Int32) (s0 : Int32) (I : AI) (r : Int32 × AI), f298_b48 kad N Z a0 i1 i2 i3 i4 s0 I = some r → aGo kad d 298 (48, ([(0, .ref a0), (1, .int i1), (2, .int i2), (3, .int i3), (4, .int i4)], [.int s0])) (aMem Z I, t) (qI Z t r) := by
  intro a0 i1 i2 i3 i4 s0 I r h
  unfold f298_b48 at h
  refine go_ops aMi298 3 _ (f1 := (53, ([(5, .int s0), (0, .ref a0), (1, .int i1), (2, .int i2), (3, .int i3), (4, .int i4)], [.int s0, .ref a0]))) rfl ?_
  refine gg_br (b := decide (¬ s0 = 0)) (tg := 60) (off := 7) aMi298 rfl rfl rfl rfl (fun hb => ?_) (fun hb => ?_)
  · rw [if_pos (of_decide_eq_true hb)] at h
    refine go_ops aMi298 1 _ (f1 := (61, ([(5, .int s0), (0, .ref a0), (1, .int i1), (2, .int i2), (3, .int i3), (4, .int i4)], [.ref a0, .ref a0]))) rfl ?_
    obtain ⟨x61_1, hxx61_1, h⟩ := Option.bind_eq_some_iff.mp h
    refine gg_gI aMi298 rfl rfl rfl hxx61_1 ?_
    refine go_ops aMi298 1 _ (f1 := (65, ([(5, .int s0), (0, .ref a0), (1, .int i1), (2, .int i2), (3, .int i3), (4, .int i4)], [.int (5 : Int32), .int x61_1, .ref a0]))) rfl ?_
    refine gg_br (b := decide (¬ x61_1 = (5 : Int32))) (tg := 72) (off := 7) aMi298 rfl rfl rfl rfl (fun hb => ?_) (fun hb => ?_)
    · rw [if_pos (of_decide_eq_true hb)] at h
      refine go_ops aMi298 1 _ (f1 := (73, ([(5, .int s0), (0, .ref a0), (1, .int i1), (2, .int i2), (3, .int i3), (4, .int i4)], [.int (0 : Int32), .ref a0]))) rfl ?_
      refine go_le (lv1 := [(0, .ref a0), (1, .int i1), (2, .int i2), (3, .int i3), (4, .int i4)]) (aLe_of (show (List.map (fun q => q.1) ([(0, .ref a0), (1, .int i1), (2, .int i2), (3, .int i3), (4, .int i4)] : ALv)).Nodup from (by show ([0, 1, 2, 3, 4] : List Nat).Nodup; decide)) (aSubL_cons rfl (aSubL_cons rfl (aSubL_cons rfl (aSubL_cons rfl (aSubL_cons rfl aSubL_nil)))))) ?_
      exact Tf298_b73 hd a0 i1 i2 i3 i4 (0 : Int32) a0 I _ h
    · rw [if_neg (of_decide_eq_false hb)] at h
      refine go_ops aMi298 2 _ (f1 := (73, ([(5, .int s0), (0, .ref a0), (1, .int i1), (2, .int i2), (3, .int i3), (4, .int i4)], [.int (2 : Int32), .ref a0]))) rfl ?_
      refine go_le (lv1 := [(0, .ref a0), (1, .int i1), (2, .int i2), (3, .int i3), (4, .int i4)]) (aLe_of (show (List.map (fun q => q.1) ([(0, .ref a0), (1, .int i1), (2, .int i2), (3, .int i3), (4, .int i4)] : ALv)).Nodup from (by show ([0, 1, 2, 3, 4] : List Nat).Nodup; decide)) (aSubL_cons rfl (aSubL_cons rfl (aSubL_cons rfl (aSubL_cons rfl (aSubL_cons rfl aSubL_nil)))))) ?_
      exact Tf298_b73 hd a0 i1 i2 i3 i4 (2 : Int32) a0 I _ h
  · rw [if_neg (of_decide_eq_false hb)] at h
    refine go_ops aMi298 2 _ (f1 := (73, ([(5, .int s0), (0, .ref a0), (1, .int i1), (2, .int i2), (3, .int i3), (4, .int i4)], [.int (1 : Int32), .ref a0]))) rfl ?_
    refine go_le (lv1 := [(0, .ref a0), (1, .int i1), (2, .int i2), (3, .int i3), (4, .int i4)]) (aLe_of (show (List.map (fun q => q.1) ([(0, .ref a0), (1, .int i1), (2, .int i2), (3, .int i3), (4, .int i4)] : ALv)).Nodup from (by show ([0, 1, 2, 3, 4] : List Nat).Nodup; decide)) (aSubL_cons rfl (aSubL_cons rfl (aSubL_cons rfl (aSubL_cons rfl (aSubL_cons rfl aSubL_nil)))))) ?_
    exact Tf298_b73 hd a0 i1 i2 i3 i4 (1 : Int32) a0 I _ h
def f298_b47 (kad : Nat → Nat) (N : Nat) (Z : AZ) (a0 : Nat) (i1 : Int32) (i2 : Int32) (i3 : Int32) (i4 : Int32) (I : AI) : Option (Int32 × AI) :=
  f298_b48 kad N Z a0 i1 i2 i3 i4 (0 : Int32) I
set_option maxRecDepth 20000 in
theorem Tf298_b47 {kad : Nat → Nat} {N : Nat} {Z : AZ} {d : Nat} {t : Option Nat × (Nat × Nat)} (hd : 1 ≤ d) : ∀ (a0 : Nat) (i1 : Int32) (i2 : Int32) (i3 : Int32) (i4 : Int32) (I : AI) (r : Int32 × AI), f298_b47 kad N Z a0 i1 i2 i3 i4 I = some r → aGo kad d 298 (47, ([(0, .ref a0), (1, .int i1), (2, .int i2), (3, .int i3), (4, .int i4)], [])) (aMem Z I, t) (qI Z t r) := by
  intro a0 i1 i2 i3 i4 I r h
  unfold f298_b47 at h
  refine go_ops aMi298 1 _ (f1 := (48, ([(0, .ref a0), (1, .int i1), (2, .int i2), (3, .int i3), (4, .int i4)], [.int (0 : Int32)]))) rfl ?_
  exact Tf298_b48 hd a0 i1 i2 i3 i4 (0 : Int32) I _ h
def f298 (kad : Nat → Nat) (N : Nat) (Z : AZ) (a0 : Nat) (i1 : Int32) (i2 : Int32) (i3 : Int32) (i4 : Int32) (I : AI) : Option (Int32 × AI) :=
  (f186 kad N Z i1 (1 : Int32) (500 : Int32) I).bind fun r5_1 =>
  if r5_1.1 = 0 then
    f298_b47 kad N Z a0 i1 i2 i3 i4 r5_1.2
  else
    (f186 kad N Z i2 (0 : Int32) (100 : Int32) r5_1.2).bind fun r15_2 =>
    if r15_2.1 = 0 then
      f298_b47 kad N Z a0 i1 i2 i3 i4 r15_2.2
    else
      (f186 kad N Z i3 (1 : Int32) (20 : Int32) r15_2.2).bind fun r25_3 =>
      if r25_3.1 = 0 then
        f298_b47 kad N Z a0 i1 i2 i3 i4 r25_3.2
      else
        (f186 kad N Z i4 (0 : Int32) (500 : Int32) r25_3.2).bind fun r37_4 =>
        if r37_4.1 = 0 then
          f298_b47 kad N Z a0 i1 i2 i3 i4 r37_4.2
        else
          f298_b48 kad N Z a0 i1 i2 i3 i4 (1 : Int32) r37_4.2
set_option maxRecDepth 20000 in
theorem Tf298 {kad : Nat → Nat} {N : Nat} {Z : AZ} {d : Nat} {t : Option Nat × (Nat × Nat)} (hd : 1 ≤ d) : ∀ (a0 : Nat) (i1 : Int32) (i2 : Int32) (i3 : Int32) (i4 : Int32) (I : AI) (r : Int32 × AI), f298 kad N Z a0 i1 i2 i3 i4 I = some r → aGo kad d 298 (0, ([(0, .ref a0), (1, .int i1), (2, .int i2), (3, .int i3), (4, .int i4)], [])) (aMem Z I, t) (qI Z t r) := by
  intro a0 i1 i2 i3 i4 I r h
  unfold f298 at h
  refine go_ops aMi298 3 _ (f1 := (5, ([(0, .ref a0), (1, .int i1), (2, .int i2), (3, .int i3), (4, .int i4)], [.int (500 : Int32), .int (1 : Int32), .int i1]))) rfl ?_
  obtain ⟨r5_1, hxr5_1, h⟩ := Option.bind_eq_some_iff.mp h
  refine gg_cs (as := [.int i1, .int (1 : Int32), .int (500 : Int32)]) (r := []) aMi298 rfl rfl rfl aMi186 rfl (Nat.le_of_ble_eq_true rfl) (Nat.le_of_ble_eq_true rfl) (by omega) (Tf186 (by omega) i1 (1 : Int32) (500 : Int32) I _ hxr5_1) ?_
  show aGo kad d 298 (8, ([(0, .ref a0), (1, .int i1), (2, .int i2), (3, .int i3), (4, .int i4)], [.int r5_1.1])) (aMem Z r5_1.2, t) _
  refine gg_br (b := decide (r5_1.1 = 0)) (tg := 47) (off := 39) aMi298 rfl rfl rfl rfl (fun hb => ?_) (fun hb => ?_)
  · rw [if_pos (of_decide_eq_true hb)] at h
    exact Tf298_b47 hd a0 i1 i2 i3 i4 r5_1.2 _ h
  · rw [if_neg (of_decide_eq_false hb)] at h
    refine go_ops aMi298 3 _ (f1 := (15, ([(0, .ref a0), (1, .int i1), (2, .int i2), (3, .int i3), (4, .int i4)], [.int (100 : Int32), .int (0 : Int32), .int i2]))) rfl ?_
    obtain ⟨r15_2, hxr15_2, h⟩ := Option.bind_eq_some_iff.mp h
    refine gg_cs (as := [.int i2, .int (0 : Int32), .int (100 : Int32)]) (r := []) aMi298 rfl rfl rfl aMi186 rfl (Nat.le_of_ble_eq_true rfl) (Nat.le_of_ble_eq_true rfl) (by omega) (Tf186 (by omega) i2 (0 : Int32) (100 : Int32) r5_1.2 _ hxr15_2) ?_
    show aGo kad d 298 (18, ([(0, .ref a0), (1, .int i1), (2, .int i2), (3, .int i3), (4, .int i4)], [.int r15_2.1])) (aMem Z r15_2.2, t) _
    refine gg_br (b := decide (r15_2.1 = 0)) (tg := 47) (off := 29) aMi298 rfl rfl rfl rfl (fun hb => ?_) (fun hb => ?_)
    · rw [if_pos (of_decide_eq_true hb)] at h
      exact Tf298_b47 hd a0 i1 i2 i3 i4 r15_2.2 _ h
    · rw [if_neg (of_decide_eq_false hb)] at h
      refine go_ops aMi298 3 _ (f1 := (25, ([(0, .ref a0), (1, .int i1), (2, .int i2), (3, .int i3), (4, .int i4)], [.int (20 : Int32), .int (1 : Int32), .int i3]))) rfl ?_
      obtain ⟨r25_3, hxr25_3, h⟩ := Option.bind_eq_some_iff.mp h
      refine gg_cs (as := [.int i3, .int (1 : Int32), .int (20 : Int32)]) (r := []) aMi298 rfl rfl rfl aMi186 rfl (Nat.le_of_ble_eq_true rfl) (Nat.le_of_ble_eq_true rfl) (by omega) (Tf186 (by omega) i3 (1 : Int32) (20 : Int32) r15_2.2 _ hxr25_3) ?_
      show aGo kad d 298 (28, ([(0, .ref a0), (1, .int i1), (2, .int i2), (3, .int i3), (4, .int i4)], [.int r25_3.1])) (aMem Z r25_3.2, t) _
      refine gg_br (b := decide (r25_3.1 = 0)) (tg := 47) (off := 19) aMi298 rfl rfl rfl rfl (fun hb => ?_) (fun hb => ?_)
      · rw [if_pos (of_decide_eq_true hb)] at h
        exact Tf298_b47 hd a0 i1 i2 i3 i4 r25_3.2 _ h
      · rw [if_neg (of_decide_eq_false hb)] at h
        refine go_ops aMi298 3 _ (f1 := (37, ([(0, .ref a0), (1, .int i1), (2, .int i2), (3, .int i3), (4, .int i4)], [.int (500 : Int32), .int (0 : Int32), .int i4]))) rfl ?_
        obtain ⟨r37_4, hxr37_4, h⟩ := Option.bind_eq_some_iff.mp h
        refine gg_cs (as := [.int i4, .int (0 : Int32), .int (500 : Int32)]) (r := []) aMi298 rfl rfl rfl aMi186 rfl (Nat.le_of_ble_eq_true rfl) (Nat.le_of_ble_eq_true rfl) (by omega) (Tf186 (by omega) i4 (0 : Int32) (500 : Int32) r25_3.2 _ hxr37_4) ?_
        show aGo kad d 298 (40, ([(0, .ref a0), (1, .int i1), (2, .int i2), (3, .int i3), (4, .int i4)], [.int r37_4.1])) (aMem Z r37_4.2, t) _
        refine gg_br (b := decide (r37_4.1 = 0)) (tg := 47) (off := 7) aMi298 rfl rfl rfl rfl (fun hb => ?_) (fun hb => ?_)
        · rw [if_pos (of_decide_eq_true hb)] at h
          exact Tf298_b47 hd a0 i1 i2 i3 i4 r37_4.2 _ h
        · rw [if_neg (of_decide_eq_false hb)] at h
          refine go_ops aMi298 2 _ (f1 := (48, ([(0, .ref a0), (1, .int i1), (2, .int i2), (3, .int i3), (4, .int i4)], [.int (1 : Int32)]))) rfl ?_
          exact Tf298_b48 hd a0 i1 i2 i3 i4 (1 : Int32) r37_4.2 _ h
-- KernelGymModel.tests ()I
def f299 (kad : Nat → Nat) (N : Nat) (Z : AZ) (a0 : Nat) (I : AI) : Option (Int32 × AI) :=
  (pI Z I 11 0 a0 (0 : Int32)).bind fun I2_1 =>
  (gI Z I2_1 11 60 a0).bind fun x6_2 =>
  some (x6_2, I2_1)
set_option maxRecDepth 20000 in
theorem Tf299 {kad : Nat → Nat} {N : Nat} {Z : AZ} {d : Nat} {t : Option Nat × (Nat × Nat)} (hd : 0 ≤ d) : ∀ (a0 : Nat) (I : AI) (r : Int32 × AI), f299 kad N Z a0 I = some r → aGo kad d 299 (0, ([(0, .ref a0)], [])) (aMem Z I, t) (qI Z t r) := by
  intro a0 I r h
  unfold f299 at h
  refine go_ops aMi299 2 _ (f1 := (2, ([(0, .ref a0)], [.int (0 : Int32), .ref a0]))) rfl ?_
  obtain ⟨I2_1, hxI2_1, h⟩ := Option.bind_eq_some_iff.mp h
  refine gg_pI aMi299 rfl rfl rfl rfl (by decide) hxI2_1 ?_
  refine go_ops aMi299 1 _ (f1 := (6, ([(0, .ref a0)], [.ref a0]))) rfl ?_
  obtain ⟨x6_2, hxx6_2, h⟩ := Option.bind_eq_some_iff.mp h
  refine gg_gI aMi299 rfl rfl rfl hxx6_2 ?_
  cases h
  exact go_ret aMi299 rfl aRetI ⟨rfl, rfl⟩
-- KernelGymModel.isTapeOf (I)Z
def f300_b58 (kad : Nat → Nat) (N : Nat) (Z : AZ) (k21 : Nat → Int32 → Int32 → Int32 → AI → Option (Int32 × AI)) (a0 : Nat) (i1 : Int32) (i3 : Int32) (s0 : Int32) (I : AI) : Option (Int32 × AI) :=
  k21 a0 i1 s0 (i3 + (1 : Int32)) I
set_option maxRecDepth 20000 in
theorem Tf300_b58 {kad : Nat → Nat} {N : Nat} {Z : AZ} {d : Nat} {t : Option Nat × (Nat × Nat)} (hd : 0 ≤ d) (k21 : Nat → Int32 → Int32 → Int32 → AI → Option (Int32 × AI))  (hk21 : ∀ (a0 : Nat) (i1 : Int32) (i2 : Int32) (i3 : Int32)  (I : AI) (r : Int32 × AI), k21 a0 i1 i2 i3 I = some r → aGo kad d 300 (21, ([(0, .ref a0), (1, .int i1), (2, .int i2), (3, .int i3)], [])) (aMem Z I, t) (qI Z t r)) : ∀ (a0 : Nat) (i1 : Int32) (i3 : Int32) (s0 : Int32) (I : AI) (r : Int32 × AI), f300_b58 kad N Z k21 a0 i1 i3 s0 I = some r → aGo kad d 300 (58, ([(0, .ref a0), (1, .int i1), (3, .int i3)], [.int s0])) (aMem Z I, t) (qI Z t r) := by
  intro a0 i1 i3 s0 I r h
  unfold f300_b58 at h
  refine go_ops aMi300 3 _ (f1 := (21, ([(3, .int (i3 + (1 : Int32))), (2, .int s0), (0, .ref a0), (1, .int i1)], []))) rfl ?_
  refine go_le (lv1 := [(0, .ref a0), (1, .int i1), (2, .int s0), (3, .int (i3 + (1 : Int32)))]) (aLe_of (show (List.map (fun q => q.1) ([(0, .ref a0), (1, .int i1), (2, .int s0), (3, .int (i3 + (1 : Int32)))] : ALv)).Nodup from (by show ([0, 1, 2, 3] : List Nat).Nodup; decide)) (aSubL_cons rfl (aSubL_cons rfl (aSubL_cons rfl (aSubL_cons rfl aSubL_nil))))) ?_
  exact hk21 a0 i1 s0 (i3 + (1 : Int32)) I _ h
def f300_b65 (kad : Nat → Nat) (N : Nat) (Z : AZ) (i2 : Int32) (I : AI) : Option (Int32 × AI) :=
  if i2 = 0 ∨ i2 = 1 then some (i2, I) else none
set_option maxRecDepth 20000 in
theorem Tf300_b65 {kad : Nat → Nat} {N : Nat} {Z : AZ} {d : Nat} {t : Option Nat × (Nat × Nat)} (hd : 0 ≤ d) : ∀ (i2 : Int32) (I : AI) (r : Int32 × AI), f300_b65 kad N Z i2 I = some r → aGo kad d 300 (65, ([(2, .int i2)], [])) (aMem Z I, t) (qI Z t r) := by
  intro i2 I r h
  unfold f300_b65 at h
  refine go_ops aMi300 1 _ (f1 := (66, ([(2, .int i2)], [.int i2]))) rfl ?_
  split at h
  · rename_i hz
    cases h
    exact go_ret aMi300 rfl (aRetZ hz) ⟨rfl, rfl⟩
  · cases h
def f300_b21 (kad : Nat → Nat) (N : Nat) (Z : AZ) : Nat → Nat → Int32 → Int32 → Int32 → AI → Option (Int32 × AI)
  | 0, _, _, _, _, _ => none
  | F + 1, a0, i1, i2, i3, I =>
    (gI Z I 11 37 a0).bind fun x23_1 =>
    if x23_1 ≤ i3 then
      f300_b65 kad N Z i2 I
    else
      if i2 = 0 then
        f300_b65 kad N Z i2 I
      else
        (gR Z I 11 36 a0).bind fun b34_2 =>
        (lI Z I 100 b34_2 i3).bind fun x38_3 =>
        (gR Z I 11 63 a0).bind fun b40_4 =>
        (lI Z I 100 b40_4 (((6 : Int32) * i1) + i3)).bind fun x49_5 =>
        if ¬ x38_3 = x49_5 then
          f300_b58 kad N Z (fun p0 p1 p2 p3 I => f300_b21 kad N Z F p0 p1 p2 p3 I) a0 i1 i3 (0 : Int32) I
        else
          f300_b58 kad N Z (fun p0 p1 p2 p3 I => f300_b21 kad N Z F p0 p1 p2 p3 I) a0 i1 i3 (1 : Int32) I
set_option maxRecDepth 20000 in
theorem Tf300_b21 {kad : Nat → Nat} {N : Nat} {Z : AZ} {d : Nat} {t : Option Nat × (Nat × Nat)} (hd : 0 ≤ d) : ∀ (F : Nat) (a0 : Nat) (i1 : Int32) (i2 : Int32) (i3 : Int32) (I : AI) (r : Int32 × AI), f300_b21 kad N Z F a0 i1 i2 i3 I = some r → aGo kad d 300 (21, ([(0, .ref a0), (1, .int i1), (2, .int i2), (3, .int i3)], [])) (aMem Z I, t) (qI Z t r) := by
  intro F
  induction F with
  | zero => intro a0 i1 i2 i3 I r h; cases h
  | succ F ih =>
    intro a0 i1 i2 i3 I r h
    unfold f300_b21 at h
    refine go_ops aMi300 2 _ (f1 := (23, ([(0, .ref a0), (1, .int i1), (2, .int i2), (3, .int i3)], [.ref a0, .int i3]))) rfl ?_
    obtain ⟨x23_1, hxx23_1, h⟩ := Option.bind_eq_some_iff.mp h
    refine gg_gI aMi300 rfl rfl rfl hxx23_1 ?_
    refine gg_br (b := decide (x23_1 ≤ i3)) (tg := 65) (off := 39) aMi300 rfl rfl rfl rfl (fun hb => ?_) (fun hb => ?_)
    · rw [if_pos (of_decide_eq_true hb)] at h
      refine go_le (lv1 := [(2, .int i2)]) (aLe_of (show (List.map (fun q => q.1) ([(2, .int i2)] : ALv)).Nodup from (by show ([2] : List Nat).Nodup; decide)) (aSubL_cons rfl aSubL_nil)) ?_
      exact Tf300_b65 hd i2 I _ h
    · rw [if_neg (of_decide_eq_false hb)] at h
      refine go_ops aMi300 1 _ (f1 := (30, ([(0, .ref a0), (1, .int i1), (2, .int i2), (3, .int i3)], [.int i2]))) rfl ?_
      refine gg_br (b := decide (i2 = 0)) (tg := 65) (off := 35) aMi300 rfl rfl rfl rfl (fun hb => ?_) (fun hb => ?_)
      · rw [if_pos (of_decide_eq_true hb)] at h
        refine go_le (lv1 := [(2, .int i2)]) (aLe_of (show (List.map (fun q => q.1) ([(2, .int i2)] : ALv)).Nodup from (by show ([2] : List Nat).Nodup; decide)) (aSubL_cons rfl aSubL_nil)) ?_
        exact Tf300_b65 hd i2 I _ h
      · rw [if_neg (of_decide_eq_false hb)] at h
        refine go_ops aMi300 1 _ (f1 := (34, ([(0, .ref a0), (1, .int i1), (2, .int i2), (3, .int i3)], [.ref a0]))) rfl ?_
        obtain ⟨b34_2, hxb34_2, h⟩ := Option.bind_eq_some_iff.mp h
        refine gg_gR aMi300 rfl rfl rfl hxb34_2 ?_
        refine go_ops aMi300 1 _ (f1 := (38, ([(0, .ref a0), (1, .int i1), (2, .int i2), (3, .int i3)], [.int i3, .ref b34_2]))) rfl ?_
        obtain ⟨x38_3, hxx38_3, h⟩ := Option.bind_eq_some_iff.mp h
        refine gg_lI (Or.inl ⟨rfl, rfl⟩) aMi300 rfl hxx38_3 ?_
        refine go_ops aMi300 1 _ (f1 := (40, ([(0, .ref a0), (1, .int i1), (2, .int i2), (3, .int i3)], [.ref a0, .int x38_3]))) rfl ?_
        obtain ⟨b40_4, hxb40_4, h⟩ := Option.bind_eq_some_iff.mp h
        refine gg_gR aMi300 rfl rfl rfl hxb40_4 ?_
        refine go_ops aMi300 5 _ (f1 := (49, ([(0, .ref a0), (1, .int i1), (2, .int i2), (3, .int i3)], [.int (((6 : Int32) * i1) + i3), .ref b40_4, .int x38_3]))) rfl ?_
        obtain ⟨x49_5, hxx49_5, h⟩ := Option.bind_eq_some_iff.mp h
        refine gg_lI (Or.inl ⟨rfl, rfl⟩) aMi300 rfl hxx49_5 ?_
        refine gg_br (b := decide (¬ x38_3 = x49_5)) (tg := 57) (off := 7) aMi300 rfl rfl rfl rfl (fun hb => ?_) (fun hb => ?_)
        · rw [if_pos (of_decide_eq_true hb)] at h
          refine go_ops aMi300 1 _ (f1 := (58, ([(0, .ref a0), (1, .int i1), (2, .int i2), (3, .int i3)], [.int (0 : Int32)]))) rfl ?_
          refine go_le (lv1 := [(0, .ref a0), (1, .int i1), (3, .int i3)]) (aLe_of (show (List.map (fun q => q.1) ([(0, .ref a0), (1, .int i1), (3, .int i3)] : ALv)).Nodup from (by show ([0, 1, 3] : List Nat).Nodup; decide)) (aSubL_cons rfl (aSubL_cons rfl (aSubL_cons rfl aSubL_nil)))) ?_
          exact Tf300_b58 hd (fun p0 p1 p2 p3 I => f300_b21 kad N Z F p0 p1 p2 p3 I) (fun p0 p1 p2 p3 I r hh => ih p0 p1 p2 p3 I r hh) a0 i1 i3 (0 : Int32) I _ h
        · rw [if_neg (of_decide_eq_false hb)] at h
          refine go_ops aMi300 2 _ (f1 := (58, ([(0, .ref a0), (1, .int i1), (2, .int i2), (3, .int i3)], [.int (1 : Int32)]))) rfl ?_
          refine go_le (lv1 := [(0, .ref a0), (1, .int i1), (3, .int i3)]) (aLe_of (show (List.map (fun q => q.1) ([(0, .ref a0), (1, .int i1), (3, .int i3)] : ALv)).Nodup from (by show ([0, 1, 3] : List Nat).Nodup; decide)) (aSubL_cons rfl (aSubL_cons rfl (aSubL_cons rfl aSubL_nil)))) ?_
          exact Tf300_b58 hd (fun p0 p1 p2 p3 I => f300_b21 kad N Z F p0 p1 p2 p3 I) (fun p0 p1 p2 p3 I r hh => ih p0 p1 p2 p3 I r hh) a0 i1 i3 (1 : Int32) I _ h
def f300_b18 (kad : Nat → Nat) (N : Nat) (Z : AZ) (a0 : Nat) (i1 : Int32) (s0 : Int32) (I : AI) : Option (Int32 × AI) :=
  f300_b21 kad N Z N a0 i1 s0 (0 : Int32) I
set_option maxRecDepth 20000 in
theorem Tf300_b18 {kad : Nat → Nat} {N : Nat} {Z : AZ} {d : Nat} {t : Option Nat × (Nat × Nat)} (hd : 0 ≤ d) : ∀ (a0 : Nat) (i1 : Int32) (s0 : Int32) (I : AI) (r : Int32 × AI), f300_b18 kad N Z a0 i1 s0 I = some r → aGo kad d 300 (18, ([(0, .ref a0), (1, .int i1)], [.int s0])) (aMem Z I, t) (qI Z t r) := by
  intro a0 i1 s0 I r h
  unfold f300_b18 at h
  refine go_ops aMi300 3 _ (f1 := (21, ([(3, .int (0 : Int32)), (2, .int s0), (0, .ref a0), (1, .int i1)], []))) rfl ?_
  refine go_le (lv1 := [(0, .ref a0), (1, .int i1), (2, .int s0), (3, .int (0 : Int32))]) (aLe_of (show (List.map (fun q => q.1) ([(0, .ref a0), (1, .int i1), (2, .int s0), (3, .int (0 : Int32))] : ALv)).Nodup from (by show ([0, 1, 2, 3] : List Nat).Nodup; decide)) (aSubL_cons rfl (aSubL_cons rfl (aSubL_cons rfl (aSubL_cons rfl aSubL_nil))))) ?_
  exact Tf300_b21 hd N a0 i1 s0 (0 : Int32) I _ h
def f300 (kad : Nat → Nat) (N : Nat) (Z : AZ) (a0 : Nat) (i1 : Int32) (I : AI) : Option (Int32 × AI) :=
  (gI Z I 11 37 a0).bind fun x1_1 =>
  (gR Z I 11 64 a0).bind fun b5_2 =>
  (lI Z I 100 b5_2 i1).bind fun x9_3 =>
  if ¬ x1_1 = x9_3 then
    f300_b18 kad N Z a0 i1 (0 : Int32) I
  else
    f300_b18 kad N Z a0 i1 (1 : Int32) I
set_option maxRecDepth 20000 in
theorem Tf300 {kad : Nat → Nat} {N : Nat} {Z : AZ} {d : Nat} {t : Option Nat × (Nat × Nat)} (hd : 0 ≤ d) : ∀ (a0 : Nat) (i1 : Int32) (I : AI) (r : Int32 × AI), f300 kad N Z a0 i1 I = some r → aGo kad d 300 (0, ([(0, .ref a0), (1, .int i1)], [])) (aMem Z I, t) (qI Z t r) := by
  intro a0 i1 I r h
  unfold f300 at h
  refine go_ops aMi300 1 _ (f1 := (1, ([(0, .ref a0), (1, .int i1)], [.ref a0]))) rfl ?_
  obtain ⟨x1_1, hxx1_1, h⟩ := Option.bind_eq_some_iff.mp h
  refine gg_gI aMi300 rfl rfl rfl hxx1_1 ?_
  refine go_ops aMi300 1 _ (f1 := (5, ([(0, .ref a0), (1, .int i1)], [.ref a0, .int x1_1]))) rfl ?_
  obtain ⟨b5_2, hxb5_2, h⟩ := Option.bind_eq_some_iff.mp h
  refine gg_gR aMi300 rfl rfl rfl hxb5_2 ?_
  refine go_ops aMi300 1 _ (f1 := (9, ([(0, .ref a0), (1, .int i1)], [.int i1, .ref b5_2, .int x1_1]))) rfl ?_
  obtain ⟨x9_3, hxx9_3, h⟩ := Option.bind_eq_some_iff.mp h
  refine gg_lI (Or.inl ⟨rfl, rfl⟩) aMi300 rfl hxx9_3 ?_
  refine gg_br (b := decide (¬ x1_1 = x9_3)) (tg := 17) (off := 7) aMi300 rfl rfl rfl rfl (fun hb => ?_) (fun hb => ?_)
  · rw [if_pos (of_decide_eq_true hb)] at h
    refine go_ops aMi300 1 _ (f1 := (18, ([(0, .ref a0), (1, .int i1)], [.int (0 : Int32)]))) rfl ?_
    exact Tf300_b18 hd a0 i1 (0 : Int32) I _ h
  · rw [if_neg (of_decide_eq_false hb)] at h
    refine go_ops aMi300 2 _ (f1 := (18, ([(0, .ref a0), (1, .int i1)], [.int (1 : Int32)]))) rfl ?_
    exact Tf300_b18 hd a0 i1 (1 : Int32) I _ h
-- KernelGymModel.madeTest (I)I
def f301_b161 (kad : Nat → Nat) (N : Nat) (Z : AZ) (s0 : Int32) (I : AI) : Option (Int32 × AI) :=
  some (s0, I)
set_option maxRecDepth 20000 in
theorem Tf301_b161 {kad : Nat → Nat} {N : Nat} {Z : AZ} {d : Nat} {t : Option Nat × (Nat × Nat)} (hd : 7 ≤ d) : ∀ (s0 : Int32) (I : AI) (r : Int32 × AI), f301_b161 kad N Z s0 I = some r → aGo kad d 301 (161, ([], [.int s0])) (aMem Z I, t) (qI Z t r) := by
  intro s0 I r h
  unfold f301_b161 at h
  cases h
  exact go_ret aMi301 rfl aRetI ⟨rfl, rfl⟩
def f301_b148 (kad : Nat → Nat) (N : Nat) (Z : AZ) (a0 : Nat) (I : AI) : Option (Int32 × AI) :=
  (gI Z I 11 23 a0).bind fun x149_1 =>
  if ¬ x149_1 = (3 : Int32) then
    f301_b161 kad N Z (2 : Int32) I
  else
    f301_b161 kad N Z (1 : Int32) I
set_option maxRecDepth 20000 in
theorem Tf301_b148 {kad : Nat → Nat} {N : Nat} {Z : AZ} {d : Nat} {t : Option Nat × (Nat × Nat)} (hd : 7 ≤ d) : ∀ (a0 : Nat) (I : AI) (r : Int32 × AI), f301_b148 kad N Z a0 I = some r → aGo kad d 301 (148, ([(0, .ref a0)], [])) (aMem Z I, t) (qI Z t r) := by
  intro a0 I r h
  unfold f301_b148 at h
  refine go_ops aMi301 1 _ (f1 := (149, ([(0, .ref a0)], [.ref a0]))) rfl ?_
  obtain ⟨x149_1, hxx149_1, h⟩ := Option.bind_eq_some_iff.mp h
  refine gg_gI aMi301 rfl rfl rfl hxx149_1 ?_
  refine go_ops aMi301 1 _ (f1 := (153, ([(0, .ref a0)], [.int (3 : Int32), .int x149_1]))) rfl ?_
  refine gg_br (b := decide (¬ x149_1 = (3 : Int32))) (tg := 160) (off := 7) aMi301 rfl rfl rfl rfl (fun hb => ?_) (fun hb => ?_)
  · rw [if_pos (of_decide_eq_true hb)] at h
    refine go_ops aMi301 1 _ (f1 := (161, ([(0, .ref a0)], [.int (2 : Int32)]))) rfl ?_
    refine go_le (lv1 := []) (aLe_of (show (List.map (fun q => q.1) ([] : ALv)).Nodup from (by show ([] : List Nat).Nodup; decide)) aSubL_nil) ?_
    exact Tf301_b161 hd (2 : Int32) I _ h
  · rw [if_neg (of_decide_eq_false hb)] at h
    refine go_ops aMi301 2 _ (f1 := (161, ([(0, .ref a0)], [.int (1 : Int32)]))) rfl ?_
    refine go_le (lv1 := []) (aLe_of (show (List.map (fun q => q.1) ([] : ALv)).Nodup from (by show ([] : List Nat).Nodup; decide)) aSubL_nil) ?_
    exact Tf301_b161 hd (1 : Int32) I _ h
def f301_b203 (kad : Nat → Nat) (N : Nat) (Z : AZ) (s0 : Int32) (I : AI) : Option (Int32 × AI) :=
  some (s0, I)
set_option maxRecDepth 20000 in
theorem Tf301_b203 {kad : Nat → Nat} {N : Nat} {Z : AZ} {d : Nat} {t : Option Nat × (Nat × Nat)} (hd : 7 ≤ d) : ∀ (s0 : Int32) (I : AI) (r : Int32 × AI), f301_b203 kad N Z s0 I = some r → aGo kad d 301 (203, ([], [.int s0])) (aMem Z I, t) (qI Z t r) := by
  intro s0 I r h
  unfold f301_b203 at h
  cases h
  exact go_ret aMi301 rfl aRetI ⟨rfl, rfl⟩
def f301_b132 (kad : Nat → Nat) (N : Nat) (Z : AZ) (a0 : Nat) (i1 : Int32) (I : AI) : Option (Int32 × AI) :=
  (gI Z I 11 23 a0).bind fun x133_1 =>
  if x133_1 = (3 : Int32) then
    f301_b148 kad N Z a0 I
  else
    (gI Z I 11 23 a0).bind fun x141_2 =>
    if ¬ x141_2 = (1 : Int32) then
      (gI Z I 11 52 a0).bind fun x163_3 =>
      (gR Z I 11 66 a0).bind fun b167_4 =>
      (lI Z I 100 b167_4 i1).bind fun x171_5 =>
      if x163_3 ≤ x171_5 then
        (isK Z a0 11).bind fun u181_6 =>
        (f300 kad N Z a0 i1 I).bind fun r181_7 =>
        if ¬ r181_7.1 = 0 then
          (isK Z a0 11).bind fun u192_8 =>
          (f294 kad N Z a0 r181_7.2).bind fun r192_9 =>
          if r192_9.1 = 0 then
            f301_b203 kad N Z (5 : Int32) r192_9.2
          else
            f301_b203 kad N Z (0 : Int32) r192_9.2
        else
          f301_b203 kad N Z (4 : Int32) r181_7.2
      else
        f301_b203 kad N Z (3 : Int32) I
    else
      f301_b148 kad N Z a0 I
set_option maxRecDepth 20000 in
theorem Tf301_b132 {kad : Nat → Nat} {N : Nat} {Z : AZ} {d : Nat} {t : Option Nat × (Nat × Nat)} (hd : 7 ≤ d) : ∀ (a0 : Nat) (i1 : Int32) (I : AI) (r : Int32 × AI), f301_b132 kad N Z a0 i1 I = some r → aGo kad d 301 (132, ([(0, .ref a0), (1, .int i1)], [])) (aMem Z I, t) (qI Z t r) := by
  intro a0 i1 I r h
  unfold f301_b132 at h
  refine go_ops aMi301 1 _ (f1 := (133, ([(0, .ref a0), (1, .int i1)], [.ref a0]))) rfl ?_
  obtain ⟨x133_1, hxx133_1, h⟩ := Option.bind_eq_some_iff.mp h
  refine gg_gI aMi301 rfl rfl rfl hxx133_1 ?_
  refine go_ops aMi301 1 _ (f1 := (137, ([(0, .ref a0), (1, .int i1)], [.int (3 : Int32), .int x133_1]))) rfl ?_
  refine gg_br (b := decide (x133_1 = (3 : Int32))) (tg := 148) (off := 11) aMi301 rfl rfl rfl rfl (fun hb => ?_) (fun hb => ?_)
  · rw [if_pos (of_decide_eq_true hb)] at h
    refine go_le (lv1 := [(0, .ref a0)]) (aLe_of (show (List.map (fun q => q.1) ([(0, .ref a0)] : ALv)).Nodup from (by show ([0] : List Nat).Nodup; decide)) (aSubL_cons rfl aSubL_nil)) ?_
    exact Tf301_b148 hd a0 I _ h
  · rw [if_neg (of_decide_eq_false hb)] at h
    refine go_ops aMi301 1 _ (f1 := (141, ([(0, .ref a0), (1, .int i1)], [.ref a0]))) rfl ?_
    obtain ⟨x141_2, hxx141_2, h⟩ := Option.bind_eq_some_iff.mp h
    refine gg_gI aMi301 rfl rfl rfl hxx141_2 ?_
    refine go_ops aMi301 1 _ (f1 := (145, ([(0, .ref a0), (1, .int i1)], [.int (1 : Int32), .int x141_2]))) rfl ?_
    refine gg_br (b := decide (¬ x141_2 = (1 : Int32))) (tg := 162) (off := 17) aMi301 rfl rfl rfl rfl (fun hb => ?_) (fun hb => ?_)
    · rw [if_pos (of_decide_eq_true hb)] at h
      refine go_ops aMi301 1 _ (f1 := (163, ([(0, .ref a0), (1, .int i1)], [.ref a0]))) rfl ?_
      obtain ⟨x163_3, hxx163_3, h⟩ := Option.bind_eq_some_iff.mp h
      refine gg_gI aMi301 rfl rfl rfl hxx163_3 ?_
      refine go_ops aMi301 1 _ (f1 := (167, ([(0, .ref a0), (1, .int i1)], [.ref a0, .int x163_3]))) rfl ?_
      obtain ⟨b167_4, hxb167_4, h⟩ := Option.bind_eq_some_iff.mp h
      refine gg_gR aMi301 rfl rfl rfl hxb167_4 ?_
      refine go_ops aMi301 1 _ (f1 := (171, ([(0, .ref a0), (1, .int i1)], [.int i1, .ref b167_4, .int x163_3]))) rfl ?_
      obtain ⟨x171_5, hxx171_5, h⟩ := Option.bind_eq_some_iff.mp h
      refine gg_lI (Or.inl ⟨rfl, rfl⟩) aMi301 rfl hxx171_5 ?_
      refine gg_br (b := decide (x163_3 ≤ x171_5)) (tg := 179) (off := 7) aMi301 rfl rfl rfl rfl (fun hb => ?_) (fun hb => ?_)
      · rw [if_pos (of_decide_eq_true hb)] at h
        refine go_ops aMi301 2 _ (f1 := (181, ([(0, .ref a0), (1, .int i1)], [.int i1, .ref a0]))) rfl ?_
        obtain ⟨u181_6, hxu181_6, h⟩ := Option.bind_eq_some_iff.mp h
        obtain ⟨r181_7, hxr181_7, h⟩ := Option.bind_eq_some_iff.mp h
        refine gg_cv (as := [.int i1]) (r := []) aMi301 rfl rfl rfl aMi300 (Nat.le_of_ble_eq_true rfl) rfl (Nat.le_of_ble_eq_true rfl) (Nat.le_of_ble_eq_true rfl) (by omega) hxu181_6 (Tf300 (by omega) a0 i1 I _ hxr181_7) ?_
        show aGo kad d 301 (184, ([(0, .ref a0), (1, .int i1)], [.int r181_7.1])) (aMem Z r181_7.2, t) _
        refine gg_br (b := decide (¬ r181_7.1 = 0)) (tg := 191) (off := 7) aMi301 rfl rfl rfl rfl (fun hb => ?_) (fun hb => ?_)
        · rw [if_pos (of_decide_eq_true hb)] at h
          refine go_ops aMi301 1 _ (f1 := (192, ([(0, .ref a0), (1, .int i1)], [.ref a0]))) rfl ?_
          obtain ⟨u192_8, hxu192_8, h⟩ := Option.bind_eq_some_iff.mp h
          obtain ⟨r192_9, hxr192_9, h⟩ := Option.bind_eq_some_iff.mp h
          refine gg_cv (as := []) (r := []) aMi301 rfl rfl rfl aMi294 (Nat.le_of_ble_eq_true rfl) rfl (Nat.le_of_ble_eq_true rfl) (Nat.le_of_ble_eq_true rfl) (by omega) hxu192_8 (Tf294 (by omega) a0 r181_7.2 _ hxr192_9) ?_
          show aGo kad d 301 (195, ([(0, .ref a0), (1, .int i1)], [.int r192_9.1])) (aMem Z r192_9.2, t) _
          refine gg_br (b := decide (r192_9.1 = 0)) (tg := 202) (off := 7) aMi301 rfl rfl rfl rfl (fun hb => ?_) (fun hb => ?_)
          · rw [if_pos (of_decide_eq_true hb)] at h
            refine go_ops aMi301 1 _ (f1 := (203, ([(0, .ref a0), (1, .int i1)], [.int (5 : Int32)]))) rfl ?_
            refine go_le (lv1 := []) (aLe_of (show (List.map (fun q => q.1) ([] : ALv)).Nodup from (by show ([] : List Nat).Nodup; decide)) aSubL_nil) ?_
            exact Tf301_b203 hd (5 : Int32) r192_9.2 _ h
          · rw [if_neg (of_decide_eq_false hb)] at h
            refine go_ops aMi301 2 _ (f1 := (203, ([(0, .ref a0), (1, .int i1)], [.int (0 : Int32)]))) rfl ?_
            refine go_le (lv1 := []) (aLe_of (show (List.map (fun q => q.1) ([] : ALv)).Nodup from (by show ([] : List Nat).Nodup; decide)) aSubL_nil) ?_
            exact Tf301_b203 hd (0 : Int32) r192_9.2 _ h
        · rw [if_neg (of_decide_eq_false hb)] at h
          refine go_ops aMi301 2 _ (f1 := (203, ([(0, .ref a0), (1, .int i1)], [.int (4 : Int32)]))) rfl ?_
          refine go_le (lv1 := []) (aLe_of (show (List.map (fun q => q.1) ([] : ALv)).Nodup from (by show ([] : List Nat).Nodup; decide)) aSubL_nil) ?_
          exact Tf301_b203 hd (4 : Int32) r181_7.2 _ h
      · rw [if_neg (of_decide_eq_false hb)] at h
        refine go_ops aMi301 2 _ (f1 := (203, ([(0, .ref a0), (1, .int i1)], [.int (3 : Int32)]))) rfl ?_
        refine go_le (lv1 := []) (aLe_of (show (List.map (fun q => q.1) ([] : ALv)).Nodup from (by show ([] : List Nat).Nodup; decide)) aSubL_nil) ?_
        exact Tf301_b203 hd (3 : Int32) I _ h
    · rw [if_neg (of_decide_eq_false hb)] at h
      refine go_le (lv1 := [(0, .ref a0)]) (aLe_of (show (List.map (fun q => q.1) ([(0, .ref a0)] : ALv)).Nodup from (by show ([0] : List Nat).Nodup; decide)) (aSubL_cons rfl aSubL_nil)) ?_
      exact Tf301_b148 hd a0 I _ h
def f301_b68 (kad : Nat → Nat) (N : Nat) (Z : AZ) : Nat → Nat → Int32 → Int32 → AI → Option (Int32 × AI)
  | 0, _, _, _, _ => none
  | F + 1, a0, i1, i2, I =>
    (gI Z I 11 23 a0).bind fun x69_1 =>
    if ¬ x69_1 = (1 : Int32) then
      f301_b132 kad N Z a0 i1 I
    else
      (gR Z I 11 65 a0).bind fun b78_2 =>
      (lI Z I 100 b78_2 i1).bind fun x82_3 =>
      if x82_3 ≤ i2 then
        f301_b132 kad N Z a0 i1 I
      else
        (isK Z a0 11).bind fun u87_4 =>
        (f234 kad N Z a0 I).bind fun r87_5 =>
        (gR Z r87_5.2 11 68 a0).bind fun b95_6 =>
        (lI Z r87_5.2 100 b95_6 i1).bind fun x99_7 =>
        if ¬ (i2 + (1 : Int32)) = x99_7 then
          f301_b68 kad N Z F a0 i1 (i2 + (1 : Int32)) r87_5.2
        else
          (gI Z r87_5.2 11 23 a0).bind fun x104_8 =>
          if ¬ x104_8 = (1 : Int32) then
            f301_b68 kad N Z F a0 i1 (i2 + (1 : Int32)) r87_5.2
          else
            (isK Z a0 11).bind fun u112_9 =>
            (f253 kad N Z a0 r87_5.2).bind fun r112_10 =>
            (pI Z r112_10.2 11 43 a0 (0 : Int32)).bind fun I118_11 =>
            (gR Z I118_11 11 21 a0).bind fun b123_12 =>
            (isK Z a0 11).bind fun u126_13 =>
            (f222 kad N Z a0 b123_12 I118_11).bind fun r126_14 =>
            f301_b68 kad N Z F a0 i1 (i2 + (1 : Int32)) r126_14.2
set_option maxRecDepth 20000 in
theorem Tf301_b68 {kad : Nat → Nat} {N : Nat} {Z : AZ} {d : Nat} {t : Option Nat × (Nat × Nat)} (hd : 7 ≤ d) : ∀ (F : Nat) (a0 : Nat) (i1 : Int32) (i2 : Int32) (I : AI) (r : Int32 × AI), f301_b68 kad N Z F a0 i1 i2 I = some r → aGo kad d 301 (68, ([(0, .ref a0), (1, .int i1), (2, .int i2)], [])) (aMem Z I, t) (qI Z t r) := by
  intro F
  induction F with
  | zero => intro a0 i1 i2 I r h; cases h
  | succ F ih =>
    intro a0 i1 i2 I r h
    unfold f301_b68 at h
    refine go_ops aMi301 1 _ (f1 := (69, ([(0, .ref a0), (1, .int i1), (2, .int i2)], [.ref a0]))) rfl ?_
    obtain ⟨x69_1, hxx69_1, h⟩ := Option.bind_eq_some_iff.mp h
    refine gg_gI aMi301 rfl rfl rfl hxx69_1 ?_
    refine go_ops aMi301 1 _ (f1 := (73, ([(0, .ref a0), (1, .int i1), (2, .int i2)], [.int (1 : Int32), .int x69_1]))) rfl ?_
    refine gg_br (b := decide (¬ x69_1 = (1 : Int32))) (tg := 132) (off := 59) aMi301 rfl rfl rfl rfl (fun hb => ?_) (fun hb => ?_)
    · rw [if_pos (of_decide_eq_true hb)] at h
      refine go_le (lv1 := [(0, .ref a0), (1, .int i1)]) (aLe_of (show (List.map (fun q => q.1) ([(0, .ref a0), (1, .int i1)] : ALv)).Nodup from (by show ([0, 1] : List Nat).Nodup; decide)) (aSubL_cons rfl (aSubL_cons rfl aSubL_nil))) ?_
      exact Tf301_b132 hd a0 i1 I _ h
    · rw [if_neg (of_decide_eq_false hb)] at h
      refine go_ops aMi301 2 _ (f1 := (78, ([(0, .ref a0), (1, .int i1), (2, .int i2)], [.ref a0, .int i2]))) rfl ?_
      obtain ⟨b78_2, hxb78_2, h⟩ := Option.bind_eq_some_iff.mp h
      refine gg_gR aMi301 rfl rfl rfl hxb78_2 ?_
      refine go_ops aMi301 1 _ (f1 := (82, ([(0, .ref a0), (1, .int i1), (2, .int i2)], [.int i1, .ref b78_2, .int i2]))) rfl ?_
      obtain ⟨x82_3, hxx82_3, h⟩ := Option.bind_eq_some_iff.mp h
      refine gg_lI (Or.inl ⟨rfl, rfl⟩) aMi301 rfl hxx82_3 ?_
      refine gg_br (b := decide (x82_3 ≤ i2)) (tg := 132) (off := 49) aMi301 rfl rfl rfl rfl (fun hb => ?_) (fun hb => ?_)
      · rw [if_pos (of_decide_eq_true hb)] at h
        refine go_le (lv1 := [(0, .ref a0), (1, .int i1)]) (aLe_of (show (List.map (fun q => q.1) ([(0, .ref a0), (1, .int i1)] : ALv)).Nodup from (by show ([0, 1] : List Nat).Nodup; decide)) (aSubL_cons rfl (aSubL_cons rfl aSubL_nil))) ?_
        exact Tf301_b132 hd a0 i1 I _ h
      · rw [if_neg (of_decide_eq_false hb)] at h
        refine go_ops aMi301 1 _ (f1 := (87, ([(0, .ref a0), (1, .int i1), (2, .int i2)], [.ref a0]))) rfl ?_
        obtain ⟨u87_4, hxu87_4, h⟩ := Option.bind_eq_some_iff.mp h
        obtain ⟨r87_5, hxr87_5, h⟩ := Option.bind_eq_some_iff.mp h
        refine gg_cv (as := []) (r := []) aMi301 rfl rfl rfl aMi234 (Nat.le_of_ble_eq_true rfl) rfl (Nat.le_of_ble_eq_true rfl) (Nat.le_of_ble_eq_true rfl) (by omega) hxu87_4 (Tf234 (by omega) a0 I _ hxr87_5) ?_
        show aGo kad d 301 (90, ([(0, .ref a0), (1, .int i1), (2, .int i2)], [])) (aMem Z r87_5.2, t) _
        refine go_ops aMi301 3 _ (f1 := (95, ([(2, .int (i2 + (1 : Int32))), (0, .ref a0), (1, .int i1)], [.ref a0, .int (i2 + (1 : Int32))]))) rfl ?_
        obtain ⟨b95_6, hxb95_6, h⟩ := Option.bind_eq_some_iff.mp h
        refine gg_gR aMi301 rfl rfl rfl hxb95_6 ?_
        refine go_ops aMi301 1 _ (f1 := (99, ([(2, .int (i2 + (1 : Int32))), (0, .ref a0), (1, .int i1)], [.int i1, .ref b95_6, .int (i2 + (1 : Int32))]))) rfl ?_
        obtain ⟨x99_7, hxx99_7, h⟩ := Option.bind_eq_some_iff.mp h
        refine gg_lI (Or.inl ⟨rfl, rfl⟩) aMi301 rfl hxx99_7 ?_
        refine gg_br (b := decide (¬ (i2 + (1 : Int32)) = x99_7)) (tg := 68) (off := (-32)) aMi301 rfl rfl rfl rfl (fun hb => ?_) (fun hb => ?_)
        · rw [if_pos (of_decide_eq_true hb)] at h
          refine go_le (lv1 := [(0, .ref a0), (1, .int i1), (2, .int (i2 + (1 : Int32)))]) (aLe_of (show (List.map (fun q => q.1) ([(0, .ref a0), (1, .int i1), (2, .int (i2 + (1 : Int32)))] : ALv)).Nodup from (by show ([0, 1, 2] : List Nat).Nodup; decide)) (aSubL_cons rfl (aSubL_cons rfl (aSubL_cons rfl aSubL_nil)))) ?_
          exact ih a0 i1 (i2 + (1 : Int32)) r87_5.2 _ h
        · rw [if_neg (of_decide_eq_false hb)] at h
          refine go_ops aMi301 1 _ (f1 := (104, ([(2, .int (i2 + (1 : Int32))), (0, .ref a0), (1, .int i1)], [.ref a0]))) rfl ?_
          obtain ⟨x104_8, hxx104_8, h⟩ := Option.bind_eq_some_iff.mp h
          refine gg_gI aMi301 rfl rfl rfl hxx104_8 ?_
          refine go_ops aMi301 1 _ (f1 := (108, ([(2, .int (i2 + (1 : Int32))), (0, .ref a0), (1, .int i1)], [.int (1 : Int32), .int x104_8]))) rfl ?_
          refine gg_br (b := decide (¬ x104_8 = (1 : Int32))) (tg := 68) (off := (-40)) aMi301 rfl rfl rfl rfl (fun hb => ?_) (fun hb => ?_)
          · rw [if_pos (of_decide_eq_true hb)] at h
            refine go_le (lv1 := [(0, .ref a0), (1, .int i1), (2, .int (i2 + (1 : Int32)))]) (aLe_of (show (List.map (fun q => q.1) ([(0, .ref a0), (1, .int i1), (2, .int (i2 + (1 : Int32)))] : ALv)).Nodup from (by show ([0, 1, 2] : List Nat).Nodup; decide)) (aSubL_cons rfl (aSubL_cons rfl (aSubL_cons rfl aSubL_nil)))) ?_
            exact ih a0 i1 (i2 + (1 : Int32)) r87_5.2 _ h
          · rw [if_neg (of_decide_eq_false hb)] at h
            refine go_ops aMi301 1 _ (f1 := (112, ([(2, .int (i2 + (1 : Int32))), (0, .ref a0), (1, .int i1)], [.ref a0]))) rfl ?_
            obtain ⟨u112_9, hxu112_9, h⟩ := Option.bind_eq_some_iff.mp h
            obtain ⟨r112_10, hxr112_10, h⟩ := Option.bind_eq_some_iff.mp h
            refine gg_cv (as := []) (r := []) aMi301 rfl rfl rfl aMi253 (Nat.le_of_ble_eq_true rfl) rfl (Nat.le_of_ble_eq_true rfl) (Nat.le_of_ble_eq_true rfl) (by omega) hxu112_9 (Tf253 (by omega) a0 r87_5.2 _ hxr112_10) ?_
            show aGo kad d 301 (115, ([(2, .int (i2 + (1 : Int32))), (0, .ref a0), (1, .int i1)], [.int r112_10.1])) (aMem Z r112_10.2, t) _
            refine go_ops aMi301 3 _ (f1 := (118, ([(2, .int (i2 + (1 : Int32))), (0, .ref a0), (1, .int i1)], [.int (0 : Int32), .ref a0]))) rfl ?_
            obtain ⟨I118_11, hxI118_11, h⟩ := Option.bind_eq_some_iff.mp h
            refine gg_pI aMi301 rfl rfl rfl rfl (by decide) hxI118_11 ?_
            refine go_ops aMi301 2 _ (f1 := (123, ([(2, .int (i2 + (1 : Int32))), (0, .ref a0), (1, .int i1)], [.ref a0, .ref a0]))) rfl ?_
            obtain ⟨b123_12, hxb123_12, h⟩ := Option.bind_eq_some_iff.mp h
            refine gg_gR aMi301 rfl rfl rfl hxb123_12 ?_
            obtain ⟨u126_13, hxu126_13, h⟩ := Option.bind_eq_some_iff.mp h
            obtain ⟨r126_14, hxr126_14, h⟩ := Option.bind_eq_some_iff.mp h
            refine gg_cv (as := [.ref b123_12]) (r := []) aMi301 rfl rfl rfl aMi222 (Nat.le_of_ble_eq_true rfl) rfl (Nat.le_of_ble_eq_true rfl) (Nat.le_of_ble_eq_true rfl) (by omega) hxu126_13 (Tf222 (by omega) a0 b123_12 I118_11 _ hxr126_14) ?_
            show aGo kad d 301 (129, ([(2, .int (i2 + (1 : Int32))), (0, .ref a0), (1, .int i1)], [])) (aMem Z r126_14.2, t) _
            refine go_ops aMi301 1 _ (f1 := (68, ([(2, .int (i2 + (1 : Int32))), (0, .ref a0), (1, .int i1)], []))) rfl ?_
            refine go_le (lv1 := [(0, .ref a0), (1, .int i1), (2, .int (i2 + (1 : Int32)))]) (aLe_of (show (List.map (fun q => q.1) ([(0, .ref a0), (1, .int i1), (2, .int (i2 + (1 : Int32)))] : ALv)).Nodup from (by show ([0, 1, 2] : List Nat).Nodup; decide)) (aSubL_cons rfl (aSubL_cons rfl (aSubL_cons rfl aSubL_nil)))) ?_
            exact ih a0 i1 (i2 + (1 : Int32)) r126_14.2 _ h
def f301_b16 (kad : Nat → Nat) (N : Nat) (Z : AZ) : Nat → Nat → Int32 → Int32 → AI → Option (Int32 × AI)
  | 0, _, _, _, _ => none
  | F + 1, a0, i1, i2, I =>
    (gI Z I 11 43 a0).bind fun x18_1 =>
    if x18_1 ≤ i2 then
      (gR Z I 11 21 a0).bind fun b56_2 =>
      (isK Z a0 11).bind fun u59_3 =>
      (f222 kad N Z a0 b56_2 I).bind fun r59_4 =>
      (isK Z a0 11).bind fun u63_5 =>
      (f224 kad N Z a0 r59_4.2).bind fun r63_6 =>
      f301_b68 kad N Z N a0 i1 (0 : Int32) r63_6.2
    else
      (gR Z I 11 41 a0).bind fun b25_7 =>
      (sI Z I 100 b25_7 i2 (0 : Int32)).bind fun I30_8 =>
      (gR Z I30_8 11 42 a0).bind fun b32_9 =>
      (gR Z I30_8 11 61 a0).bind fun b37_10 =>
      (lI Z I30_8 100 b37_10 (((6 : Int32) * i1) + i2)).bind fun x46_11 =>
      (sI Z I30_8 100 b32_9 i2 x46_11).bind fun I47_12 =>
      f301_b16 kad N Z F a0 i1 (i2 + (1 : Int32)) I47_12
set_option maxRecDepth 20000 in
theorem Tf301_b16 {kad : Nat → Nat} {N : Nat} {Z : AZ} {d : Nat} {t : Option Nat × (Nat × Nat)} (hd : 7 ≤ d) : ∀ (F : Nat) (a0 : Nat) (i1 : Int32) (i2 : Int32) (I : AI) (r : Int32 × AI), f301_b16 kad N Z F a0 i1 i2 I = some r → aGo kad d 301 (16, ([(0, .ref a0), (1, .int i1), (2, .int i2)], [])) (aMem Z I, t) (qI Z t r) := by
  intro F
  induction F with
  | zero => intro a0 i1 i2 I r h; cases h
  | succ F ih =>
    intro a0 i1 i2 I r h
    unfold f301_b16 at h
    refine go_ops aMi301 2 _ (f1 := (18, ([(0, .ref a0), (1, .int i1), (2, .int i2)], [.ref a0, .int i2]))) rfl ?_
    obtain ⟨x18_1, hxx18_1, h⟩ := Option.bind_eq_some_iff.mp h
    refine gg_gI aMi301 rfl rfl rfl hxx18_1 ?_
    refine gg_br (b := decide (x18_1 ≤ i2)) (tg := 54) (off := 33) aMi301 rfl rfl rfl rfl (fun hb => ?_) (fun hb => ?_)
    · rw [if_pos (of_decide_eq_true hb)] at h
      refine go_ops aMi301 2 _ (f1 := (56, ([(0, .ref a0), (1, .int i1), (2, .int i2)], [.ref a0, .ref a0]))) rfl ?_
      obtain ⟨b56_2, hxb56_2, h⟩ := Option.bind_eq_some_iff.mp h
      refine gg_gR aMi301 rfl rfl rfl hxb56_2 ?_
      obtain ⟨u59_3, hxu59_3, h⟩ := Option.bind_eq_some_iff.mp h
      obtain ⟨r59_4, hxr59_4, h⟩ := Option.bind_eq_some_iff.mp h
      refine gg_cv (as := [.ref b56_2]) (r := []) aMi301 rfl rfl rfl aMi222 (Nat.le_of_ble_eq_true rfl) rfl (Nat.le_of_ble_eq_true rfl) (Nat.le_of_ble_eq_true rfl) (by omega) hxu59_3 (Tf222 (by omega) a0 b56_2 I _ hxr59_4) ?_
      show aGo kad d 301 (62, ([(0, .ref a0), (1, .int i1), (2, .int i2)], [])) (aMem Z r59_4.2, t) _
      refine go_ops aMi301 1 _ (f1 := (63, ([(0, .ref a0), (1, .int i1), (2, .int i2)], [.ref a0]))) rfl ?_
      obtain ⟨u63_5, hxu63_5, h⟩ := Option.bind_eq_some_iff.mp h
      obtain ⟨r63_6, hxr63_6, h⟩ := Option.bind_eq_some_iff.mp h
      refine gg_cv (as := []) (r := []) aMi301 rfl rfl rfl aMi224 (Nat.le_of_ble_eq_true rfl) rfl (Nat.le_of_ble_eq_true rfl) (Nat.le_of_ble_eq_true rfl) (by omega) hxu63_5 (Tf224 (by omega) a0 r59_4.2 _ hxr63_6) ?_
      show aGo kad d 301 (66, ([(0, .ref a0), (1, .int i1), (2, .int i2)], [])) (aMem Z r63_6.2, t) _
      refine go_ops aMi301 2 _ (f1 := (68, ([(2, .int (0 : Int32)), (0, .ref a0), (1, .int i1)], []))) rfl ?_
      refine go_le (lv1 := [(0, .ref a0), (1, .int i1), (2, .int (0 : Int32))]) (aLe_of (show (List.map (fun q => q.1) ([(0, .ref a0), (1, .int i1), (2, .int (0 : Int32))] : ALv)).Nodup from (by show ([0, 1, 2] : List Nat).Nodup; decide)) (aSubL_cons rfl (aSubL_cons rfl (aSubL_cons rfl aSubL_nil)))) ?_
      exact Tf301_b68 hd N a0 i1 (0 : Int32) r63_6.2 _ h
    · rw [if_neg (of_decide_eq_false hb)] at h
      refine go_ops aMi301 1 _ (f1 := (25, ([(0, .ref a0), (1, .int i1), (2, .int i2)], [.ref a0]))) rfl ?_
      obtain ⟨b25_7, hxb25_7, h⟩ := Option.bind_eq_some_iff.mp h
      refine gg_gR aMi301 rfl rfl rfl hxb25_7 ?_
      refine go_ops aMi301 2 _ (f1 := (30, ([(0, .ref a0), (1, .int i1), (2, .int i2)], [.int (0 : Int32), .int i2, .ref b25_7]))) rfl ?_
      obtain ⟨I30_8, hxI30_8, h⟩ := Option.bind_eq_some_iff.mp h
      refine gg_sI (Or.inl ⟨rfl, rfl⟩) aMi301 rfl hxI30_8 ?_
      refine go_ops aMi301 1 _ (f1 := (32, ([(0, .ref a0), (1, .int i1), (2, .int i2)], [.ref a0]))) rfl ?_
      obtain ⟨b32_9, hxb32_9, h⟩ := Option.bind_eq_some_iff.mp h
      refine gg_gR aMi301 rfl rfl rfl hxb32_9 ?_
      refine go_ops aMi301 2 _ (f1 := (37, ([(0, .ref a0), (1, .int i1), (2, .int i2)], [.ref a0, .int i2, .ref b32_9]))) rfl ?_
      obtain ⟨b37_10, hxb37_10, h⟩ := Option.bind_eq_some_iff.mp h
      refine gg_gR aMi301 rfl rfl rfl hxb37_10 ?_
      refine go_ops aMi301 5 _ (f1 := (46, ([(0, .ref a0), (1, .int i1), (2, .int i2)], [.int (((6 : Int32) * i1) + i2), .ref b37_10, .int i2, .ref b32_9]))) rfl ?_
      obtain ⟨x46_11, hxx46_11, h⟩ := Option.bind_eq_some_iff.mp h
      refine gg_lI (Or.inl ⟨rfl, rfl⟩) aMi301 rfl hxx46_11 ?_
      obtain ⟨I47_12, hxI47_12, h⟩ := Option.bind_eq_some_iff.mp h
      refine gg_sI (Or.inl ⟨rfl, rfl⟩) aMi301 rfl hxI47_12 ?_
      refine go_ops aMi301 2 _ (f1 := (16, ([(2, .int (i2 + (1 : Int32))), (0, .ref a0), (1, .int i1)], []))) rfl ?_
      refine go_le (lv1 := [(0, .ref a0), (1, .int i1), (2, .int (i2 + (1 : Int32)))]) (aLe_of (show (List.map (fun q => q.1) ([(0, .ref a0), (1, .int i1), (2, .int (i2 + (1 : Int32)))] : ALv)).Nodup from (by show ([0, 1, 2] : List Nat).Nodup; decide)) (aSubL_cons rfl (aSubL_cons rfl (aSubL_cons rfl aSubL_nil)))) ?_
      exact ih a0 i1 (i2 + (1 : Int32)) I47_12 _ h
def f301 (kad : Nat → Nat) (N : Nat) (Z : AZ) (a0 : Nat) (i1 : Int32) (I : AI) : Option (Int32 × AI) :=
  (isK Z a0 11).bind fun u1_1 =>
  (f254 kad N Z a0 I).bind fun r1_2 =>
  (gR Z r1_2.2 11 62 a0).bind fun b6_3 =>
  (lI Z r1_2.2 100 b6_3 i1).bind fun x10_4 =>
  (pI Z r1_2.2 11 43 a0 x10_4).bind fun I11_5 =>
  f301_b16 kad N Z N a0 i1 (0 : Int32) I11_5
set_option maxRecDepth 20000 in
theorem Tf301 {kad : Nat → Nat} {N : Nat} {Z : AZ} {d : Nat} {t : Option Nat × (Nat × Nat)} (hd : 7 ≤ d) : ∀ (a0 : Nat) (i1 : Int32) (I : AI) (r : Int32 × AI), f301 kad N Z a0 i1 I = some r → aGo kad d 301 (0, ([(0, .ref a0), (1, .int i1)], [])) (aMem Z I, t) (qI Z t r) := by
  intro a0 i1 I r h
  unfold f301 at h
  refine go_ops aMi301 1 _ (f1 := (1, ([(0, .ref a0), (1, .int i1)], [.ref a0]))) rfl ?_
  obtain ⟨u1_1, hxu1_1, h⟩ := Option.bind_eq_some_iff.mp h
  obtain ⟨r1_2, hxr1_2, h⟩ := Option.bind_eq_some_iff.mp h
  refine gg_cv (as := []) (r := []) aMi301 rfl rfl rfl aMi254 (Nat.le_of_ble_eq_true rfl) rfl (Nat.le_of_ble_eq_true rfl) (Nat.le_of_ble_eq_true rfl) (by omega) hxu1_1 (Tf254 (by omega) a0 I _ hxr1_2) ?_
  show aGo kad d 301 (4, ([(0, .ref a0), (1, .int i1)], [])) (aMem Z r1_2.2, t) _
  refine go_ops aMi301 2 _ (f1 := (6, ([(0, .ref a0), (1, .int i1)], [.ref a0, .ref a0]))) rfl ?_
  obtain ⟨b6_3, hxb6_3, h⟩ := Option.bind_eq_some_iff.mp h
  refine gg_gR aMi301 rfl rfl rfl hxb6_3 ?_
  refine go_ops aMi301 1 _ (f1 := (10, ([(0, .ref a0), (1, .int i1)], [.int i1, .ref b6_3, .ref a0]))) rfl ?_
  obtain ⟨x10_4, hxx10_4, h⟩ := Option.bind_eq_some_iff.mp h
  refine gg_lI (Or.inl ⟨rfl, rfl⟩) aMi301 rfl hxx10_4 ?_
  obtain ⟨I11_5, hxI11_5, h⟩ := Option.bind_eq_some_iff.mp h
  refine gg_pI aMi301 rfl rfl rfl rfl (by decide) hxI11_5 ?_
  refine go_ops aMi301 2 _ (f1 := (16, ([(2, .int (0 : Int32)), (0, .ref a0), (1, .int i1)], []))) rfl ?_
  refine go_le (lv1 := [(0, .ref a0), (1, .int i1), (2, .int (0 : Int32))]) (aLe_of (show (List.map (fun q => q.1) ([(0, .ref a0), (1, .int i1), (2, .int (0 : Int32))] : ALv)).Nodup from (by show ([0, 1, 2] : List Nat).Nodup; decide)) (aSubL_cons rfl (aSubL_cons rfl (aSubL_cons rfl aSubL_nil)))) ?_
  exact Tf301_b16 hd N a0 i1 (0 : Int32) I11_5 _ h
-- KernelGymModel.submit ()I
def f302_b174 (kad : Nat → Nat) (N : Nat) (Z : AZ) (k103 : Nat → Int32 → Int32 → Int32 → Int32 → Int32 → Int32 → AI → Option (Int32 × AI)) (a0 : Nat) (i1 : Int32) (i2 : Int32) (i3 : Int32) (i4 : Int32) (i6 : Int32) (s0 : Int32) (s1 : Int32) (I : AI) : Option (Int32 × AI) :=
  k103 a0 i1 i2 i3 i4 (s1 + s0) (i6 + (1 : Int32)) I
set_option maxRecDepth 20000 in
theorem Tf302_b174 {kad : Nat → Nat} {N : Nat} {Z : AZ} {d : Nat} {t : Option Nat × (Nat × Nat)} (hd : 8 ≤ d) (k103 : Nat → Int32 → Int32 → Int32 → Int32 → Int32 → Int32 → AI → Option (Int32 × AI))  (hk103 : ∀ (a0 : Nat) (i1 : Int32) (i2 : Int32) (i3 : Int32) (i4 : Int32) (i5 : Int32) (i6 : Int32)  (I : AI) (r : Int32 × AI), k103 a0 i1 i2 i3 i4 i5 i6 I = some r → aGo kad d 302 (103, ([(0, .ref a0), (1, .int i1), (2, .int i2), (3, .int i3), (4, .int i4), (5, .int i5), (6, .int i6)], [])) (aMem Z I, t) (qI Z t r)) : ∀ (a0 : Nat) (i1 : Int32) (i2 : Int32) (i3 : Int32) (i4 : Int32) (i6 : Int32) (s0 : Int32) (s1 : Int32) (I : AI) (r : Int32 × AI), f302_b174 kad N Z k103 a0 i1 i2 i3 i4 i6 s0 s1 I = some r → aGo kad d 302 (174, ([(0, .ref a0), (1, .int i1), (2, .int i2), (3, .int i3), (4, .int i4), (6, .int i6)], [.int s0, .int s1])) (aMem Z I, t) (qI Z t r) := by
  intro a0 i1 i2 i3 i4 i6 s0 s1 I r h
  unfold f302_b174 at h
  refine go_ops aMi302 4 _ (f1 := (103, ([(6, .int (i6 + (1 : Int32))), (5, .int (s1 + s0)), (0, .ref a0), (1, .int i1), (2, .int i2), (3, .int i3), (4, .int i4)], []))) rfl ?_
  refine go_le (lv1 := [(0, .ref a0), (1, .int i1), (2, .int i2), (3, .int i3), (4, .int i4), (5, .int (s1 + s0)), (6, .int (i6 + (1 : Int32)))]) (aLe_of (show (List.map (fun q => q.1) ([(0, .ref a0), (1, .int i1), (2, .int i2), (3, .int i3), (4, .int i4), (5, .int (s1 + s0)), (6, .int (i6 + (1 : Int32)))] : ALv)).Nodup from (by show ([0, 1, 2, 3, 4, 5, 6] : List Nat).Nodup; decide)) (aSubL_cons rfl (aSubL_cons rfl (aSubL_cons rfl (aSubL_cons rfl (aSubL_cons rfl (aSubL_cons rfl (aSubL_cons rfl aSubL_nil)))))))) ?_
  exact hk103 a0 i1 i2 i3 i4 (s1 + s0) (i6 + (1 : Int32)) I _ h
def f302_b156 (kad : Nat → Nat) (N : Nat) (Z : AZ) (k103 : Nat → Int32 → Int32 → Int32 → Int32 → Int32 → Int32 → AI → Option (Int32 × AI)) (a0 : Nat) (i1 : Int32) (i2 : Int32) (i3 : Int32) (i4 : Int32) (i5 : Int32) (i6 : Int32) (s0 : Int32) (s1 : Int32) (s2 : Nat) (I : AI) : Option (Int32 × AI) :=
  (sI Z I 101 s2 s1 s0).bind fun I156_1 =>
  (gR Z I156_1 11 69 a0).bind fun b160_2 =>
  (lI Z I156_1 100 b160_2 i6).bind fun x165_3 =>
  if ¬ x165_3 = 0 then
    f302_b174 kad N Z k103 a0 i1 i2 i3 i4 i6 (0 : Int32) i5 I156_1
  else
    f302_b174 kad N Z k103 a0 i1 i2 i3 i4 i6 (1 : Int32) i5 I156_1
set_option maxRecDepth 20000 in
theorem Tf302_b156 {kad : Nat → Nat} {N : Nat} {Z : AZ} {d : Nat} {t : Option Nat × (Nat × Nat)} (hd : 8 ≤ d) (k103 : Nat → Int32 → Int32 → Int32 → Int32 → Int32 → Int32 → AI → Option (Int32 × AI))  (hk103 : ∀ (a0 : Nat) (i1 : Int32) (i2 : Int32) (i3 : Int32) (i4 : Int32) (i5 : Int32) (i6 : Int32)  (I : AI) (r : Int32 × AI), k103 a0 i1 i2 i3 i4 i5 i6 I = some r → aGo kad d 302 (103, ([(0, .ref a0), (1, .int i1), (2, .int i2), (3, .int i3), (4, .int i4), (5, .int i5), (6, .int i6)], [])) (aMem Z I, t) (qI Z t r)) : ∀ (a0 : Nat) (i1 : Int32) (i2 : Int32) (i3 : Int32) (i4 : Int32) (i5 : Int32) (i6 : Int32) (s0 : Int32) (s1 : Int32) (s2 : Nat) (I : AI) (r : Int32 × AI), f302_b156 kad N Z k103 a0 i1 i2 i3 i4 i5 i6 s0 s1 s2 I = some r → aGo kad d 302 (156, ([(0, .ref a0), (1, .int i1), (2, .int i2), (3, .int i3), (4, .int i4), (5, .int i5), (6, .int i6)], [.int s0, .int s1, .ref s2])) (aMem Z I, t) (qI Z t r) := by
  intro a0 i1 i2 i3 i4 i5 i6 s0 s1 s2 I r h
  unfold f302_b156 at h
  obtain ⟨I156_1, hxI156_1, h⟩ := Option.bind_eq_some_iff.mp h
  refine gg_sI (Or.inr ⟨rfl, rfl⟩) aMi302 rfl hxI156_1 ?_
  refine go_ops aMi302 2 _ (f1 := (160, ([(0, .ref a0), (1, .int i1), (2, .int i2), (3, .int i3), (4, .int i4), (5, .int i5), (6, .int i6)], [.ref a0, .int i5]))) rfl ?_
  obtain ⟨b160_2, hxb160_2, h⟩ := Option.bind_eq_some_iff.mp h
  refine gg_gR aMi302 rfl rfl rfl hxb160_2 ?_
  refine go_ops aMi302 1 _ (f1 := (165, ([(0, .ref a0), (1, .int i1), (2, .int i2), (3, .int i3), (4, .int i4), (5, .int i5), (6, .int i6)], [.int i6, .ref b160_2, .int i5]))) rfl ?_
  obtain ⟨x165_3, hxx165_3, h⟩ := Option.bind_eq_some_iff.mp h
  refine gg_lI (Or.inl ⟨rfl, rfl⟩) aMi302 rfl hxx165_3 ?_
  refine gg_br (b := decide (¬ x165_3 = 0)) (tg := 173) (off := 7) aMi302 rfl rfl rfl rfl (fun hb => ?_) (fun hb => ?_)
  · rw [if_pos (of_decide_eq_true hb)] at h
    refine go_ops aMi302 1 _ (f1 := (174, ([(0, .ref a0), (1, .int i1), (2, .int i2), (3, .int i3), (4, .int i4), (5, .int i5), (6, .int i6)], [.int (0 : Int32), .int i5]))) rfl ?_
    refine go_le (lv1 := [(0, .ref a0), (1, .int i1), (2, .int i2), (3, .int i3), (4, .int i4), (6, .int i6)]) (aLe_of (show (List.map (fun q => q.1) ([(0, .ref a0), (1, .int i1), (2, .int i2), (3, .int i3), (4, .int i4), (6, .int i6)] : ALv)).Nodup from (by show ([0, 1, 2, 3, 4, 6] : List Nat).Nodup; decide)) (aSubL_cons rfl (aSubL_cons rfl (aSubL_cons rfl (aSubL_cons rfl (aSubL_cons rfl (aSubL_cons rfl aSubL_nil))))))) ?_
    exact Tf302_b174 hd k103 hk103 a0 i1 i2 i3 i4 i6 (0 : Int32) i5 I156_1 _ h
  · rw [if_neg (of_decide_eq_false hb)] at h
    refine go_ops aMi302 2 _ (f1 := (174, ([(0, .ref a0), (1, .int i1), (2, .int i2), (3, .int i3), (4, .int i4), (5, .int i5), (6, .int i6)], [.int (1 : Int32), .int i5]))) rfl ?_
    refine go_le (lv1 := [(0, .ref a0), (1, .int i1), (2, .int i2), (3, .int i3), (4, .int i4), (6, .int i6)]) (aLe_of (show (List.map (fun q => q.1) ([(0, .ref a0), (1, .int i1), (2, .int i2), (3, .int i3), (4, .int i4), (6, .int i6)] : ALv)).Nodup from (by show ([0, 1, 2, 3, 4, 6] : List Nat).Nodup; decide)) (aSubL_cons rfl (aSubL_cons rfl (aSubL_cons rfl (aSubL_cons rfl (aSubL_cons rfl (aSubL_cons rfl aSubL_nil))))))) ?_
    exact Tf302_b174 hd k103 hk103 a0 i1 i2 i3 i4 i6 (1 : Int32) i5 I156_1 _ h
def f302_b151 (kad : Nat → Nat) (N : Nat) (Z : AZ) (k103 : Nat → Int32 → Int32 → Int32 → Int32 → Int32 → Int32 → AI → Option (Int32 × AI)) (a0 : Nat) (i1 : Int32) (i2 : Int32) (i3 : Int32) (i4 : Int32) (i5 : Int32) (i6 : Int32) (s0 : Int32) (s1 : Nat) (I : AI) : Option (Int32 × AI) :=
  f302_b156 kad N Z k103 a0 i1 i2 i3 i4 i5 i6 (1 : Int32) s0 s1 I
set_option maxRecDepth 20000 in
theorem Tf302_b151 {kad : Nat → Nat} {N : Nat} {Z : AZ} {d : Nat} {t : Option Nat × (Nat × Nat)} (hd : 8 ≤ d) (k103 : Nat → Int32 → Int32 → Int32 → Int32 → Int32 → Int32 → AI → Option (Int32 × AI))  (hk103 : ∀ (a0 : Nat) (i1 : Int32) (i2 : Int32) (i3 : Int32) (i4 : Int32) (i5 : Int32) (i6 : Int32)  (I : AI) (r : Int32 × AI), k103 a0 i1 i2 i3 i4 i5 i6 I = some r → aGo kad d 302 (103, ([(0, .ref a0), (1, .int i1), (2, .int i2), (3, .int i3), (4, .int i4), (5, .int i5), (6, .int i6)], [])) (aMem Z I, t) (qI Z t r)) : ∀ (a0 : Nat) (i1 : Int32) (i2 : Int32) (i3 : Int32) (i4 : Int32) (i5 : Int32) (i6 : Int32) (s0 : Int32) (s1 : Nat) (I : AI) (r : Int32 × AI), f302_b151 kad N Z k103 a0 i1 i2 i3 i4 i5 i6 s0 s1 I = some r → aGo kad d 302 (151, ([(0, .ref a0), (1, .int i1), (2, .int i2), (3, .int i3), (4, .int i4), (5, .int i5), (6, .int i6)], [.int s0, .ref s1])) (aMem Z I, t) (qI Z t r) := by
  intro a0 i1 i2 i3 i4 i5 i6 s0 s1 I r h
  unfold f302_b151 at h
  refine go_ops aMi302 2 _ (f1 := (156, ([(0, .ref a0), (1, .int i1), (2, .int i2), (3, .int i3), (4, .int i4), (5, .int i5), (6, .int i6)], [.int (1 : Int32), .int s0, .ref s1]))) rfl ?_
  exact Tf302_b156 hd k103 hk103 a0 i1 i2 i3 i4 i5 i6 (1 : Int32) s0 s1 I _ h
def f302_b262 (kad : Nat → Nat) (N : Nat) (Z : AZ) (i5 : Int32) (I : AI) : Option (Int32 × AI) :=
  some (i5, I)
set_option maxRecDepth 20000 in
theorem Tf302_b262 {kad : Nat → Nat} {N : Nat} {Z : AZ} {d : Nat} {t : Option Nat × (Nat × Nat)} (hd : 8 ≤ d) : ∀ (i5 : Int32) (I : AI) (r : Int32 × AI), f302_b262 kad N Z i5 I = some r → aGo kad d 302 (262, ([(5, .int i5)], [])) (aMem Z I, t) (qI Z t r) := by
  intro i5 I r h
  unfold f302_b262 at h
  refine go_ops aMi302 1 _ (f1 := (264, ([(5, .int i5)], [.int i5]))) rfl ?_
  cases h
  exact go_ret aMi302 rfl aRetI ⟨rfl, rfl⟩
def f302_b192 (kad : Nat → Nat) (N : Nat) (Z : AZ) : Nat → Nat → Int32 → Int32 → Int32 → Int32 → Int32 → AI → Option (Int32 × AI)
  | 0, _, _, _, _, _, _, _ => none
  | F + 1, a0, i1, i2, i3, i5, i6, I =>
    if (20 : Int32) ≤ i6 then
      (isK Z a0 11).bind fun u234_1 =>
      (f223 kad N Z a0 I).bind fun r234_2 =>
      (gR Z r234_2.2 11 71 a0).bind fun b238_3 =>
      (gR Z r234_2.2 11 50 a0).bind fun b242_4 =>
      (f255 kad N Z b238_3 b242_4 r234_2.2).bind fun r245_5 =>
      (pI Z r245_5.2 11 52 a0 i3).bind fun I250_6 =>
      if i1 = 0 then
        f302_b262 kad N Z i5 I250_6
      else
        (isK Z a0 11).bind fun u259_7 =>
        (f256 kad N Z a0 i2 I250_6).bind fun r259_8 =>
        f302_b262 kad N Z i5 r259_8.2
    else
      (gR Z I 11 41 a0).bind fun b200_9 =>
      (gR Z I 11 72 a0).bind fun b206_10 =>
      (lI Z I 100 b206_10 i6).bind fun x211_11 =>
      (sI Z I 100 b200_9 i6 x211_11).bind fun I212_12 =>
      (gR Z I212_12 11 42 a0).bind fun b214_13 =>
      (gR Z I212_12 11 73 a0).bind fun b220_14 =>
      (lI Z I212_12 100 b220_14 i6).bind fun x225_15 =>
      (sI Z I212_12 100 b214_13 i6 x225_15).bind fun I226_16 =>
      f302_b192 kad N Z F a0 i1 i2 i3 i5 (i6 + (1 : Int32)) I226_16
set_option maxRecDepth 20000 in
theorem Tf302_b192 {kad : Nat → Nat} {N : Nat} {Z : AZ} {d : Nat} {t : Option Nat × (Nat × Nat)} (hd : 8 ≤ d) : ∀ (F : Nat) (a0 : Nat) (i1 : Int32) (i2 : Int32) (i3 : Int32) (i5 : Int32) (i6 : Int32) (I : AI) (r : Int32 × AI), f302_b192 kad N Z F a0 i1 i2 i3 i5 i6 I = some r → aGo kad d 302 (192, ([(0, .ref a0), (1, .int i1), (2, .int i2), (3, .int i3), (5, .int i5), (6, .int i6)], [])) (aMem Z I, t) (qI Z t r) := by
  intro F
  induction F with
  | zero => intro a0 i1 i2 i3 i5 i6 I r h; cases h
  | succ F ih =>
    intro a0 i1 i2 i3 i5 i6 I r h
    unfold f302_b192 at h
    refine go_ops aMi302 2 _ (f1 := (196, ([(0, .ref a0), (1, .int i1), (2, .int i2), (3, .int i3), (5, .int i5), (6, .int i6)], [.int (20 : Int32), .int i6]))) rfl ?_
    refine gg_br (b := decide ((20 : Int32) ≤ i6)) (tg := 233) (off := 37) aMi302 rfl rfl rfl rfl (fun hb => ?_) (fun hb => ?_)
    · rw [if_pos (of_decide_eq_true hb)] at h
      refine go_ops aMi302 1 _ (f1 := (234, ([(0, .ref a0), (1, .int i1), (2, .int i2), (3, .int i3), (5, .int i5), (6, .int i6)], [.ref a0]))) rfl ?_
      obtain ⟨u234_1, hxu234_1, h⟩ := Option.bind_eq_some_iff.mp h
      obtain ⟨r234_2, hxr234_2, h⟩ := Option.bind_eq_some_iff.mp h
      refine gg_cv (as := []) (r := []) aMi302 rfl rfl rfl aMi223 (Nat.le_of_ble_eq_true rfl) rfl (Nat.le_of_ble_eq_true rfl) (Nat.le_of_ble_eq_true rfl) (by omega) hxu234_1 (Tf223 (by omega) a0 I _ hxr234_2) ?_
      show aGo kad d 302 (237, ([(0, .ref a0), (1, .int i1), (2, .int i2), (3, .int i3), (5, .int i5), (6, .int i6)], [])) (aMem Z r234_2.2, t) _
      refine go_ops aMi302 1 _ (f1 := (238, ([(0, .ref a0), (1, .int i1), (2, .int i2), (3, .int i3), (5, .int i5), (6, .int i6)], [.ref a0]))) rfl ?_
      obtain ⟨b238_3, hxb238_3, h⟩ := Option.bind_eq_some_iff.mp h
      refine gg_gR aMi302 rfl rfl rfl hxb238_3 ?_
      refine go_ops aMi302 1 _ (f1 := (242, ([(0, .ref a0), (1, .int i1), (2, .int i2), (3, .int i3), (5, .int i5), (6, .int i6)], [.ref a0, .ref b238_3]))) rfl ?_
      obtain ⟨b242_4, hxb242_4, h⟩ := Option.bind_eq_some_iff.mp h
      refine gg_gR aMi302 rfl rfl rfl hxb242_4 ?_
      obtain ⟨r245_5, hxr245_5, h⟩ := Option.bind_eq_some_iff.mp h
      refine gg_cs (as := [.ref b238_3, .ref b242_4]) (r := []) aMi302 rfl rfl rfl aMi255 rfl (Nat.le_of_ble_eq_true rfl) (Nat.le_of_ble_eq_true rfl) (by omega) (Tf255 (by omega) b238_3 b242_4 r234_2.2 _ hxr245_5) ?_
      show aGo kad d 302 (248, ([(0, .ref a0), (1, .int i1), (2, .int i2), (3, .int i3), (5, .int i5), (6, .int i6)], [])) (aMem Z r245_5.2, t) _
      refine go_ops aMi302 2 _ (f1 := (250, ([(0, .ref a0), (1, .int i1), (2, .int i2), (3, .int i3), (5, .int i5), (6, .int i6)], [.int i3, .ref a0]))) rfl ?_
      obtain ⟨I250_6, hxI250_6, h⟩ := Option.bind_eq_some_iff.mp h
      refine gg_pI aMi302 rfl rfl rfl rfl (by decide) hxI250_6 ?_
      refine go_ops aMi302 1 _ (f1 := (254, ([(0, .ref a0), (1, .int i1), (2, .int i2), (3, .int i3), (5, .int i5), (6, .int i6)], [.int i1]))) rfl ?_
      refine gg_br (b := decide (i1 = 0)) (tg := 262) (off := 8) aMi302 rfl rfl rfl rfl (fun hb => ?_) (fun hb => ?_)
      · rw [if_pos (of_decide_eq_true hb)] at h
        refine go_le (lv1 := [(5, .int i5)]) (aLe_of (show (List.map (fun q => q.1) ([(5, .int i5)] : ALv)).Nodup from (by show ([5] : List Nat).Nodup; decide)) (aSubL_cons rfl aSubL_nil)) ?_
        exact Tf302_b262 hd i5 I250_6 _ h
      · rw [if_neg (of_decide_eq_false hb)] at h
        refine go_ops aMi302 2 _ (f1 := (259, ([(0, .ref a0), (1, .int i1), (2, .int i2), (3, .int i3), (5, .int i5), (6, .int i6)], [.int i2, .ref a0]))) rfl ?_
        obtain ⟨u259_7, hxu259_7, h⟩ := Option.bind_eq_some_iff.mp h
        obtain ⟨r259_8, hxr259_8, h⟩ := Option.bind_eq_some_iff.mp h
        refine gg_cv (as := [.int i2]) (r := []) aMi302 rfl rfl rfl aMi256 (Nat.le_of_ble_eq_true rfl) rfl (Nat.le_of_ble_eq_true rfl) (Nat.le_of_ble_eq_true rfl) (by omega) hxu259_7 (Tf256 (by omega) a0 i2 I250_6 _ hxr259_8) ?_
        show aGo kad d 302 (262, ([(0, .ref a0), (1, .int i1), (2, .int i2), (3, .int i3), (5, .int i5), (6, .int i6)], [])) (aMem Z r259_8.2, t) _
        refine go_le (lv1 := [(5, .int i5)]) (aLe_of (show (List.map (fun q => q.1) ([(5, .int i5)] : ALv)).Nodup from (by show ([5] : List Nat).Nodup; decide)) (aSubL_cons rfl aSubL_nil)) ?_
        exact Tf302_b262 hd i5 r259_8.2 _ h
    · rw [if_neg (of_decide_eq_false hb)] at h
      refine go_ops aMi302 1 _ (f1 := (200, ([(0, .ref a0), (1, .int i1), (2, .int i2), (3, .int i3), (5, .int i5), (6, .int i6)], [.ref a0]))) rfl ?_
      obtain ⟨b200_9, hxb200_9, h⟩ := Option.bind_eq_some_iff.mp h
      refine gg_gR aMi302 rfl rfl rfl hxb200_9 ?_
      refine go_ops aMi302 2 _ (f1 := (206, ([(0, .ref a0), (1, .int i1), (2, .int i2), (3, .int i3), (5, .int i5), (6, .int i6)], [.ref a0, .int i6, .ref b200_9]))) rfl ?_
      obtain ⟨b206_10, hxb206_10, h⟩ := Option.bind_eq_some_iff.mp h
      refine gg_gR aMi302 rfl rfl rfl hxb206_10 ?_
      refine go_ops aMi302 1 _ (f1 := (211, ([(0, .ref a0), (1, .int i1), (2, .int i2), (3, .int i3), (5, .int i5), (6, .int i6)], [.int i6, .ref b206_10, .int i6, .ref b200_9]))) rfl ?_
      obtain ⟨x211_11, hxx211_11, h⟩ := Option.bind_eq_some_iff.mp h
      refine gg_lI (Or.inl ⟨rfl, rfl⟩) aMi302 rfl hxx211_11 ?_
      obtain ⟨I212_12, hxI212_12, h⟩ := Option.bind_eq_some_iff.mp h
      refine gg_sI (Or.inl ⟨rfl, rfl⟩) aMi302 rfl hxI212_12 ?_
      refine go_ops aMi302 1 _ (f1 := (214, ([(0, .ref a0), (1, .int i1), (2, .int i2), (3, .int i3), (5, .int i5), (6, .int i6)], [.ref a0]))) rfl ?_
      obtain ⟨b214_13, hxb214_13, h⟩ := Option.bind_eq_some_iff.mp h
      refine gg_gR aMi302 rfl rfl rfl hxb214_13 ?_
      refine go_ops aMi302 2 _ (f1 := (220, ([(0, .ref a0), (1, .int i1), (2, .int i2), (3, .int i3), (5, .int i5), (6, .int i6)], [.ref a0, .int i6, .ref b214_13]))) rfl ?_
      obtain ⟨b220_14, hxb220_14, h⟩ := Option.bind_eq_some_iff.mp h
      refine gg_gR aMi302 rfl rfl rfl hxb220_14 ?_
      refine go_ops aMi302 1 _ (f1 := (225, ([(0, .ref a0), (1, .int i1), (2, .int i2), (3, .int i3), (5, .int i5), (6, .int i6)], [.int i6, .ref b220_14, .int i6, .ref b214_13]))) rfl ?_
      obtain ⟨x225_15, hxx225_15, h⟩ := Option.bind_eq_some_iff.mp h
      refine gg_lI (Or.inl ⟨rfl, rfl⟩) aMi302 rfl hxx225_15 ?_
      obtain ⟨I226_16, hxI226_16, h⟩ := Option.bind_eq_some_iff.mp h
      refine gg_sI (Or.inl ⟨rfl, rfl⟩) aMi302 rfl hxI226_16 ?_
      refine go_ops aMi302 2 _ (f1 := (192, ([(6, .int (i6 + (1 : Int32))), (0, .ref a0), (1, .int i1), (2, .int i2), (3, .int i3), (5, .int i5)], []))) rfl ?_
      refine go_le (lv1 := [(0, .ref a0), (1, .int i1), (2, .int i2), (3, .int i3), (5, .int i5), (6, .int (i6 + (1 : Int32)))]) (aLe_of (show (List.map (fun q => q.1) ([(0, .ref a0), (1, .int i1), (2, .int i2), (3, .int i3), (5, .int i5), (6, .int (i6 + (1 : Int32)))] : ALv)).Nodup from (by show ([0, 1, 2, 3, 5, 6] : List Nat).Nodup; decide)) (aSubL_cons rfl (aSubL_cons rfl (aSubL_cons rfl (aSubL_cons rfl (aSubL_cons rfl (aSubL_cons rfl aSubL_nil))))))) ?_
      exact ih a0 i1 i2 i3 i5 (i6 + (1 : Int32)) I226_16 _ h
def f302_b103 (kad : Nat → Nat) (N : Nat) (Z : AZ) : Nat → Nat → Int32 → Int32 → Int32 → Int32 → Int32 → Int32 → AI → Option (Int32 × AI)
  | 0, _, _, _, _, _, _, _, _ => none
  | F + 1, a0, i1, i2, i3, i4, i5, i6, I =>
    (gI Z I 11 60 a0).bind fun x106_1 =>
    if x106_1 ≤ i6 then
      (pI Z I 11 43 a0 i4).bind fun I186_2 =>
      f302_b192 kad N Z N a0 i1 i2 i3 i5 (0 : Int32) I186_2
    else
      (gR Z I 11 69 a0).bind fun b113_3 =>
      (isK Z a0 11).bind fun u121_4 =>
      (f301 kad N Z a0 i6 I).bind fun r121_5 =>
      (sI Z r121_5.2 100 b113_3 i6 r121_5.1).bind fun I124_6 =>
      (gR Z I124_6 11 70 a0).bind fun b126_7 =>
      (gR Z I124_6 11 70 a0).bind fun b132_8 =>
      (lI Z I124_6 101 b132_8 i6).bind fun x137_9 =>
      if ¬ x137_9 = 0 then
        f302_b151 kad N Z (fun p0 p1 p2 p3 p4 p5 p6 I => f302_b103 kad N Z F p0 p1 p2 p3 p4 p5 p6 I) a0 i1 i2 i3 i4 i5 i6 i6 b126_7 I124_6
      else
        (gR Z I124_6 11 69 a0).bind fun b142_10 =>
        (lI Z I124_6 100 b142_10 i6).bind fun x147_11 =>
        if ¬ x147_11 = 0 then
          f302_b156 kad N Z (fun p0 p1 p2 p3 p4 p5 p6 I => f302_b103 kad N Z F p0 p1 p2 p3 p4 p5 p6 I) a0 i1 i2 i3 i4 i5 i6 (0 : Int32) i6 b126_7 I124_6
        else
          f302_b151 kad N Z (fun p0 p1 p2 p3 p4 p5 p6 I => f302_b103 kad N Z F p0 p1 p2 p3 p4 p5 p6 I) a0 i1 i2 i3 i4 i5 i6 i6 b126_7 I124_6
set_option maxRecDepth 20000 in
theorem Tf302_b103 {kad : Nat → Nat} {N : Nat} {Z : AZ} {d : Nat} {t : Option Nat × (Nat × Nat)} (hd : 8 ≤ d) : ∀ (F : Nat) (a0 : Nat) (i1 : Int32) (i2 : Int32) (i3 : Int32) (i4 : Int32) (i5 : Int32) (i6 : Int32) (I : AI) (r : Int32 × AI), f302_b103 kad N Z F a0 i1 i2 i3 i4 i5 i6 I = some r → aGo kad d 302 (103, ([(0, .ref a0), (1, .int i1), (2, .int i2), (3, .int i3), (4, .int i4), (5, .int i5), (6, .int i6)], [])) (aMem Z I, t) (qI Z t r) := by
  intro F
  induction F with
  | zero => intro a0 i1 i2 i3 i4 i5 i6 I r h; cases h
  | succ F ih =>
    intro a0 i1 i2 i3 i4 i5 i6 I r h
    unfold f302_b103 at h
    refine go_ops aMi302 2 _ (f1 := (106, ([(0, .ref a0), (1, .int i1), (2, .int i2), (3, .int i3), (4, .int i4), (5, .int i5), (6, .int i6)], [.ref a0, .int i6]))) rfl ?_
    obtain ⟨x106_1, hxx106_1, h⟩ := Option.bind_eq_some_iff.mp h
    refine gg_gI aMi302 rfl rfl rfl hxx106_1 ?_
    refine gg_br (b := decide (x106_1 ≤ i6)) (tg := 183) (off := 74) aMi302 rfl rfl rfl rfl (fun hb => ?_) (fun hb => ?_)
    · rw [if_pos (of_decide_eq_true hb)] at h
      refine go_ops aMi302 2 _ (f1 := (186, ([(0, .ref a0), (1, .int i1), (2, .int i2), (3, .int i3), (4, .int i4), (5, .int i5), (6, .int i6)], [.int i4, .ref a0]))) rfl ?_
      obtain ⟨I186_2, hxI186_2, h⟩ := Option.bind_eq_some_iff.mp h
      refine gg_pI aMi302 rfl rfl rfl rfl (by decide) hxI186_2 ?_
      refine go_ops aMi302 2 _ (f1 := (192, ([(6, .int (0 : Int32)), (0, .ref a0), (1, .int i1), (2, .int i2), (3, .int i3), (4, .int i4), (5, .int i5)], []))) rfl ?_
      refine go_le (lv1 := [(0, .ref a0), (1, .int i1), (2, .int i2), (3, .int i3), (5, .int i5), (6, .int (0 : Int32))]) (aLe_of (show (List.map (fun q => q.1) ([(0, .ref a0), (1, .int i1), (2, .int i2), (3, .int i3), (5, .int i5), (6, .int (0 : Int32))] : ALv)).Nodup from (by show ([0, 1, 2, 3, 5, 6] : List Nat).Nodup; decide)) (aSubL_cons rfl (aSubL_cons rfl (aSubL_cons rfl (aSubL_cons rfl (aSubL_cons rfl (aSubL_cons rfl aSubL_nil))))))) ?_
      exact Tf302_b192 hd N a0 i1 i2 i3 i5 (0 : Int32) I186_2 _ h
    · rw [if_neg (of_decide_eq_false hb)] at h
      refine go_ops aMi302 1 _ (f1 := (113, ([(0, .ref a0), (1, .int i1), (2, .int i2), (3, .int i3), (4, .int i4), (5, .int i5), (6, .int i6)], [.ref a0]))) rfl ?_
      obtain ⟨b113_3, hxb113_3, h⟩ := Option.bind_eq_some_iff.mp h
      refine gg_gR aMi302 rfl rfl rfl hxb113_3 ?_
      refine go_ops aMi302 3 _ (f1 := (121, ([(0, .ref a0), (1, .int i1), (2, .int i2), (3, .int i3), (4, .int i4), (5, .int i5), (6, .int i6)], [.int i6, .ref a0, .int i6, .ref b113_3]))) rfl ?_
      obtain ⟨u121_4, hxu121_4, h⟩ := Option.bind_eq_some_iff.mp h
      obtain ⟨r121_5, hxr121_5, h⟩ := Option.bind_eq_some_iff.mp h
      refine gg_cv (as := [.int i6]) (r := [.int i6, .ref b113_3]) aMi302 rfl rfl rfl aMi301 (Nat.le_of_ble_eq_true rfl) rfl (Nat.le_of_ble_eq_true rfl) (Nat.le_of_ble_eq_true rfl) (by omega) hxu121_4 (Tf301 (by omega) a0 i6 I _ hxr121_5) ?_
      show aGo kad d 302 (124, ([(0, .ref a0), (1, .int i1), (2, .int i2), (3, .int i3), (4, .int i4), (5, .int i5), (6, .int i6)], [.int r121_5.1, .int i6, .ref b113_3])) (aMem Z r121_5.2, t) _
      obtain ⟨I124_6, hxI124_6, h⟩ := Option.bind_eq_some_iff.mp h
      refine gg_sI (Or.inl ⟨rfl, rfl⟩) aMi302 rfl hxI124_6 ?_
      refine go_ops aMi302 1 _ (f1 := (126, ([(0, .ref a0), (1, .int i1), (2, .int i2), (3, .int i3), (4, .int i4), (5, .int i5), (6, .int i6)], [.ref a0]))) rfl ?_
      obtain ⟨b126_7, hxb126_7, h⟩ := Option.bind_eq_some_iff.mp h
      refine gg_gR aMi302 rfl rfl rfl hxb126_7 ?_
      refine go_ops aMi302 2 _ (f1 := (132, ([(0, .ref a0), (1, .int i1), (2, .int i2), (3, .int i3), (4, .int i4), (5, .int i5), (6, .int i6)], [.ref a0, .int i6, .ref b126_7]))) rfl ?_
      obtain ⟨b132_8, hxb132_8, h⟩ := Option.bind_eq_some_iff.mp h
      refine gg_gR aMi302 rfl rfl rfl hxb132_8 ?_
      refine go_ops aMi302 1 _ (f1 := (137, ([(0, .ref a0), (1, .int i1), (2, .int i2), (3, .int i3), (4, .int i4), (5, .int i5), (6, .int i6)], [.int i6, .ref b132_8, .int i6, .ref b126_7]))) rfl ?_
      obtain ⟨x137_9, hxx137_9, h⟩ := Option.bind_eq_some_iff.mp h
      refine gg_lI (Or.inr ⟨rfl, rfl⟩) aMi302 rfl hxx137_9 ?_
      refine gg_br (b := decide (¬ x137_9 = 0)) (tg := 151) (off := 13) aMi302 rfl rfl rfl rfl (fun hb => ?_) (fun hb => ?_)
      · rw [if_pos (of_decide_eq_true hb)] at h
        exact Tf302_b151 hd (fun p0 p1 p2 p3 p4 p5 p6 I => f302_b103 kad N Z F p0 p1 p2 p3 p4 p5 p6 I) (fun p0 p1 p2 p3 p4 p5 p6 I r hh => ih p0 p1 p2 p3 p4 p5 p6 I r hh) a0 i1 i2 i3 i4 i5 i6 i6 b126_7 I124_6 _ h
      · rw [if_neg (of_decide_eq_false hb)] at h
        refine go_ops aMi302 1 _ (f1 := (142, ([(0, .ref a0), (1, .int i1), (2, .int i2), (3, .int i3), (4, .int i4), (5, .int i5), (6, .int i6)], [.ref a0, .int i6, .ref b126_7]))) rfl ?_
        obtain ⟨b142_10, hxb142_10, h⟩ := Option.bind_eq_some_iff.mp h
        refine gg_gR aMi302 rfl rfl rfl hxb142_10 ?_
        refine go_ops aMi302 1 _ (f1 := (147, ([(0, .ref a0), (1, .int i1), (2, .int i2), (3, .int i3), (4, .int i4), (5, .int i5), (6, .int i6)], [.int i6, .ref b142_10, .int i6, .ref b126_7]))) rfl ?_
        obtain ⟨x147_11, hxx147_11, h⟩ := Option.bind_eq_some_iff.mp h
        refine gg_lI (Or.inl ⟨rfl, rfl⟩) aMi302 rfl hxx147_11 ?_
        refine gg_br (b := decide (¬ x147_11 = 0)) (tg := 155) (off := 7) aMi302 rfl rfl rfl rfl (fun hb => ?_) (fun hb => ?_)
        · rw [if_pos (of_decide_eq_true hb)] at h
          refine go_ops aMi302 1 _ (f1 := (156, ([(0, .ref a0), (1, .int i1), (2, .int i2), (3, .int i3), (4, .int i4), (5, .int i5), (6, .int i6)], [.int (0 : Int32), .int i6, .ref b126_7]))) rfl ?_
          exact Tf302_b156 hd (fun p0 p1 p2 p3 p4 p5 p6 I => f302_b103 kad N Z F p0 p1 p2 p3 p4 p5 p6 I) (fun p0 p1 p2 p3 p4 p5 p6 I r hh => ih p0 p1 p2 p3 p4 p5 p6 I r hh) a0 i1 i2 i3 i4 i5 i6 (0 : Int32) i6 b126_7 I124_6 _ h
        · rw [if_neg (of_decide_eq_false hb)] at h
          exact Tf302_b151 hd (fun p0 p1 p2 p3 p4 p5 p6 I => f302_b103 kad N Z F p0 p1 p2 p3 p4 p5 p6 I) (fun p0 p1 p2 p3 p4 p5 p6 I r hh => ih p0 p1 p2 p3 p4 p5 p6 I r hh) a0 i1 i2 i3 i4 i5 i6 i6 b126_7 I124_6 _ h
def f302_b56 (kad : Nat → Nat) (N : Nat) (Z : AZ) : Nat → Nat → Int32 → Int32 → Int32 → Int32 → Int32 → AI → Option (Int32 × AI)
  | 0, _, _, _, _, _, _, _ => none
  | F + 1, a0, i1, i2, i3, i4, i5, I =>
    if (20 : Int32) ≤ i5 then
      f302_b103 kad N Z N a0 i1 i2 i3 i4 (0 : Int32) (0 : Int32) I
    else
      (gR Z I 11 72 a0).bind fun b64_1 =>
      (gR Z I 11 41 a0).bind fun b70_2 =>
      (lI Z I 100 b70_2 i5).bind fun x75_3 =>
      (sI Z I 100 b64_1 i5 x75_3).bind fun I76_4 =>
      (gR Z I76_4 11 73 a0).bind fun b78_5 =>
      (gR Z I76_4 11 42 a0).bind fun b84_6 =>
      (lI Z I76_4 100 b84_6 i5).bind fun x89_7 =>
      (sI Z I76_4 100 b78_5 i5 x89_7).bind fun I90_8 =>
      f302_b56 kad N Z F a0 i1 i2 i3 i4 (i5 + (1 : Int32)) I90_8
set_option maxRecDepth 20000 in
theorem Tf302_b56 {kad : Nat → Nat} {N : Nat} {Z : AZ} {d : Nat} {t : Option Nat × (Nat × Nat)} (hd : 8 ≤ d) : ∀ (F : Nat) (a0 : Nat) (i1 : Int32) (i2 : Int32) (i3 : Int32) (i4 : Int32) (i5 : Int32) (I : AI) (r : Int32 × AI), f302_b56 kad N Z F a0 i1 i2 i3 i4 i5 I = some r → aGo kad d 302 (56, ([(0, .ref a0), (1, .int i1), (2, .int i2), (3, .int i3), (4, .int i4), (5, .int i5)], [])) (aMem Z I, t) (qI Z t r) := by
  intro F
  induction F with
  | zero => intro a0 i1 i2 i3 i4 i5 I r h; cases h
  | succ F ih =>
    intro a0 i1 i2 i3 i4 i5 I r h
    unfold f302_b56 at h
    refine go_ops aMi302 2 _ (f1 := (60, ([(0, .ref a0), (1, .int i1), (2, .int i2), (3, .int i3), (4, .int i4), (5, .int i5)], [.int (20 : Int32), .int i5]))) rfl ?_
    refine gg_br (b := decide ((20 : Int32) ≤ i5)) (tg := 97) (off := 37) aMi302 rfl rfl rfl rfl (fun hb => ?_) (fun hb => ?_)
    · rw [if_pos (of_decide_eq_true hb)] at h
      refine go_ops aMi302 4 _ (f1 := (103, ([(6, .int (0 : Int32)), (5, .int (0 : Int32)), (0, .ref a0), (1, .int i1), (2, .int i2), (3, .int i3), (4, .int i4)], []))) rfl ?_
      refine go_le (lv1 := [(0, .ref a0), (1, .int i1), (2, .int i2), (3, .int i3), (4, .int i4), (5, .int (0 : Int32)), (6, .int (0 : Int32))]) (aLe_of (show (List.map (fun q => q.1) ([(0, .ref a0), (1, .int i1), (2, .int i2), (3, .int i3), (4, .int i4), (5, .int (0 : Int32)), (6, .int (0 : Int32))] : ALv)).Nodup from (by show ([0, 1, 2, 3, 4, 5, 6] : List Nat).Nodup; decide)) (aSubL_cons rfl (aSubL_cons rfl (aSubL_cons rfl (aSubL_cons rfl (aSubL_cons rfl (aSubL_cons rfl (aSubL_cons rfl aSubL_nil)))))))) ?_
      exact Tf302_b103 hd N a0 i1 i2 i3 i4 (0 : Int32) (0 : Int32) I _ h
    · rw [if_neg (of_decide_eq_false hb)] at h
      refine go_ops aMi302 1 _ (f1 := (64, ([(0, .ref a0), (1, .int i1), (2, .int i2), (3, .int i3), (4, .int i4), (5, .int i5)], [.ref a0]))) rfl ?_
      obtain ⟨b64_1, hxb64_1, h⟩ := Option.bind_eq_some_iff.mp h
      refine gg_gR aMi302 rfl rfl rfl hxb64_1 ?_
      refine go_ops aMi302 2 _ (f1 := (70, ([(0, .ref a0), (1, .int i1), (2, .int i2), (3, .int i3), (4, .int i4), (5, .int i5)], [.ref a0, .int i5, .ref b64_1]))) rfl ?_
      obtain ⟨b70_2, hxb70_2, h⟩ := Option.bind_eq_some_iff.mp h
      refine gg_gR aMi302 rfl rfl rfl hxb70_2 ?_
      refine go_ops aMi302 1 _ (f1 := (75, ([(0, .ref a0), (1, .int i1), (2, .int i2), (3, .int i3), (4, .int i4), (5, .int i5)], [.int i5, .ref b70_2, .int i5, .ref b64_1]))) rfl ?_
      obtain ⟨x75_3, hxx75_3, h⟩ := Option.bind_eq_some_iff.mp h
      refine gg_lI (Or.inl ⟨rfl, rfl⟩) aMi302 rfl hxx75_3 ?_
      obtain ⟨I76_4, hxI76_4, h⟩ := Option.bind_eq_some_iff.mp h
      refine gg_sI (Or.inl ⟨rfl, rfl⟩) aMi302 rfl hxI76_4 ?_
      refine go_ops aMi302 1 _ (f1 := (78, ([(0, .ref a0), (1, .int i1), (2, .int i2), (3, .int i3), (4, .int i4), (5, .int i5)], [.ref a0]))) rfl ?_
      obtain ⟨b78_5, hxb78_5, h⟩ := Option.bind_eq_some_iff.mp h
      refine gg_gR aMi302 rfl rfl rfl hxb78_5 ?_
      refine go_ops aMi302 2 _ (f1 := (84, ([(0, .ref a0), (1, .int i1), (2, .int i2), (3, .int i3), (4, .int i4), (5, .int i5)], [.ref a0, .int i5, .ref b78_5]))) rfl ?_
      obtain ⟨b84_6, hxb84_6, h⟩ := Option.bind_eq_some_iff.mp h
      refine gg_gR aMi302 rfl rfl rfl hxb84_6 ?_
      refine go_ops aMi302 1 _ (f1 := (89, ([(0, .ref a0), (1, .int i1), (2, .int i2), (3, .int i3), (4, .int i4), (5, .int i5)], [.int i5, .ref b84_6, .int i5, .ref b78_5]))) rfl ?_
      obtain ⟨x89_7, hxx89_7, h⟩ := Option.bind_eq_some_iff.mp h
      refine gg_lI (Or.inl ⟨rfl, rfl⟩) aMi302 rfl hxx89_7 ?_
      obtain ⟨I90_8, hxI90_8, h⟩ := Option.bind_eq_some_iff.mp h
      refine gg_sI (Or.inl ⟨rfl, rfl⟩) aMi302 rfl hxI90_8 ?_
      refine go_ops aMi302 2 _ (f1 := (56, ([(5, .int (i5 + (1 : Int32))), (0, .ref a0), (1, .int i1), (2, .int i2), (3, .int i3), (4, .int i4)], []))) rfl ?_
      refine go_le (lv1 := [(0, .ref a0), (1, .int i1), (2, .int i2), (3, .int i3), (4, .int i4), (5, .int (i5 + (1 : Int32)))]) (aLe_of (show (List.map (fun q => q.1) ([(0, .ref a0), (1, .int i1), (2, .int i2), (3, .int i3), (4, .int i4), (5, .int (i5 + (1 : Int32)))] : ALv)).Nodup from (by show ([0, 1, 2, 3, 4, 5] : List Nat).Nodup; decide)) (aSubL_cons rfl (aSubL_cons rfl (aSubL_cons rfl (aSubL_cons rfl (aSubL_cons rfl (aSubL_cons rfl aSubL_nil))))))) ?_
      exact ih a0 i1 i2 i3 i4 (i5 + (1 : Int32)) I90_8 _ h
def f302_b13 (kad : Nat → Nat) (N : Nat) (Z : AZ) (a0 : Nat) (s0 : Int32) (s1 : Nat) (I : AI) : Option (Int32 × AI) :=
  (isK Z s1 11).bind fun u13_1 =>
  (f185 kad N Z s1 s0 I).bind fun r13_2 =>
  if ¬ r13_2.1 = 0 then
    (isK Z a0 11).bind fun u22_3 =>
    (f216 kad N Z a0 r13_2.2).bind fun r22_4 =>
    (gI Z r22_4.2 11 38 a0).bind fun x27_5 =>
    (gI Z r22_4.2 11 52 a0).bind fun x32_6 =>
    (gI Z r22_4.2 11 43 a0).bind fun x37_7 =>
    (gR Z r22_4.2 11 50 a0).bind fun b43_8 =>
    (gR Z r22_4.2 11 71 a0).bind fun b47_9 =>
    (f255 kad N Z b43_8 b47_9 r22_4.2).bind fun r50_10 =>
    f302_b56 kad N Z N a0 r22_4.1 x27_5 x32_6 x37_7 (0 : Int32) r50_10.2
  else
    some ((0 : Int32), r13_2.2)
set_option maxRecDepth 20000 in
theorem Tf302_b13 {kad : Nat → Nat} {N : Nat} {Z : AZ} {d : Nat} {t : Option Nat × (Nat × Nat)} (hd : 8 ≤ d) : ∀ (a0 : Nat) (s0 : Int32) (s1 : Nat) (I : AI) (r : Int32 × AI), f302_b13 kad N Z a0 s0 s1 I = some r → aGo kad d 302 (13, ([(0, .ref a0)], [.int s0, .ref s1])) (aMem Z I, t) (qI Z t r) := by
  intro a0 s0 s1 I r h
  unfold f302_b13 at h
  obtain ⟨u13_1, hxu13_1, h⟩ := Option.bind_eq_some_iff.mp h
  obtain ⟨r13_2, hxr13_2, h⟩ := Option.bind_eq_some_iff.mp h
  refine gg_cv (as := [.int s0]) (r := []) aMi302 rfl rfl rfl aMi185 (Nat.le_of_ble_eq_true rfl) rfl (Nat.le_of_ble_eq_true rfl) (Nat.le_of_ble_eq_true rfl) (by omega) hxu13_1 (Tf185 (by omega) s1 s0 I _ hxr13_2) ?_
  show aGo kad d 302 (16, ([(0, .ref a0)], [.int r13_2.1])) (aMem Z r13_2.2, t) _
  refine gg_br (b := decide (¬ r13_2.1 = 0)) (tg := 21) (off := 5) aMi302 rfl rfl rfl rfl (fun hb => ?_) (fun hb => ?_)
  · rw [if_pos (of_decide_eq_true hb)] at h
    refine go_ops aMi302 1 _ (f1 := (22, ([(0, .ref a0)], [.ref a0]))) rfl ?_
    obtain ⟨u22_3, hxu22_3, h⟩ := Option.bind_eq_some_iff.mp h
    obtain ⟨r22_4, hxr22_4, h⟩ := Option.bind_eq_some_iff.mp h
    refine gg_cv (as := []) (r := []) aMi302 rfl rfl rfl aMi216 (Nat.le_of_ble_eq_true rfl) rfl (Nat.le_of_ble_eq_true rfl) (Nat.le_of_ble_eq_true rfl) (by omega) hxu22_3 (Tf216 (by omega) a0 r13_2.2 _ hxr22_4) ?_
    show aGo kad d 302 (25, ([(0, .ref a0)], [.int r22_4.1])) (aMem Z r22_4.2, t) _
    refine go_ops aMi302 2 _ (f1 := (27, ([(1, .int r22_4.1), (0, .ref a0)], [.ref a0]))) rfl ?_
    obtain ⟨x27_5, hxx27_5, h⟩ := Option.bind_eq_some_iff.mp h
    refine gg_gI aMi302 rfl rfl rfl hxx27_5 ?_
    refine go_ops aMi302 2 _ (f1 := (32, ([(2, .int x27_5), (1, .int r22_4.1), (0, .ref a0)], [.ref a0]))) rfl ?_
    obtain ⟨x32_6, hxx32_6, h⟩ := Option.bind_eq_some_iff.mp h
    refine gg_gI aMi302 rfl rfl rfl hxx32_6 ?_
    refine go_ops aMi302 2 _ (f1 := (37, ([(3, .int x32_6), (2, .int x27_5), (1, .int r22_4.1), (0, .ref a0)], [.ref a0]))) rfl ?_
    obtain ⟨x37_7, hxx37_7, h⟩ := Option.bind_eq_some_iff.mp h
    refine gg_gI aMi302 rfl rfl rfl hxx37_7 ?_
    refine go_ops aMi302 2 _ (f1 := (43, ([(4, .int x37_7), (3, .int x32_6), (2, .int x27_5), (1, .int r22_4.1), (0, .ref a0)], [.ref a0]))) rfl ?_
    obtain ⟨b43_8, hxb43_8, h⟩ := Option.bind_eq_some_iff.mp h
    refine gg_gR aMi302 rfl rfl rfl hxb43_8 ?_
    refine go_ops aMi302 1 _ (f1 := (47, ([(4, .int x37_7), (3, .int x32_6), (2, .int x27_5), (1, .int r22_4.1), (0, .ref a0)], [.ref a0, .ref b43_8]))) rfl ?_
    obtain ⟨b47_9, hxb47_9, h⟩ := Option.bind_eq_some_iff.mp h
    refine gg_gR aMi302 rfl rfl rfl hxb47_9 ?_
    obtain ⟨r50_10, hxr50_10, h⟩ := Option.bind_eq_some_iff.mp h
    refine gg_cs (as := [.ref b43_8, .ref b47_9]) (r := []) aMi302 rfl rfl rfl aMi255 rfl (Nat.le_of_ble_eq_true rfl) (Nat.le_of_ble_eq_true rfl) (by omega) (Tf255 (by omega) b43_8 b47_9 r22_4.2 _ hxr50_10) ?_
    show aGo kad d 302 (53, ([(4, .int x37_7), (3, .int x32_6), (2, .int x27_5), (1, .int r22_4.1), (0, .ref a0)], [])) (aMem Z r50_10.2, t) _
    refine go_ops aMi302 2 _ (f1 := (56, ([(5, .int (0 : Int32)), (4, .int x37_7), (3, .int x32_6), (2, .int x27_5), (1, .int r22_4.1), (0, .ref a0)], []))) rfl ?_
    refine go_le (lv1 := [(0, .ref a0), (1, .int r22_4.1), (2, .int x27_5), (3, .int x32_6), (4, .int x37_7), (5, .int (0 : Int32))]) (aLe_of (show (List.map (fun q => q.1) ([(0, .ref a0), (1, .int r22_4.1), (2, .int x27_5), (3, .int x32_6), (4, .int x37_7), (5, .int (0 : Int32))] : ALv)).Nodup from (by show ([0, 1, 2, 3, 4, 5] : List Nat).Nodup; decide)) (aSubL_cons rfl (aSubL_cons rfl (aSubL_cons rfl (aSubL_cons rfl (aSubL_cons rfl (aSubL_cons rfl aSubL_nil))))))) ?_
    exact Tf302_b56 hd N a0 r22_4.1 x27_5 x32_6 x37_7 (0 : Int32) r50_10.2 _ h
  · rw [if_neg (of_decide_eq_false hb)] at h
    refine go_ops aMi302 1 _ (f1 := (20, ([(0, .ref a0)], [.int (0 : Int32)]))) rfl ?_
    cases h
    exact go_ret aMi302 rfl aRetI ⟨rfl, rfl⟩
def f302 (kad : Nat → Nat) (N : Nat) (Z : AZ) (a0 : Nat) (I : AI) : Option (Int32 × AI) :=
  (gI Z I 11 22 a0).bind fun x2_1 =>
  if x2_1 = 0 then
    f302_b13 kad N Z a0 (1 : Int32) a0 I
  else
    f302_b13 kad N Z a0 (0 : Int32) a0 I
set_option maxRecDepth 20000 in
theorem Tf302 {kad : Nat → Nat} {N : Nat} {Z : AZ} {d : Nat} {t : Option Nat × (Nat × Nat)} (hd : 8 ≤ d) : ∀ (a0 : Nat) (I : AI) (r : Int32 × AI), f302 kad N Z a0 I = some r → aGo kad d 302 (0, ([(0, .ref a0)], [])) (aMem Z I, t) (qI Z t r) := by
  intro a0 I r h
  unfold f302 at h
  refine go_ops aMi302 2 _ (f1 := (2, ([(0, .ref a0)], [.ref a0, .ref a0]))) rfl ?_
  obtain ⟨x2_1, hxx2_1, h⟩ := Option.bind_eq_some_iff.mp h
  refine gg_gI aMi302 rfl rfl rfl hxx2_1 ?_
  refine gg_br (b := decide (x2_1 = 0)) (tg := 12) (off := 7) aMi302 rfl rfl rfl rfl (fun hb => ?_) (fun hb => ?_)
  · rw [if_pos (of_decide_eq_true hb)] at h
    refine go_ops aMi302 1 _ (f1 := (13, ([(0, .ref a0)], [.int (1 : Int32), .ref a0]))) rfl ?_
    exact Tf302_b13 hd a0 (1 : Int32) a0 I _ h
  · rw [if_neg (of_decide_eq_false hb)] at h
    refine go_ops aMi302 2 _ (f1 := (13, ([(0, .ref a0)], [.int (0 : Int32), .ref a0]))) rfl ?_
    exact Tf302_b13 hd a0 (0 : Int32) a0 I _ h
-- KernelGymModel.result (I)I
def f303_b36 (kad : Nat → Nat) (N : Nat) (Z : AZ) (s0 : Int32) (I : AI) : Option (Int32 × AI) :=
  some (s0, I)
set_option maxRecDepth 20000 in
theorem Tf303_b36 {kad : Nat → Nat} {N : Nat} {Z : AZ} {d : Nat} {t : Option Nat × (Nat × Nat)} (hd : 1 ≤ d) : ∀ (s0 : Int32) (I : AI) (r : Int32 × AI), f303_b36 kad N Z s0 I = some r → aGo kad d 303 (36, ([], [.int s0])) (aMem Z I, t) (qI Z t r) := by
  intro s0 I r h
  unfold f303_b36 at h
  cases h
  exact go_ret aMi303 rfl aRetI ⟨rfl, rfl⟩
def f303_b20 (kad : Nat → Nat) (N : Nat) (Z : AZ) (a0 : Nat) (i1 : Int32) (s0 : Int32) (s1 : Nat) (I : AI) : Option (Int32 × AI) :=
  (isK Z s1 11).bind fun u20_1 =>
  (f185 kad N Z s1 s0 I).bind fun r20_2 =>
  if r20_2.1 = 0 then
    f303_b36 kad N Z (0 : Int32) r20_2.2
  else
    (gR Z r20_2.2 11 69 a0).bind fun b27_3 =>
    (lI Z r20_2.2 100 b27_3 i1).bind fun x31_4 =>
    f303_b36 kad N Z x31_4 r20_2.2
set_option maxRecDepth 20000 in
theorem Tf303_b20 {kad : Nat → Nat} {N : Nat} {Z : AZ} {d : Nat} {t : Option Nat × (Nat × Nat)} (hd : 1 ≤ d) : ∀ (a0 : Nat) (i1 : Int32) (s0 : Int32) (s1 : Nat) (I : AI) (r : Int32 × AI), f303_b20 kad N Z a0 i1 s0 s1 I = some r → aGo kad d 303 (20, ([(0, .ref a0), (1, .int i1)], [.int s0, .ref s1])) (aMem Z I, t) (qI Z t r) := by
  intro a0 i1 s0 s1 I r h
  unfold f303_b20 at h
  obtain ⟨u20_1, hxu20_1, h⟩ := Option.bind_eq_some_iff.mp h
  obtain ⟨r20_2, hxr20_2, h⟩ := Option.bind_eq_some_iff.mp h
  refine gg_cv (as := [.int s0]) (r := []) aMi303 rfl rfl rfl aMi185 (Nat.le_of_ble_eq_true rfl) rfl (Nat.le_of_ble_eq_true rfl) (Nat.le_of_ble_eq_true rfl) (by omega) hxu20_1 (Tf185 (by omega) s1 s0 I _ hxr20_2) ?_
  show aGo kad d 303 (23, ([(0, .ref a0), (1, .int i1)], [.int r20_2.1])) (aMem Z r20_2.2, t) _
  refine gg_br (b := decide (r20_2.1 = 0)) (tg := 35) (off := 12) aMi303 rfl rfl rfl rfl (fun hb => ?_) (fun hb => ?_)
  · rw [if_pos (of_decide_eq_true hb)] at h
    refine go_ops aMi303 1 _ (f1 := (36, ([(0, .ref a0), (1, .int i1)], [.int (0 : Int32)]))) rfl ?_
    refine go_le (lv1 := []) (aLe_of (show (List.map (fun q => q.1) ([] : ALv)).Nodup from (by show ([] : List Nat).Nodup; decide)) aSubL_nil) ?_
    exact Tf303_b36 hd (0 : Int32) r20_2.2 _ h
  · rw [if_neg (of_decide_eq_false hb)] at h
    refine go_ops aMi303 1 _ (f1 := (27, ([(0, .ref a0), (1, .int i1)], [.ref a0]))) rfl ?_
    obtain ⟨b27_3, hxb27_3, h⟩ := Option.bind_eq_some_iff.mp h
    refine gg_gR aMi303 rfl rfl rfl hxb27_3 ?_
    refine go_ops aMi303 1 _ (f1 := (31, ([(0, .ref a0), (1, .int i1)], [.int i1, .ref b27_3]))) rfl ?_
    obtain ⟨x31_4, hxx31_4, h⟩ := Option.bind_eq_some_iff.mp h
    refine gg_lI (Or.inl ⟨rfl, rfl⟩) aMi303 rfl hxx31_4 ?_
    refine go_ops aMi303 1 _ (f1 := (36, ([(0, .ref a0), (1, .int i1)], [.int x31_4]))) rfl ?_
    refine go_le (lv1 := []) (aLe_of (show (List.map (fun q => q.1) ([] : ALv)).Nodup from (by show ([] : List Nat).Nodup; decide)) aSubL_nil) ?_
    exact Tf303_b36 hd x31_4 r20_2.2 _ h
def f303 (kad : Nat → Nat) (N : Nat) (Z : AZ) (a0 : Nat) (i1 : Int32) (I : AI) : Option (Int32 × AI) :=
  (gI Z I 11 60 a0).bind fun x4_1 =>
  (f186 kad N Z i1 (0 : Int32) (x4_1 - (1 : Int32)) I).bind fun r9_2 =>
  if r9_2.1 = 0 then
    f303_b20 kad N Z a0 i1 (1 : Int32) a0 r9_2.2
  else
    f303_b20 kad N Z a0 i1 (0 : Int32) a0 r9_2.2
set_option maxRecDepth 20000 in
theorem Tf303 {kad : Nat → Nat} {N : Nat} {Z : AZ} {d : Nat} {t : Option Nat × (Nat × Nat)} (hd : 1 ≤ d) : ∀ (a0 : Nat) (i1 : Int32) (I : AI) (r : Int32 × AI), f303 kad N Z a0 i1 I = some r → aGo kad d 303 (0, ([(0, .ref a0), (1, .int i1)], [])) (aMem Z I, t) (qI Z t r) := by
  intro a0 i1 I r h
  unfold f303 at h
  refine go_ops aMi303 4 _ (f1 := (4, ([(0, .ref a0), (1, .int i1)], [.ref a0, .int (0 : Int32), .int i1, .ref a0]))) rfl ?_
  obtain ⟨x4_1, hxx4_1, h⟩ := Option.bind_eq_some_iff.mp h
  refine gg_gI aMi303 rfl rfl rfl hxx4_1 ?_
  refine go_ops aMi303 2 _ (f1 := (9, ([(0, .ref a0), (1, .int i1)], [.int (x4_1 - (1 : Int32)), .int (0 : Int32), .int i1, .ref a0]))) rfl ?_
  obtain ⟨r9_2, hxr9_2, h⟩ := Option.bind_eq_some_iff.mp h
  refine gg_cs (as := [.int i1, .int (0 : Int32), .int (x4_1 - (1 : Int32))]) (r := [.ref a0]) aMi303 rfl rfl rfl aMi186 rfl (Nat.le_of_ble_eq_true rfl) (Nat.le_of_ble_eq_true rfl) (by omega) (Tf186 (by omega) i1 (0 : Int32) (x4_1 - (1 : Int32)) I _ hxr9_2) ?_
  show aGo kad d 303 (12, ([(0, .ref a0), (1, .int i1)], [.int r9_2.1, .ref a0])) (aMem Z r9_2.2, t) _
  refine gg_br (b := decide (r9_2.1 = 0)) (tg := 19) (off := 7) aMi303 rfl rfl rfl rfl (fun hb => ?_) (fun hb => ?_)
  · rw [if_pos (of_decide_eq_true hb)] at h
    refine go_ops aMi303 1 _ (f1 := (20, ([(0, .ref a0), (1, .int i1)], [.int (1 : Int32), .ref a0]))) rfl ?_
    exact Tf303_b20 hd a0 i1 (1 : Int32) a0 r9_2.2 _ h
  · rw [if_neg (of_decide_eq_false hb)] at h
    refine go_ops aMi303 2 _ (f1 := (20, ([(0, .ref a0), (1, .int i1)], [.int (0 : Int32), .ref a0]))) rfl ?_
    exact Tf303_b20 hd a0 i1 (0 : Int32) a0 r9_2.2 _ h
-- KernelGymModel.mark ()I
def f304_b70 (kad : Nat → Nat) (N : Nat) (Z : AZ) (k9 : Nat → Int32 → Int32 → AI → Option (Int32 × AI)) (a0 : Nat) (i2 : Int32) (s0 : Int32) (s1 : Int32) (I : AI) : Option (Int32 × AI) :=
  k9 a0 (s1 + s0) (i2 + (1 : Int32)) I
set_option maxRecDepth 20000 in
theorem Tf304_b70 {kad : Nat → Nat} {N : Nat} {Z : AZ} {d : Nat} {t : Option Nat × (Nat × Nat)} (hd : 0 ≤ d) (k9 : Nat → Int32 → Int32 → AI → Option (Int32 × AI))  (hk9 : ∀ (a0 : Nat) (i1 : Int32) (i2 : Int32)  (I : AI) (r : Int32 × AI), k9 a0 i1 i2 I = some r → aGo kad d 304 (9, ([(0, .ref a0), (1, .int i1), (2, .int i2)], [])) (aMem Z I, t) (qI Z t r)) : ∀ (a0 : Nat) (i2 : Int32) (s0 : Int32) (s1 : Int32) (I : AI) (r : Int32 × AI), f304_b70 kad N Z k9 a0 i2 s0 s1 I = some r → aGo kad d 304 (70, ([(0, .ref a0), (2, .int i2)], [.int s0, .int s1])) (aMem Z I, t) (qI Z t r) := by
  intro a0 i2 s0 s1 I r h
  unfold f304_b70 at h
  refine go_ops aMi304 4 _ (f1 := (9, ([(2, .int (i2 + (1 : Int32))), (1, .int (s1 + s0)), (0, .ref a0)], []))) rfl ?_
  refine go_le (lv1 := [(0, .ref a0), (1, .int (s1 + s0)), (2, .int (i2 + (1 : Int32)))]) (aLe_of (show (List.map (fun q => q.1) ([(0, .ref a0), (1, .int (s1 + s0)), (2, .int (i2 + (1 : Int32)))] : ALv)).Nodup from (by show ([0, 1, 2] : List Nat).Nodup; decide)) (aSubL_cons rfl (aSubL_cons rfl (aSubL_cons rfl aSubL_nil)))) ?_
  exact hk9 a0 (s1 + s0) (i2 + (1 : Int32)) I _ h
def f304_b69 (kad : Nat → Nat) (N : Nat) (Z : AZ) (k9 : Nat → Int32 → Int32 → AI → Option (Int32 × AI)) (a0 : Nat) (i2 : Int32) (s0 : Int32) (I : AI) : Option (Int32 × AI) :=
  f304_b70 kad N Z k9 a0 i2 (0 : Int32) s0 I
set_option maxRecDepth 20000 in
theorem Tf304_b69 {kad : Nat → Nat} {N : Nat} {Z : AZ} {d : Nat} {t : Option Nat × (Nat × Nat)} (hd : 0 ≤ d) (k9 : Nat → Int32 → Int32 → AI → Option (Int32 × AI))  (hk9 : ∀ (a0 : Nat) (i1 : Int32) (i2 : Int32)  (I : AI) (r : Int32 × AI), k9 a0 i1 i2 I = some r → aGo kad d 304 (9, ([(0, .ref a0), (1, .int i1), (2, .int i2)], [])) (aMem Z I, t) (qI Z t r)) : ∀ (a0 : Nat) (i2 : Int32) (s0 : Int32) (I : AI) (r : Int32 × AI), f304_b69 kad N Z k9 a0 i2 s0 I = some r → aGo kad d 304 (69, ([(0, .ref a0), (2, .int i2)], [.int s0])) (aMem Z I, t) (qI Z t r) := by
  intro a0 i2 s0 I r h
  unfold f304_b69 at h
  refine go_ops aMi304 1 _ (f1 := (70, ([(0, .ref a0), (2, .int i2)], [.int (0 : Int32), .int s0]))) rfl ?_
  exact Tf304_b70 hd k9 hk9 a0 i2 (0 : Int32) s0 I _ h
def f304_b87 (kad : Nat → Nat) (N : Nat) (Z : AZ) (s0 : Int32) (I : AI) : Option (Int32 × AI) :=
  some (s0, I)
set_option maxRecDepth 20000 in
theorem Tf304_b87 {kad : Nat → Nat} {N : Nat} {Z : AZ} {d : Nat} {t : Option Nat × (Nat × Nat)} (hd : 0 ≤ d) : ∀ (s0 : Int32) (I : AI) (r : Int32 × AI), f304_b87 kad N Z s0 I = some r → aGo kad d 304 (87, ([], [.int s0])) (aMem Z I, t) (qI Z t r) := by
  intro s0 I r h
  unfold f304_b87 at h
  cases h
  exact go_ret aMi304 rfl aRetI ⟨rfl, rfl⟩
def f304_b9 (kad : Nat → Nat) (N : Nat) (Z : AZ) : Nat → Nat → Int32 → Int32 → AI → Option (Int32 × AI)
  | 0, _, _, _, _ => none
  | F + 1, a0, i1, i2, I =>
    (gI Z I 11 60 a0).bind fun x11_1 =>
    if x11_1 ≤ i2 then
      if 0 ≤ i1 then
        f304_b87 kad N Z i1 I
      else
        f304_b87 kad N Z (0 : Int32) I
    else
      (gR Z I 11 69 a0).bind fun b19_2 =>
      (lI Z I 100 b19_2 i2).bind fun x23_3 =>
      if ¬ x23_3 = 0 then
        (gR Z I 11 69 a0).bind fun b37_4 =>
        (lI Z I 100 b37_4 i2).bind fun x41_5 =>
        if x41_5 = (Int32.ofInt (-1)) then
          f304_b69 kad N Z (fun p0 p1 p2 I => f304_b9 kad N Z F p0 p1 p2 I) a0 i2 i1 I
        else
          (gR Z I 11 70 a0).bind fun b47_6 =>
          (lI Z I 101 b47_6 i2).bind fun x51_7 =>
          if x51_7 = 0 then
            f304_b69 kad N Z (fun p0 p1 p2 I => f304_b9 kad N Z F p0 p1 p2 I) a0 i2 i1 I
          else
            (gR Z I 11 67 a0).bind fun b56_8 =>
            (lI Z I 100 b56_8 i2).bind fun x60_9 =>
            f304_b70 kad N Z (fun p0 p1 p2 I => f304_b9 kad N Z F p0 p1 p2 I) a0 i2 (-((x60_9 + (1 : Int32)) / (2 : Int32))) i1 I
      else
        (gR Z I 11 67 a0).bind fun b28_10 =>
        (lI Z I 100 b28_10 i2).bind fun x32_11 =>
        f304_b70 kad N Z (fun p0 p1 p2 I => f304_b9 kad N Z F p0 p1 p2 I) a0 i2 x32_11 i1 I
set_option maxRecDepth 20000 in
theorem Tf304_b9 {kad : Nat → Nat} {N : Nat} {Z : AZ} {d : Nat} {t : Option Nat × (Nat × Nat)} (hd : 0 ≤ d) : ∀ (F : Nat) (a0 : Nat) (i1 : Int32) (i2 : Int32) (I : AI) (r : Int32 × AI), f304_b9 kad N Z F a0 i1 i2 I = some r → aGo kad d 304 (9, ([(0, .ref a0), (1, .int i1), (2, .int i2)], [])) (aMem Z I, t) (qI Z t r) := by
  intro F
  induction F with
  | zero => intro a0 i1 i2 I r h; cases h
  | succ F ih =>
    intro a0 i1 i2 I r h
    unfold f304_b9 at h
    refine go_ops aMi304 2 _ (f1 := (11, ([(0, .ref a0), (1, .int i1), (2, .int i2)], [.ref a0, .int i2]))) rfl ?_
    obtain ⟨x11_1, hxx11_1, h⟩ := Option.bind_eq_some_iff.mp h
    refine gg_gI aMi304 rfl rfl rfl hxx11_1 ?_
    refine gg_br (b := decide (x11_1 ≤ i2)) (tg := 78) (off := 64) aMi304 rfl rfl rfl rfl (fun hb => ?_) (fun hb => ?_)
    · rw [if_pos (of_decide_eq_true hb)] at h
      refine go_ops aMi304 1 _ (f1 := (79, ([(0, .ref a0), (1, .int i1), (2, .int i2)], [.int i1]))) rfl ?_
      refine gg_br (b := decide (0 ≤ i1)) (tg := 86) (off := 7) aMi304 rfl rfl rfl rfl (fun hb => ?_) (fun hb => ?_)
      · rw [if_pos (of_decide_eq_true hb)] at h
        refine go_ops aMi304 1 _ (f1 := (87, ([(0, .ref a0), (1, .int i1), (2, .int i2)], [.int i1]))) rfl ?_
        refine go_le (lv1 := []) (aLe_of (show (List.map (fun q => q.1) ([] : ALv)).Nodup from (by show ([] : List Nat).Nodup; decide)) aSubL_nil) ?_
        exact Tf304_b87 hd i1 I _ h
      · rw [if_neg (of_decide_eq_false hb)] at h
        refine go_ops aMi304 2 _ (f1 := (87, ([(0, .ref a0), (1, .int i1), (2, .int i2)], [.int (0 : Int32)]))) rfl ?_
        refine go_le (lv1 := []) (aLe_of (show (List.map (fun q => q.1) ([] : ALv)).Nodup from (by show ([] : List Nat).Nodup; decide)) aSubL_nil) ?_
        exact Tf304_b87 hd (0 : Int32) I _ h
    · rw [if_neg (of_decide_eq_false hb)] at h
      refine go_ops aMi304 2 _ (f1 := (19, ([(0, .ref a0), (1, .int i1), (2, .int i2)], [.ref a0, .int i1]))) rfl ?_
      obtain ⟨b19_2, hxb19_2, h⟩ := Option.bind_eq_some_iff.mp h
      refine gg_gR aMi304 rfl rfl rfl hxb19_2 ?_
      refine go_ops aMi304 1 _ (f1 := (23, ([(0, .ref a0), (1, .int i1), (2, .int i2)], [.int i2, .ref b19_2, .int i1]))) rfl ?_
      obtain ⟨x23_3, hxx23_3, h⟩ := Option.bind_eq_some_iff.mp h
      refine gg_lI (Or.inl ⟨rfl, rfl⟩) aMi304 rfl hxx23_3 ?_
      refine gg_br (b := decide (¬ x23_3 = 0)) (tg := 36) (off := 12) aMi304 rfl rfl rfl rfl (fun hb => ?_) (fun hb => ?_)
      · rw [if_pos (of_decide_eq_true hb)] at h
        refine go_ops aMi304 1 _ (f1 := (37, ([(0, .ref a0), (1, .int i1), (2, .int i2)], [.ref a0, .int i1]))) rfl ?_
        obtain ⟨b37_4, hxb37_4, h⟩ := Option.bind_eq_some_iff.mp h
        refine gg_gR aMi304 rfl rfl rfl hxb37_4 ?_
        refine go_ops aMi304 1 _ (f1 := (41, ([(0, .ref a0), (1, .int i1), (2, .int i2)], [.int i2, .ref b37_4, .int i1]))) rfl ?_
        obtain ⟨x41_5, hxx41_5, h⟩ := Option.bind_eq_some_iff.mp h
        refine gg_lI (Or.inl ⟨rfl, rfl⟩) aMi304 rfl hxx41_5 ?_
        refine go_ops aMi304 1 _ (f1 := (43, ([(0, .ref a0), (1, .int i1), (2, .int i2)], [.int (Int32.ofInt (-1)), .int x41_5, .int i1]))) rfl ?_
        refine gg_br (b := decide (x41_5 = (Int32.ofInt (-1)))) (tg := 69) (off := 26) aMi304 rfl rfl rfl rfl (fun hb => ?_) (fun hb => ?_)
        · rw [if_pos (of_decide_eq_true hb)] at h
          refine go_le (lv1 := [(0, .ref a0), (2, .int i2)]) (aLe_of (show (List.map (fun q => q.1) ([(0, .ref a0), (2, .int i2)] : ALv)).Nodup from (by show ([0, 2] : List Nat).Nodup; decide)) (aSubL_cons rfl (aSubL_cons rfl aSubL_nil))) ?_
          exact Tf304_b69 hd (fun p0 p1 p2 I => f304_b9 kad N Z F p0 p1 p2 I) (fun p0 p1 p2 I r hh => ih p0 p1 p2 I r hh) a0 i2 i1 I _ h
        · rw [if_neg (of_decide_eq_false hb)] at h
          refine go_ops aMi304 1 _ (f1 := (47, ([(0, .ref a0), (1, .int i1), (2, .int i2)], [.ref a0, .int i1]))) rfl ?_
          obtain ⟨b47_6, hxb47_6, h⟩ := Option.bind_eq_some_iff.mp h
          refine gg_gR aMi304 rfl rfl rfl hxb47_6 ?_
          refine go_ops aMi304 1 _ (f1 := (51, ([(0, .ref a0), (1, .int i1), (2, .int i2)], [.int i2, .ref b47_6, .int i1]))) rfl ?_
          obtain ⟨x51_7, hxx51_7, h⟩ := Option.bind_eq_some_iff.mp h
          refine gg_lI (Or.inr ⟨rfl, rfl⟩) aMi304 rfl hxx51_7 ?_
          refine gg_br (b := decide (x51_7 = 0)) (tg := 69) (off := 17) aMi304 rfl rfl rfl rfl (fun hb => ?_) (fun hb => ?_)
          · rw [if_pos (of_decide_eq_true hb)] at h
            refine go_le (lv1 := [(0, .ref a0), (2, .int i2)]) (aLe_of (show (List.map (fun q => q.1) ([(0, .ref a0), (2, .int i2)] : ALv)).Nodup from (by show ([0, 2] : List Nat).Nodup; decide)) (aSubL_cons rfl (aSubL_cons rfl aSubL_nil))) ?_
            exact Tf304_b69 hd (fun p0 p1 p2 I => f304_b9 kad N Z F p0 p1 p2 I) (fun p0 p1 p2 I r hh => ih p0 p1 p2 I r hh) a0 i2 i1 I _ h
          · rw [if_neg (of_decide_eq_false hb)] at h
            refine go_ops aMi304 1 _ (f1 := (56, ([(0, .ref a0), (1, .int i1), (2, .int i2)], [.ref a0, .int i1]))) rfl ?_
            obtain ⟨b56_8, hxb56_8, h⟩ := Option.bind_eq_some_iff.mp h
            refine gg_gR aMi304 rfl rfl rfl hxb56_8 ?_
            refine go_ops aMi304 1 _ (f1 := (60, ([(0, .ref a0), (1, .int i1), (2, .int i2)], [.int i2, .ref b56_8, .int i1]))) rfl ?_
            obtain ⟨x60_9, hxx60_9, h⟩ := Option.bind_eq_some_iff.mp h
            refine gg_lI (Or.inl ⟨rfl, rfl⟩) aMi304 rfl hxx60_9 ?_
            refine go_ops aMi304 6 _ (f1 := (70, ([(0, .ref a0), (1, .int i1), (2, .int i2)], [.int (-((x60_9 + (1 : Int32)) / (2 : Int32))), .int i1]))) rfl ?_
            refine go_le (lv1 := [(0, .ref a0), (2, .int i2)]) (aLe_of (show (List.map (fun q => q.1) ([(0, .ref a0), (2, .int i2)] : ALv)).Nodup from (by show ([0, 2] : List Nat).Nodup; decide)) (aSubL_cons rfl (aSubL_cons rfl aSubL_nil))) ?_
            exact Tf304_b70 hd (fun p0 p1 p2 I => f304_b9 kad N Z F p0 p1 p2 I) (fun p0 p1 p2 I r hh => ih p0 p1 p2 I r hh) a0 i2 (-((x60_9 + (1 : Int32)) / (2 : Int32))) i1 I _ h
      · rw [if_neg (of_decide_eq_false hb)] at h
        refine go_ops aMi304 1 _ (f1 := (28, ([(0, .ref a0), (1, .int i1), (2, .int i2)], [.ref a0, .int i1]))) rfl ?_
        obtain ⟨b28_10, hxb28_10, h⟩ := Option.bind_eq_some_iff.mp h
        refine gg_gR aMi304 rfl rfl rfl hxb28_10 ?_
        refine go_ops aMi304 1 _ (f1 := (32, ([(0, .ref a0), (1, .int i1), (2, .int i2)], [.int i2, .ref b28_10, .int i1]))) rfl ?_
        obtain ⟨x32_11, hxx32_11, h⟩ := Option.bind_eq_some_iff.mp h
        refine gg_lI (Or.inl ⟨rfl, rfl⟩) aMi304 rfl hxx32_11 ?_
        refine go_ops aMi304 1 _ (f1 := (70, ([(0, .ref a0), (1, .int i1), (2, .int i2)], [.int x32_11, .int i1]))) rfl ?_
        refine go_le (lv1 := [(0, .ref a0), (2, .int i2)]) (aLe_of (show (List.map (fun q => q.1) ([(0, .ref a0), (2, .int i2)] : ALv)).Nodup from (by show ([0, 2] : List Nat).Nodup; decide)) (aSubL_cons rfl (aSubL_cons rfl aSubL_nil))) ?_
        exact Tf304_b70 hd (fun p0 p1 p2 I => f304_b9 kad N Z F p0 p1 p2 I) (fun p0 p1 p2 I r hh => ih p0 p1 p2 I r hh) a0 i2 x32_11 i1 I _ h
def f304 (kad : Nat → Nat) (N : Nat) (Z : AZ) (a0 : Nat) (I : AI) : Option (Int32 × AI) :=
  (pI Z I 11 0 a0 (0 : Int32)).bind fun I2_1 =>
  f304_b9 kad N Z N a0 (0 : Int32) (0 : Int32) I2_1
set_option maxRecDepth 20000 in
theorem Tf304 {kad : Nat → Nat} {N : Nat} {Z : AZ} {d : Nat} {t : Option Nat × (Nat × Nat)} (hd : 0 ≤ d) : ∀ (a0 : Nat) (I : AI) (r : Int32 × AI), f304 kad N Z a0 I = some r → aGo kad d 304 (0, ([(0, .ref a0)], [])) (aMem Z I, t) (qI Z t r) := by
  intro a0 I r h
  unfold f304 at h
  refine go_ops aMi304 2 _ (f1 := (2, ([(0, .ref a0)], [.int (0 : Int32), .ref a0]))) rfl ?_
  obtain ⟨I2_1, hxI2_1, h⟩ := Option.bind_eq_some_iff.mp h
  refine gg_pI aMi304 rfl rfl rfl rfl (by decide) hxI2_1 ?_
  refine go_ops aMi304 4 _ (f1 := (9, ([(2, .int (0 : Int32)), (1, .int (0 : Int32)), (0, .ref a0)], []))) rfl ?_
  refine go_le (lv1 := [(0, .ref a0), (1, .int (0 : Int32)), (2, .int (0 : Int32))]) (aLe_of (show (List.map (fun q => q.1) ([(0, .ref a0), (1, .int (0 : Int32)), (2, .int (0 : Int32))] : ALv)).Nodup from (by show ([0, 1, 2] : List Nat).Nodup; decide)) (aSubL_cons rfl (aSubL_cons rfl (aSubL_cons rfl aSubL_nil)))) ?_
  exact Tf304_b9 hd N a0 (0 : Int32) (0 : Int32) I2_1 _ h
