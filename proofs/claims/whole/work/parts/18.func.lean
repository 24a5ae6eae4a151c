-- KernelGym$Clerk.rename (IILKernelGym$Disk;)V
def f32_b26 (kad : Nat → Nat) (N : Nat) (Z : AZ) (a0 : Nat) (i1 : Int32) (i2 : Int32) (I : AI) : Option (Unit × AI) :=
  (isK Z a0 1).bind fun u30_1 =>
  (f34 kad N Z a0 i1 (0 : Int32) i2 I).bind fun r30_2 =>
  some ((), r30_2.2)
set_option maxRecDepth 20000 in
theorem Tf32_b26 {kad : Nat → Nat} {N : Nat} {Z : AZ} {d : Nat} {t : Option Nat × (Nat × Nat)} (hd : 3 ≤ d) : ∀ (a0 : Nat) (i1 : Int32) (i2 : Int32) (I : AI) (r : Unit × AI), f32_b26 kad N Z a0 i1 i2 I = some r → aGo kad d 32 (26, ([(0, .ref a0), (1, .int i1), (2, .int i2)], [])) (aMem Z I, t) (qV Z t r) := by
  intro a0 i1 i2 I r h
  unfold f32_b26 at h
  refine go_ops aMi32 4 _ (f1 := (30, ([(0, .ref a0), (1, .int i1), (2, .int i2)], [.int i2, .int (0 : Int32), .int i1, .ref a0]))) rfl ?_
  obtain ⟨u30_1, hxu30_1, h⟩ := Option.bind_eq_some_iff.mp h
  obtain ⟨r30_2, hxr30_2, h⟩ := Option.bind_eq_some_iff.mp h
  refine gg_cv (as := [.int i1, .int (0 : Int32), .int i2]) (r := []) aMi32 rfl rfl rfl aMi34 (Nat.le_of_ble_eq_true rfl) rfl (Nat.le_of_ble_eq_true rfl) (Nat.le_of_ble_eq_true rfl) (by omega) hxu30_1 (Tf34 (by omega) a0 i1 (0 : Int32) i2 I _ hxr30_2) ?_
  show aGo kad d 32 (33, ([(0, .ref a0), (1, .int i1), (2, .int i2)], [])) (aMem Z r30_2.2, t) _
  cases h
  exact go_ret aMi32 rfl rfl ⟨rfl, rfl⟩
def f32 (kad : Nat → Nat) (N : Nat) (Z : AZ) (a0 : Nat) (i1 : Int32) (i2 : Int32) (a3 : Nat) (I : AI) : Option (Unit × AI) :=
  (isK Z a3 3).bind fun u2_1 =>
  (f51 kad N Z a3 i2 I).bind fun r2_2 =>
  if ¬ r2_2.1 = i1 then
    if r2_2.1 < 0 then
      f32_b26 kad N Z a0 i1 i2 r2_2.2
    else
      (isK Z a0 1).bind fun u23_3 =>
      (f31 kad N Z a0 r2_2.1 a3 r2_2.2).bind fun r23_4 =>
      f32_b26 kad N Z a0 i1 i2 r23_4.2
  else
    some ((), r2_2.2)
set_option maxRecDepth 20000 in
theorem Tf32 {kad : Nat → Nat} {N : Nat} {Z : AZ} {d : Nat} {t : Option Nat × (Nat × Nat)} (hd : 3 ≤ d) : ∀ (a0 : Nat) (i1 : Int32) (i2 : Int32) (a3 : Nat) (I : AI) (r : Unit × AI), f32 kad N Z a0 i1 i2 a3 I = some r → aGo kad d 32 (0, ([(0, .ref a0), (1, .int i1), (2, .int i2), (3, .ref a3)], [])) (aMem Z I, t) (qV Z t r) := by
  intro a0 i1 i2 a3 I r h
  unfold f32 at h
  refine go_ops aMi32 2 _ (f1 := (2, ([(0, .ref a0), (1, .int i1), (2, .int i2), (3, .ref a3)], [.int i2, .ref a3]))) rfl ?_
  obtain ⟨u2_1, hxu2_1, h⟩ := Option.bind_eq_some_iff.mp h
  obtain ⟨r2_2, hxr2_2, h⟩ := Option.bind_eq_some_iff.mp h
  refine gg_cv (as := [.int i2]) (r := []) aMi32 rfl rfl rfl aMi51 (Nat.le_of_ble_eq_true rfl) rfl (Nat.le_of_ble_eq_true rfl) (Nat.le_of_ble_eq_true rfl) (by omega) hxu2_1 (Tf51 (by omega) a3 i2 I _ hxr2_2) ?_
  show aGo kad d 32 (5, ([(0, .ref a0), (1, .int i1), (2, .int i2), (3, .ref a3)], [.int r2_2.1])) (aMem Z r2_2.2, t) _
  refine go_ops aMi32 3 _ (f1 := (10, ([(4, .int r2_2.1), (0, .ref a0), (1, .int i1), (2, .int i2), (3, .ref a3)], [.int i1, .int r2_2.1]))) rfl ?_
  refine gg_br (b := decide (¬ r2_2.1 = i1)) (tg := 14) (off := 4) aMi32 rfl rfl rfl rfl (fun hb => ?_) (fun hb => ?_)
  · rw [if_pos (of_decide_eq_true hb)] at h
    refine go_ops aMi32 1 _ (f1 := (16, ([(4, .int r2_2.1), (0, .ref a0), (1, .int i1), (2, .int i2), (3, .ref a3)], [.int r2_2.1]))) rfl ?_
    refine gg_br (b := decide (r2_2.1 < 0)) (tg := 26) (off := 10) aMi32 rfl rfl rfl rfl (fun hb => ?_) (fun hb => ?_)
    · rw [if_pos (of_decide_eq_true hb)] at h
      refine go_le (lv1 := [(0, .ref a0), (1, .int i1), (2, .int i2)]) (aLe_of (show (List.map (fun q => q.1) ([(0, .ref a0), (1, .int i1), (2, .int i2)] : ALv)).Nodup from (by show ([0, 1, 2] : List Nat).Nodup; decide)) (aSubL_cons rfl (aSubL_cons rfl (aSubL_cons rfl aSubL_nil)))) ?_
      exact Tf32_b26 hd a0 i1 i2 r2_2.2 _ h
    · rw [if_neg (of_decide_eq_false hb)] at h
      refine go_ops aMi32 3 _ (f1 := (23, ([(4, .int r2_2.1), (0, .ref a0), (1, .int i1), (2, .int i2), (3, .ref a3)], [.ref a3, .int r2_2.1, .ref a0]))) rfl ?_
      obtain ⟨u23_3, hxu23_3, h⟩ := Option.bind_eq_some_iff.mp h
      obtain ⟨r23_4, hxr23_4, h⟩ := Option.bind_eq_some_iff.mp h
      refine gg_cv (as := [.int r2_2.1, .ref a3]) (r := []) aMi32 rfl rfl rfl aMi31 (Nat.le_of_ble_eq_true rfl) rfl (Nat.le_of_ble_eq_true rfl) (Nat.le_of_ble_eq_true rfl) (by omega) hxu23_3 (Tf31 (by omega) a0 r2_2.1 a3 r2_2.2 _ hxr23_4) ?_
      show aGo kad d 32 (26, ([(4, .int r2_2.1), (0, .ref a0), (1, .int i1), (2, .int i2), (3, .ref a3)], [])) (aMem Z r23_4.2, t) _
      refine go_le (lv1 := [(0, .ref a0), (1, .int i1), (2, .int i2)]) (aLe_of (show (List.map (fun q => q.1) ([(0, .ref a0), (1, .int i1), (2, .int i2)] : ALv)).Nodup from (by show ([0, 1, 2] : List Nat).Nodup; decide)) (aSubL_cons rfl (aSubL_cons rfl (aSubL_cons rfl aSubL_nil)))) ?_
      exact Tf32_b26 hd a0 i1 i2 r23_4.2 _ h
  · rw [if_neg (of_decide_eq_false hb)] at h
    cases h
    exact go_ret aMi32 rfl rfl ⟨rfl, rfl⟩
-- KernelGym$Clerk.carryOut (IILKernelGym$Core;LKernelGym$Disk;)V
def f29_b156 (kad : Nat → Nat) (N : Nat) (Z : AZ)  (I : AI) : Option (Unit × AI) :=
  some ((), I)
set_option maxRecDepth 20000 in
theorem Tf29_b156 {kad : Nat → Nat} {N : Nat} {Z : AZ} {d : Nat} {t : Option Nat × (Nat × Nat)} (hd : 4 ≤ d) : ∀  (I : AI) (r : Unit × AI), f29_b156 kad N Z  I = some r → aGo kad d 29 (156, ([], [])) (aMem Z I, t) (qV Z t r) := by
  intro  I r h
  unfold f29_b156 at h
  cases h
  exact go_ret aMi29 rfl rfl ⟨rfl, rfl⟩
def f29 (kad : Nat → Nat) (N : Nat) (Z : AZ) (a0 : Nat) (i1 : Int32) (i2 : Int32) (a3 : Nat) (a4 : Nat) (I : AI) : Option (Unit × AI) :=
  (gR Z I 2 14 a3).bind fun b1_1 =>
  if i1 = (0 : Int32) then
    (isK Z a4 3).bind fun u48_2 =>
    (f51 kad N Z a4 (0 : Int32) I).bind fun r48_3 =>
    (lI Z r48_3.2 100 b1_1 (0 : Int32)).bind fun x55_4 =>
    (isK Z a0 1).bind fun u56_5 =>
    (f34 kad N Z a0 r48_3.1 (0 : Int32) x55_4 r48_3.2).bind fun r56_6 =>
    f29_b156 kad N Z  r56_6.2
  else
  if i1 = (1 : Int32) then
    (lI Z I 100 b1_1 (1 : Int32)).bind fun x67_7 =>
    (isK Z a0 1).bind fun u70_8 =>
    (f30 kad N Z a0 i2 x67_7 a4 I).bind fun r70_9 =>
    f29_b156 kad N Z  r70_9.2
  else
  if i1 = (2 : Int32) then
    (lI Z I 100 b1_1 (1 : Int32)).bind fun x83_10 =>
    (isK Z a4 3).bind fun u84_11 =>
    (f53 kad N Z a4 i2 x83_10 I).bind fun r84_12 =>
    (lI Z r84_12.2 100 b1_1 (1 : Int32)).bind fun x90_13 =>
    (lI Z r84_12.2 100 b1_1 (2 : Int32)).bind fun x97_14 =>
    (isK Z a0 1).bind fun u98_15 =>
    (f35 kad N Z a0 r84_12.1 (x90_13 - x90_13 / (8 : Int32) * (8 : Int32)) x97_14 r84_12.2).bind fun r98_16 =>
    f29_b156 kad N Z  r98_16.2
  else
  if i1 = (3 : Int32) then
    (lI Z I 100 b1_1 (1 : Int32)).bind fun x113_17 =>
    (isK Z a4 3).bind fun u114_18 =>
    (f54 kad N Z a4 i2 x113_17 I).bind fun r114_19 =>
    (sI Z r114_19.2 100 b1_1 (2 : Int32) r114_19.1).bind fun I117_20 =>
    f29_b156 kad N Z  I117_20
  else
  if i1 = (4 : Int32) then
    (isK Z a4 3).bind fun u128_21 =>
    (f50 kad N Z a4 i2 (1 : Int32) I).bind fun r128_22 =>
    (sI Z r128_22.2 100 b1_1 (1 : Int32) r128_22.1).bind fun I131_23 =>
    f29_b156 kad N Z  I131_23
  else
  if i1 = (5 : Int32) then
    (isK Z a0 1).bind fun u139_24 =>
    (f31 kad N Z a0 i2 a4 I).bind fun r139_25 =>
    f29_b156 kad N Z  r139_25.2
  else
    (lI Z I 100 b1_1 (1 : Int32)).bind fun x150_26 =>
    (isK Z a0 1).bind fun u153_27 =>
    (f32 kad N Z a0 i2 x150_26 a4 I).bind fun r153_28 =>
    f29_b156 kad N Z  r153_28.2
set_option maxRecDepth 20000 in
theorem Tf29 {kad : Nat → Nat} {N : Nat} {Z : AZ} {d : Nat} {t : Option Nat × (Nat × Nat)} (hd : 4 ≤ d) : ∀ (a0 : Nat) (i1 : Int32) (i2 : Int32) (a3 : Nat) (a4 : Nat) (I : AI) (r : Unit × AI), f29 kad N Z a0 i1 i2 a3 a4 I = some r → aGo kad d 29 (0, ([(0, .ref a0), (1, .int i1), (2, .int i2), (3, .ref a3), (4, .ref a4)], [])) (aMem Z I, t) (qV Z t r) := by
  intro a0 i1 i2 a3 a4 I r h
  unfold f29 at h
  refine go_ops aMi29 1 _ (f1 := (1, ([(0, .ref a0), (1, .int i1), (2, .int i2), (3, .ref a3), (4, .ref a4)], [.ref a3]))) rfl ?_
  obtain ⟨b1_1, hxb1_1, h⟩ := Option.bind_eq_some_iff.mp h
  refine gg_gR aMi29 rfl rfl rfl hxb1_1 ?_
  refine go_ops aMi29 2 _ (f1 := (7, ([(5, .ref b1_1), (0, .ref a0), (1, .int i1), (2, .int i2), (3, .ref a3), (4, .ref a4)], [.int i1]))) rfl ?_
  by_cases hs0 : i1 = (0 : Int32)
  · rw [if_pos hs0] at h
    refine go_sw (f1 := (44, ([(5, .ref b1_1), (0, .ref a0), (1, .int i1), (2, .int i2), (3, .ref a3), (4, .ref a4)], []))) aMi29 rfl (by rw [hs0]; rfl) ?_
    refine go_ops aMi29 3 _ (f1 := (48, ([(5, .ref b1_1), (0, .ref a0), (1, .int i1), (2, .int i2), (3, .ref a3), (4, .ref a4)], [.int (0 : Int32), .ref a4, .ref a0]))) rfl ?_
    obtain ⟨u48_2, hxu48_2, h⟩ := Option.bind_eq_some_iff.mp h
    obtain ⟨r48_3, hxr48_3, h⟩ := Option.bind_eq_some_iff.mp h
    refine gg_cv (as := [.int (0 : Int32)]) (r := [.ref a0]) aMi29 rfl rfl rfl aMi51 (Nat.le_of_ble_eq_true rfl) rfl (Nat.le_of_ble_eq_true rfl) (Nat.le_of_ble_eq_true rfl) (by omega) hxu48_2 (Tf51 (by omega) a4 (0 : Int32) I _ hxr48_3) ?_
    show aGo kad d 29 (51, ([(5, .ref b1_1), (0, .ref a0), (1, .int i1), (2, .int i2), (3, .ref a3), (4, .ref a4)], [.int r48_3.1, .ref a0])) (aMem Z r48_3.2, t) _
    refine go_ops aMi29 3 _ (f1 := (55, ([(5, .ref b1_1), (0, .ref a0), (1, .int i1), (2, .int i2), (3, .ref a3), (4, .ref a4)], [.int (0 : Int32), .ref b1_1, .int (0 : Int32), .int r48_3.1, .ref a0]))) rfl ?_
    obtain ⟨x55_4, hxx55_4, h⟩ := Option.bind_eq_some_iff.mp h
    refine gg_lI (Or.inl ⟨rfl, rfl⟩) aMi29 rfl hxx55_4 ?_
    obtain ⟨u56_5, hxu56_5, h⟩ := Option.bind_eq_some_iff.mp h
    obtain ⟨r56_6, hxr56_6, h⟩ := Option.bind_eq_some_iff.mp h
    refine gg_cv (as := [.int r48_3.1, .int (0 : Int32), .int x55_4]) (r := []) aMi29 rfl rfl rfl aMi34 (Nat.le_of_ble_eq_true rfl) rfl (Nat.le_of_ble_eq_true rfl) (Nat.le_of_ble_eq_true rfl) (by omega) hxu56_5 (Tf34 (by omega) a0 r48_3.1 (0 : Int32) x55_4 r48_3.2 _ hxr56_6) ?_
    show aGo kad d 29 (59, ([(5, .ref b1_1), (0, .ref a0), (1, .int i1), (2, .int i2), (3, .ref a3), (4, .ref a4)], [])) (aMem Z r56_6.2, t) _
    refine go_ops aMi29 1 _ (f1 := (156, ([(5, .ref b1_1), (0, .ref a0), (1, .int i1), (2, .int i2), (3, .ref a3), (4, .ref a4)], []))) rfl ?_
    refine go_le (lv1 := []) (aLe_of (show (List.map (fun q => q.1) ([] : ALv)).Nodup from (by show ([] : List Nat).Nodup; decide)) aSubL_nil) ?_
    exact Tf29_b156 hd  r56_6.2 _ h
  rw [if_neg hs0] at h
  by_cases hs1 : i1 = (1 : Int32)
  · rw [if_pos hs1] at h
    refine go_sw (f1 := (62, ([(5, .ref b1_1), (0, .ref a0), (1, .int i1), (2, .int i2), (3, .ref a3), (4, .ref a4)], []))) aMi29 rfl (by rw [hs1]; rfl) ?_
    refine go_ops aMi29 4 _ (f1 := (67, ([(5, .ref b1_1), (0, .ref a0), (1, .int i1), (2, .int i2), (3, .ref a3), (4, .ref a4)], [.int (1 : Int32), .ref b1_1, .int i2, .ref a0]))) rfl ?_
    obtain ⟨x67_7, hxx67_7, h⟩ := Option.bind_eq_some_iff.mp h
    refine gg_lI (Or.inl ⟨rfl, rfl⟩) aMi29 rfl hxx67_7 ?_
    refine go_ops aMi29 1 _ (f1 := (70, ([(5, .ref b1_1), (0, .ref a0), (1, .int i1), (2, .int i2), (3, .ref a3), (4, .ref a4)], [.ref a4, .int x67_7, .int i2, .ref a0]))) rfl ?_
    obtain ⟨u70_8, hxu70_8, h⟩ := Option.bind_eq_some_iff.mp h
    obtain ⟨r70_9, hxr70_9, h⟩ := Option.bind_eq_some_iff.mp h
    refine gg_cv (as := [.int i2, .int x67_7, .ref a4]) (r := []) aMi29 rfl rfl rfl aMi30 (Nat.le_of_ble_eq_true rfl) rfl (Nat.le_of_ble_eq_true rfl) (Nat.le_of_ble_eq_true rfl) (by omega) hxu70_8 (Tf30 (by omega) a0 i2 x67_7 a4 I _ hxr70_9) ?_
    show aGo kad d 29 (73, ([(5, .ref b1_1), (0, .ref a0), (1, .int i1), (2, .int i2), (3, .ref a3), (4, .ref a4)], [])) (aMem Z r70_9.2, t) _
    refine go_ops aMi29 1 _ (f1 := (156, ([(5, .ref b1_1), (0, .ref a0), (1, .int i1), (2, .int i2), (3, .ref a3), (4, .ref a4)], []))) rfl ?_
    refine go_le (lv1 := []) (aLe_of (show (List.map (fun q => q.1) ([] : ALv)).Nodup from (by show ([] : List Nat).Nodup; decide)) aSubL_nil) ?_
    exact Tf29_b156 hd  r70_9.2 _ h
  rw [if_neg hs1] at h
  by_cases hs2 : i1 = (2 : Int32)
  · rw [if_pos hs2] at h
    refine go_sw (f1 := (76, ([(5, .ref b1_1), (0, .ref a0), (1, .int i1), (2, .int i2), (3, .ref a3), (4, .ref a4)], []))) aMi29 rfl (by rw [hs2]; rfl) ?_
    refine go_ops aMi29 5 _ (f1 := (83, ([(5, .ref b1_1), (0, .ref a0), (1, .int i1), (2, .int i2), (3, .ref a3), (4, .ref a4)], [.int (1 : Int32), .ref b1_1, .int i2, .ref a4, .ref a0]))) rfl ?_
    obtain ⟨x83_10, hxx83_10, h⟩ := Option.bind_eq_some_iff.mp h
    refine gg_lI (Or.inl ⟨rfl, rfl⟩) aMi29 rfl hxx83_10 ?_
    obtain ⟨u84_11, hxu84_11, h⟩ := Option.bind_eq_some_iff.mp h
    obtain ⟨r84_12, hxr84_12, h⟩ := Option.bind_eq_some_iff.mp h
    refine gg_cv (as := [.int i2, .int x83_10]) (r := [.ref a0]) aMi29 rfl rfl rfl aMi53 (Nat.le_of_ble_eq_true rfl) rfl (Nat.le_of_ble_eq_true rfl) (Nat.le_of_ble_eq_true rfl) (by omega) hxu84_11 (Tf53 (by omega) a4 i2 x83_10 I _ hxr84_12) ?_
    show aGo kad d 29 (87, ([(5, .ref b1_1), (0, .ref a0), (1, .int i1), (2, .int i2), (3, .ref a3), (4, .ref a4)], [.int r84_12.1, .ref a0])) (aMem Z r84_12.2, t) _
    refine go_ops aMi29 2 _ (f1 := (90, ([(5, .ref b1_1), (0, .ref a0), (1, .int i1), (2, .int i2), (3, .ref a3), (4, .ref a4)], [.int (1 : Int32), .ref b1_1, .int r84_12.1, .ref a0]))) rfl ?_
    obtain ⟨x90_13, hxx90_13, h⟩ := Option.bind_eq_some_iff.mp h
    refine gg_lI (Or.inl ⟨rfl, rfl⟩) aMi29 rfl hxx90_13 ?_
    refine go_ops aMi29 4 _ (f1 := (97, ([(5, .ref b1_1), (0, .ref a0), (1, .int i1), (2, .int i2), (3, .ref a3), (4, .ref a4)], [.int (2 : Int32), .ref b1_1, .int (x90_13 - x90_13 / (8 : Int32) * (8 : Int32)), .int r84_12.1, .ref a0]))) rfl ?_
    obtain ⟨x97_14, hxx97_14, h⟩ := Option.bind_eq_some_iff.mp h
    refine gg_lI (Or.inl ⟨rfl, rfl⟩) aMi29 rfl hxx97_14 ?_
    obtain ⟨u98_15, hxu98_15, h⟩ := Option.bind_eq_some_iff.mp h
    obtain ⟨r98_16, hxr98_16, h⟩ := Option.bind_eq_some_iff.mp h
    refine gg_cv (as := [.int r84_12.1, .int (x90_13 - x90_13 / (8 : Int32) * (8 : Int32)), .int x97_14]) (r := []) aMi29 rfl rfl rfl aMi35 (Nat.le_of_ble_eq_true rfl) rfl (Nat.le_of_ble_eq_true rfl) (Nat.le_of_ble_eq_true rfl) (by omega) hxu98_15 (Tf35 (by omega) a0 r84_12.1 (x90_13 - x90_13 / (8 : Int32) * (8 : Int32)) x97_14 r84_12.2 _ hxr98_16) ?_
    show aGo kad d 29 (101, ([(5, .ref b1_1), (0, .ref a0), (1, .int i1), (2, .int i2), (3, .ref a3), (4, .ref a4)], [])) (aMem Z r98_16.2, t) _
    refine go_ops aMi29 1 _ (f1 := (156, ([(5, .ref b1_1), (0, .ref a0), (1, .int i1), (2, .int i2), (3, .ref a3), (4, .ref a4)], []))) rfl ?_
    refine go_le (lv1 := []) (aLe_of (show (List.map (fun q => q.1) ([] : ALv)).Nodup from (by show ([] : List Nat).Nodup; decide)) aSubL_nil) ?_
    exact Tf29_b156 hd  r98_16.2 _ h
  rw [if_neg hs2] at h
  by_cases hs3 : i1 = (3 : Int32)
  · rw [if_pos hs3] at h
    refine go_sw (f1 := (104, ([(5, .ref b1_1), (0, .ref a0), (1, .int i1), (2, .int i2), (3, .ref a3), (4, .ref a4)], []))) aMi29 rfl (by rw [hs3]; rfl) ?_
    refine go_ops aMi29 6 _ (f1 := (113, ([(5, .ref b1_1), (0, .ref a0), (1, .int i1), (2, .int i2), (3, .ref a3), (4, .ref a4)], [.int (1 : Int32), .ref b1_1, .int i2, .ref a4, .int (2 : Int32), .ref b1_1]))) rfl ?_
    obtain ⟨x113_17, hxx113_17, h⟩ := Option.bind_eq_some_iff.mp h
    refine gg_lI (Or.inl ⟨rfl, rfl⟩) aMi29 rfl hxx113_17 ?_
    obtain ⟨u114_18, hxu114_18, h⟩ := Option.bind_eq_some_iff.mp h
    obtain ⟨r114_19, hxr114_19, h⟩ := Option.bind_eq_some_iff.mp h
    refine gg_cv (as := [.int i2, .int x113_17]) (r := [.int (2 : Int32), .ref b1_1]) aMi29 rfl rfl rfl aMi54 (Nat.le_of_ble_eq_true rfl) rfl (Nat.le_of_ble_eq_true rfl) (Nat.le_of_ble_eq_true rfl) (by omega) hxu114_18 (Tf54 (by omega) a4 i2 x113_17 I _ hxr114_19) ?_
    show aGo kad d 29 (117, ([(5, .ref b1_1), (0, .ref a0), (1, .int i1), (2, .int i2), (3, .ref a3), (4, .ref a4)], [.int r114_19.1, .int (2 : Int32), .ref b1_1])) (aMem Z r114_19.2, t) _
    obtain ⟨I117_20, hxI117_20, h⟩ := Option.bind_eq_some_iff.mp h
    refine gg_sI (Or.inl ⟨rfl, rfl⟩) aMi29 rfl hxI117_20 ?_
    refine go_ops aMi29 1 _ (f1 := (156, ([(5, .ref b1_1), (0, .ref a0), (1, .int i1), (2, .int i2), (3, .ref a3), (4, .ref a4)], []))) rfl ?_
    refine go_le (lv1 := []) (aLe_of (show (List.map (fun q => q.1) ([] : ALv)).Nodup from (by show ([] : List Nat).Nodup; decide)) aSubL_nil) ?_
    exact Tf29_b156 hd  I117_20 _ h
  rw [if_neg hs3] at h
  by_cases hs4 : i1 = (4 : Int32)
  · rw [if_pos hs4] at h
    refine go_sw (f1 := (121, ([(5, .ref b1_1), (0, .ref a0), (1, .int i1), (2, .int i2), (3, .ref a3), (4, .ref a4)], []))) aMi29 rfl (by rw [hs4]; rfl) ?_
    refine go_ops aMi29 5 _ (f1 := (128, ([(5, .ref b1_1), (0, .ref a0), (1, .int i1), (2, .int i2), (3, .ref a3), (4, .ref a4)], [.int (1 : Int32), .int i2, .ref a4, .int (1 : Int32), .ref b1_1]))) rfl ?_
    obtain ⟨u128_21, hxu128_21, h⟩ := Option.bind_eq_some_iff.mp h
    obtain ⟨r128_22, hxr128_22, h⟩ := Option.bind_eq_some_iff.mp h
    refine gg_cv (as := [.int i2, .int (1 : Int32)]) (r := [.int (1 : Int32), .ref b1_1]) aMi29 rfl rfl rfl aMi50 (Nat.le_of_ble_eq_true rfl) rfl (Nat.le_of_ble_eq_true rfl) (Nat.le_of_ble_eq_true rfl) (by omega) hxu128_21 (Tf50 (by omega) a4 i2 (1 : Int32) I _ hxr128_22) ?_
    show aGo kad d 29 (131, ([(5, .ref b1_1), (0, .ref a0), (1, .int i1), (2, .int i2), (3, .ref a3), (4, .ref a4)], [.int r128_22.1, .int (1 : Int32), .ref b1_1])) (aMem Z r128_22.2, t) _
    obtain ⟨I131_23, hxI131_23, h⟩ := Option.bind_eq_some_iff.mp h
    refine gg_sI (Or.inl ⟨rfl, rfl⟩) aMi29 rfl hxI131_23 ?_
    refine go_ops aMi29 1 _ (f1 := (156, ([(5, .ref b1_1), (0, .ref a0), (1, .int i1), (2, .int i2), (3, .ref a3), (4, .ref a4)], []))) rfl ?_
    refine go_le (lv1 := []) (aLe_of (show (List.map (fun q => q.1) ([] : ALv)).Nodup from (by show ([] : List Nat).Nodup; decide)) aSubL_nil) ?_
    exact Tf29_b156 hd  I131_23 _ h
  rw [if_neg hs4] at h
  by_cases hs5 : i1 = (5 : Int32)
  · rw [if_pos hs5] at h
    refine go_sw (f1 := (135, ([(5, .ref b1_1), (0, .ref a0), (1, .int i1), (2, .int i2), (3, .ref a3), (4, .ref a4)], []))) aMi29 rfl (by rw [hs5]; rfl) ?_
    refine go_ops aMi29 3 _ (f1 := (139, ([(5, .ref b1_1), (0, .ref a0), (1, .int i1), (2, .int i2), (3, .ref a3), (4, .ref a4)], [.ref a4, .int i2, .ref a0]))) rfl ?_
    obtain ⟨u139_24, hxu139_24, h⟩ := Option.bind_eq_some_iff.mp h
    obtain ⟨r139_25, hxr139_25, h⟩ := Option.bind_eq_some_iff.mp h
    refine gg_cv (as := [.int i2, .ref a4]) (r := []) aMi29 rfl rfl rfl aMi31 (Nat.le_of_ble_eq_true rfl) rfl (Nat.le_of_ble_eq_true rfl) (Nat.le_of_ble_eq_true rfl) (by omega) hxu139_24 (Tf31 (by omega) a0 i2 a4 I _ hxr139_25) ?_
    show aGo kad d 29 (142, ([(5, .ref b1_1), (0, .ref a0), (1, .int i1), (2, .int i2), (3, .ref a3), (4, .ref a4)], [])) (aMem Z r139_25.2, t) _
    refine go_ops aMi29 1 _ (f1 := (156, ([(5, .ref b1_1), (0, .ref a0), (1, .int i1), (2, .int i2), (3, .ref a3), (4, .ref a4)], []))) rfl ?_
    refine go_le (lv1 := []) (aLe_of (show (List.map (fun q => q.1) ([] : ALv)).Nodup from (by show ([] : List Nat).Nodup; decide)) aSubL_nil) ?_
    exact Tf29_b156 hd  r139_25.2 _ h
  rw [if_neg hs5] at h
  refine go_swd (tg := 145) (m := 6) aMi29 rfl rfl (by decide) (fun k hk => ?_) ?_
  · match k, hk with
    | 0, _ => exact hs0
    | 1, _ => exact hs1
    | 2, _ => exact hs2
    | 3, _ => exact hs3
    | 4, _ => exact hs4
    | 5, _ => exact hs5
    | k + 6, hk => exact absurd hk (by omega)
  refine go_ops aMi29 4 _ (f1 := (150, ([(5, .ref b1_1), (0, .ref a0), (1, .int i1), (2, .int i2), (3, .ref a3), (4, .ref a4)], [.int (1 : Int32), .ref b1_1, .int i2, .ref a0]))) rfl ?_
  obtain ⟨x150_26, hxx150_26, h⟩ := Option.bind_eq_some_iff.mp h
  refine gg_lI (Or.inl ⟨rfl, rfl⟩) aMi29 rfl hxx150_26 ?_
  refine go_ops aMi29 1 _ (f1 := (153, ([(5, .ref b1_1), (0, .ref a0), (1, .int i1), (2, .int i2), (3, .ref a3), (4, .ref a4)], [.ref a4, .int x150_26, .int i2, .ref a0]))) rfl ?_
  obtain ⟨u153_27, hxu153_27, h⟩ := Option.bind_eq_some_iff.mp h
  obtain ⟨r153_28, hxr153_28, h⟩ := Option.bind_eq_some_iff.mp h
  refine gg_cv (as := [.int i2, .int x150_26, .ref a4]) (r := []) aMi29 rfl rfl rfl aMi32 (Nat.le_of_ble_eq_true rfl) rfl (Nat.le_of_ble_eq_true rfl) (Nat.le_of_ble_eq_true rfl) (by omega) hxu153_27 (Tf32 (by omega) a0 i2 x150_26 a4 I _ hxr153_28) ?_
  show aGo kad d 29 (156, ([(5, .ref b1_1), (0, .ref a0), (1, .int i1), (2, .int i2), (3, .ref a3), (4, .ref a4)], [])) (aMem Z r153_28.2, t) _
  refine go_le (lv1 := []) (aLe_of (show (List.map (fun q => q.1) ([] : ALv)).Nodup from (by show ([] : List Nat).Nodup; decide)) aSubL_nil) ?_
  exact Tf29_b156 hd  r153_28.2 _ h
-- KernelGym$FileCall.addBlock (I[II)V
def f64_b59 (kad : Nat → Nat) (N : Nat) (Z : AZ)  (I : AI) : Option (Unit × AI) :=
  some ((), I)
set_option maxRecDepth 20000 in
theorem Tf64_b59 {kad : Nat → Nat} {N : Nat} {Z : AZ} {d : Nat} {t : Option Nat × (Nat × Nat)} (hd : 0 ≤ d) : ∀  (I : AI) (r : Unit × AI), f64_b59 kad N Z  I = some r → aGo kad d 64 (59, ([], [])) (aMem Z I, t) (qV Z t r) := by
  intro  I r h
  unfold f64_b59 at h
  cases h
  exact go_ret aMi64 rfl rfl ⟨rfl, rfl⟩
def f64 (kad : Nat → Nat) (N : Nat) (Z : AZ) (a0 : Nat) (i1 : Int32) (a2 : Nat) (i3 : Int32) (I : AI) : Option (Unit × AI) :=
  (gI Z I 4 0 a0).bind fun x1_1 =>
  if (3 : Int32) ≤ x1_1 then
    f64_b59 kad N Z  I
  else
    if i3 < 0 then
      f64_b59 kad N Z  I
    else
      (nL Z a2).bind fun x17_2 =>
      if x17_2 < (i3 + (8 : Int32)) then
        f64_b59 kad N Z  I
      else
        (gR Z I 4 2 a0).bind fun b22_3 =>
        (gI Z I 4 0 a0).bind fun x26_4 =>
        (sI Z I 100 b22_3 x26_4 i1).bind fun I30_5 =>
        (gR Z I30_5 4 3 a0).bind fun b34_6 =>
        (gI Z I30_5 4 0 a0).bind fun x38_7 =>
        (cI Z I30_5 a2 i3 b34_6 (x38_7 * (8 : Int32)) (8 : Int32)).bind fun I46_8 =>
        (gI Z I46_8 4 0 a0).bind fun x51_9 =>
        (pI Z I46_8 4 0 a0 (x51_9 + (1 : Int32))).bind fun I56_10 =>
        f64_b59 kad N Z  I56_10
set_option maxRecDepth 20000 in
theorem Tf64 {kad : Nat → Nat} {N : Nat} {Z : AZ} {d : Nat} {t : Option Nat × (Nat × Nat)} (hd : 0 ≤ d) : ∀ (a0 : Nat) (i1 : Int32) (a2 : Nat) (i3 : Int32) (I : AI) (r : Unit × AI), f64 kad N Z a0 i1 a2 i3 I = some r → aGo kad d 64 (0, ([(0, .ref a0), (1, .int i1), (2, .ref a2), (3, .int i3)], [])) (aMem Z I, t) (qV Z t r) := by
  intro a0 i1 a2 i3 I r h
  unfold f64 at h
  refine go_ops aMi64 1 _ (f1 := (1, ([(0, .ref a0), (1, .int i1), (2, .ref a2), (3, .int i3)], [.ref a0]))) rfl ?_
  obtain ⟨x1_1, hxx1_1, h⟩ := Option.bind_eq_some_iff.mp h
  refine gg_gI aMi64 rfl rfl rfl hxx1_1 ?_
  refine go_ops aMi64 1 _ (f1 := (5, ([(0, .ref a0), (1, .int i1), (2, .ref a2), (3, .int i3)], [.int (3 : Int32), .int x1_1]))) rfl ?_
  refine gg_br (b := decide ((3 : Int32) ≤ x1_1)) (tg := 59) (off := 54) aMi64 rfl rfl rfl rfl (fun hb => ?_) (fun hb => ?_)
  · rw [if_pos (of_decide_eq_true hb)] at h
    refine go_le (lv1 := []) (aLe_of (show (List.map (fun q => q.1) ([] : ALv)).Nodup from (by show ([] : List Nat).Nodup; decide)) aSubL_nil) ?_
    exact Tf64_b59 hd  I _ h
  · rw [if_neg (of_decide_eq_false hb)] at h
    refine go_ops aMi64 1 _ (f1 := (9, ([(0, .ref a0), (1, .int i1), (2, .ref a2), (3, .int i3)], [.int i3]))) rfl ?_
    refine gg_br (b := decide (i3 < 0)) (tg := 59) (off := 50) aMi64 rfl rfl rfl rfl (fun hb => ?_) (fun hb => ?_)
    · rw [if_pos (of_decide_eq_true hb)] at h
      refine go_le (lv1 := []) (aLe_of (show (List.map (fun q => q.1) ([] : ALv)).Nodup from (by show ([] : List Nat).Nodup; decide)) aSubL_nil) ?_
      exact Tf64_b59 hd  I _ h
    · rw [if_neg (of_decide_eq_false hb)] at h
      refine go_ops aMi64 4 _ (f1 := (17, ([(0, .ref a0), (1, .int i1), (2, .ref a2), (3, .int i3)], [.ref a2, .int (i3 + (8 : Int32))]))) rfl ?_
      obtain ⟨x17_2, hxx17_2, h⟩ := Option.bind_eq_some_iff.mp h
      refine gg_len aMi64 rfl hxx17_2 ?_
      refine gg_br (b := decide (x17_2 < (i3 + (8 : Int32)))) (tg := 59) (off := 41) aMi64 rfl rfl rfl rfl (fun hb => ?_) (fun hb => ?_)
      · rw [if_pos (of_decide_eq_true hb)] at h
        refine go_le (lv1 := []) (aLe_of (show (List.map (fun q => q.1) ([] : ALv)).Nodup from (by show ([] : List Nat).Nodup; decide)) aSubL_nil) ?_
        exact Tf64_b59 hd  I _ h
      · rw [if_neg (of_decide_eq_false hb)] at h
        refine go_ops aMi64 1 _ (f1 := (22, ([(0, .ref a0), (1, .int i1), (2, .ref a2), (3, .int i3)], [.ref a0]))) rfl ?_
        obtain ⟨b22_3, hxb22_3, h⟩ := Option.bind_eq_some_iff.mp h
        refine gg_gR aMi64 rfl rfl rfl hxb22_3 ?_
        refine go_ops aMi64 1 _ (f1 := (26, ([(0, .ref a0), (1, .int i1), (2, .ref a2), (3, .int i3)], [.ref a0, .ref b22_3]))) rfl ?_
        obtain ⟨x26_4, hxx26_4, h⟩ := Option.bind_eq_some_iff.mp h
        refine gg_gI aMi64 rfl rfl rfl hxx26_4 ?_
        refine go_ops aMi64 1 _ (f1 := (30, ([(0, .ref a0), (1, .int i1), (2, .ref a2), (3, .int i3)], [.int i1, .int x26_4, .ref b22_3]))) rfl ?_
        obtain ⟨I30_5, hxI30_5, h⟩ := Option.bind_eq_some_iff.mp h
        refine gg_sI (Or.inl ⟨rfl, rfl⟩) aMi64 rfl hxI30_5 ?_
        refine go_ops aMi64 3 _ (f1 := (34, ([(0, .ref a0), (1, .int i1), (2, .ref a2), (3, .int i3)], [.ref a0, .int i3, .ref a2]))) rfl ?_
        obtain ⟨b34_6, hxb34_6, h⟩ := Option.bind_eq_some_iff.mp h
        refine gg_gR aMi64 rfl rfl rfl hxb34_6 ?_
        refine go_ops aMi64 1 _ (f1 := (38, ([(0, .ref a0), (1, .int i1), (2, .ref a2), (3, .int i3)], [.ref a0, .ref b34_6, .int i3, .ref a2]))) rfl ?_
        obtain ⟨x38_7, hxx38_7, h⟩ := Option.bind_eq_some_iff.mp h
        refine gg_gI aMi64 rfl rfl rfl hxx38_7 ?_
        refine go_ops aMi64 3 _ (f1 := (46, ([(0, .ref a0), (1, .int i1), (2, .ref a2), (3, .int i3)], [.int (8 : Int32), .int (x38_7 * (8 : Int32)), .ref b34_6, .int i3, .ref a2]))) rfl ?_
        obtain ⟨I46_8, hxI46_8, h⟩ := Option.bind_eq_some_iff.mp h
        refine gg_cp aMi64 rfl rfl (Nat.le_of_ble_eq_true rfl) hxI46_8 ?_
        refine go_ops aMi64 2 _ (f1 := (51, ([(0, .ref a0), (1, .int i1), (2, .ref a2), (3, .int i3)], [.ref a0, .ref a0]))) rfl ?_
        obtain ⟨x51_9, hxx51_9, h⟩ := Option.bind_eq_some_iff.mp h
        refine gg_gI aMi64 rfl rfl rfl hxx51_9 ?_
        refine go_ops aMi64 2 _ (f1 := (56, ([(0, .ref a0), (1, .int i1), (2, .ref a2), (3, .int i3)], [.int (x51_9 + (1 : Int32)), .ref a0]))) rfl ?_
        obtain ⟨I56_10, hxI56_10, h⟩ := Option.bind_eq_some_iff.mp h
        refine gg_pI aMi64 rfl rfl rfl rfl (by decide) hxI56_10 ?_
        refine go_le (lv1 := []) (aLe_of (show (List.map (fun q => q.1) ([] : ALv)).Nodup from (by show ([] : List Nat).Nodup; decide)) aSubL_nil) ?_
        exact Tf64_b59 hd  I56_10 _ h
-- KernelGym$Clerk.find (ILKernelGym$Core;LKernelGym$Disk;)I
def f26_b10 (kad : Nat → Nat) (N : Nat) (Z : AZ)  (I : AI) : Option (Int32 × AI) :=
  some ((9 : Int32), I)
set_option maxRecDepth 20000 in
theorem Tf26_b10 {kad : Nat → Nat} {N : Nat} {Z : AZ} {d : Nat} {t : Option Nat × (Nat × Nat)} (hd : 5 ≤ d) : ∀  (I : AI) (r : Int32 × AI), f26_b10 kad N Z  I = some r → aGo kad d 26 (10, ([], [])) (aMem Z I, t) (qI Z t r) := by
  intro  I r h
  unfold f26_b10 at h
  refine go_ops aMi26 1 _ (f1 := (12, ([], [.int (9 : Int32)]))) rfl ?_
  cases h
  exact go_ret aMi26 rfl aRetI ⟨rfl, rfl⟩
def f26_b143 (kad : Nat → Nat) (N : Nat) (Z : AZ) (k108 : Nat → Nat → Int32 → AI → Option (Int32 × AI)) (a0 : Nat) (a2 : Nat) (i6 : Int32) (I : AI) : Option (Int32 × AI) :=
  k108 a0 a2 (i6 + (1 : Int32)) I
set_option maxRecDepth 20000 in
theorem Tf26_b143 {kad : Nat → Nat} {N : Nat} {Z : AZ} {d : Nat} {t : Option Nat × (Nat × Nat)} (hd : 5 ≤ d) (k108 : Nat → Nat → Int32 → AI → Option (Int32 × AI))  (hk108 : ∀ (a0 : Nat) (a2 : Nat) (i6 : Int32)  (I : AI) (r : Int32 × AI), k108 a0 a2 i6 I = some r → aGo kad d 26 (108, ([(0, .ref a0), (2, .ref a2), (6, .int i6)], [])) (aMem Z I, t) (qI Z t r)) : ∀ (a0 : Nat) (a2 : Nat) (i6 : Int32) (I : AI) (r : Int32 × AI), f26_b143 kad N Z k108 a0 a2 i6 I = some r → aGo kad d 26 (143, ([(0, .ref a0), (2, .ref a2), (6, .int i6)], [])) (aMem Z I, t) (qI Z t r) := by
  intro a0 a2 i6 I r h
  unfold f26_b143 at h
  refine go_ops aMi26 2 _ (f1 := (108, ([(6, .int (i6 + (1 : Int32))), (0, .ref a0), (2, .ref a2)], []))) rfl ?_
  refine go_le (lv1 := [(0, .ref a0), (2, .ref a2), (6, .int (i6 + (1 : Int32)))]) (aLe_of (show (List.map (fun q => q.1) ([(0, .ref a0), (2, .ref a2), (6, .int (i6 + (1 : Int32)))] : ALv)).Nodup from (by show ([0, 2, 6] : List Nat).Nodup; decide)) (aSubL_cons rfl (aSubL_cons rfl (aSubL_cons rfl aSubL_nil)))) ?_
  exact hk108 a0 a2 (i6 + (1 : Int32)) I _ h
def f26_b108 (kad : Nat → Nat) (N : Nat) (Z : AZ) : Nat → Nat → Nat → Int32 → AI → Option (Int32 × AI)
  | 0, _, _, _, _ => none
  | F + 1, a0, a2, i6, I =>
    if (32 : Int32) ≤ i6 then
      some ((0 : Int32), I)
    else
      (gR Z I 1 1 a0).bind fun b116_1 =>
      (lI Z I 101 b116_1 i6).bind fun x121_2 =>
      if x121_2 = 0 then
        f26_b143 kad N Z (fun p0 p1 p2 I => f26_b108 kad N Z F p0 p1 p2 I) a0 a2 i6 I
      else
        (gR Z I 2 15 a2).bind fun b126_3 =>
        (gR Z I 1 0 a0).bind fun b132_4 =>
        (isK Z b126_3 4).bind fun u140_5 =>
        (f64 kad N Z b126_3 i6 b132_4 (i6 * (8 : Int32)) I).bind fun r140_6 =>
        f26_b143 kad N Z (fun p0 p1 p2 I => f26_b108 kad N Z F p0 p1 p2 I) a0 a2 i6 r140_6.2
set_option maxRecDepth 20000 in
theorem Tf26_b108 {kad : Nat → Nat} {N : Nat} {Z : AZ} {d : Nat} {t : Option Nat × (Nat × Nat)} (hd : 5 ≤ d) : ∀ (F : Nat) (a0 : Nat) (a2 : Nat) (i6 : Int32) (I : AI) (r : Int32 × AI), f26_b108 kad N Z F a0 a2 i6 I = some r → aGo kad d 26 (108, ([(0, .ref a0), (2, .ref a2), (6, .int i6)], [])) (aMem Z I, t) (qI Z t r) := by
  intro F
  induction F with
  | zero => intro a0 a2 i6 I r h; cases h
  | succ F ih =>
    intro a0 a2 i6 I r h
    unfold f26_b108 at h
    refine go_ops aMi26 2 _ (f1 := (112, ([(0, .ref a0), (2, .ref a2), (6, .int i6)], [.int (32 : Int32), .int i6]))) rfl ?_
    refine gg_br (b := decide ((32 : Int32) ≤ i6)) (tg := 149) (off := 37) aMi26 rfl rfl rfl rfl (fun hb => ?_) (fun hb => ?_)
    · rw [if_pos (of_decide_eq_true hb)] at h
      refine go_ops aMi26 1 _ (f1 := (150, ([(0, .ref a0), (2, .ref a2), (6, .int i6)], [.int (0 : Int32)]))) rfl ?_
      cases h
      exact go_ret aMi26 rfl aRetI ⟨rfl, rfl⟩
    · rw [if_neg (of_decide_eq_false hb)] at h
      refine go_ops aMi26 1 _ (f1 := (116, ([(0, .ref a0), (2, .ref a2), (6, .int i6)], [.ref a0]))) rfl ?_
      obtain ⟨b116_1, hxb116_1, h⟩ := Option.bind_eq_some_iff.mp h
      refine gg_gR aMi26 rfl rfl rfl hxb116_1 ?_
      refine go_ops aMi26 1 _ (f1 := (121, ([(0, .ref a0), (2, .ref a2), (6, .int i6)], [.int i6, .ref b116_1]))) rfl ?_
      obtain ⟨x121_2, hxx121_2, h⟩ := Option.bind_eq_some_iff.mp h
      refine gg_lI (Or.inr ⟨rfl, rfl⟩) aMi26 rfl hxx121_2 ?_
      refine gg_br (b := decide (x121_2 = 0)) (tg := 143) (off := 21) aMi26 rfl rfl rfl rfl (fun hb => ?_) (fun hb => ?_)
      · rw [if_pos (of_decide_eq_true hb)] at h
        exact Tf26_b143 hd (fun p0 p1 p2 I => f26_b108 kad N Z F p0 p1 p2 I) (fun p0 p1 p2 I r hh => ih p0 p1 p2 I r hh) a0 a2 i6 I _ h
      · rw [if_neg (of_decide_eq_false hb)] at h
        refine go_ops aMi26 1 _ (f1 := (126, ([(0, .ref a0), (2, .ref a2), (6, .int i6)], [.ref a2]))) rfl ?_
        obtain ⟨b126_3, hxb126_3, h⟩ := Option.bind_eq_some_iff.mp h
        refine gg_gR aMi26 rfl rfl rfl hxb126_3 ?_
        refine go_ops aMi26 2 _ (f1 := (132, ([(0, .ref a0), (2, .ref a2), (6, .int i6)], [.ref a0, .int i6, .ref b126_3]))) rfl ?_
        obtain ⟨b132_4, hxb132_4, h⟩ := Option.bind_eq_some_iff.mp h
        refine gg_gR aMi26 rfl rfl rfl hxb132_4 ?_
        refine go_ops aMi26 3 _ (f1 := (140, ([(0, .ref a0), (2, .ref a2), (6, .int i6)], [.int (i6 * (8 : Int32)), .ref b132_4, .int i6, .ref b126_3]))) rfl ?_
        obtain ⟨u140_5, hxu140_5, h⟩ := Option.bind_eq_some_iff.mp h
        obtain ⟨r140_6, hxr140_6, h⟩ := Option.bind_eq_some_iff.mp h
        refine gg_cv (as := [.int i6, .ref b132_4, .int (i6 * (8 : Int32))]) (r := []) aMi26 rfl rfl rfl aMi64 (Nat.le_of_ble_eq_true rfl) rfl (Nat.le_of_ble_eq_true rfl) (Nat.le_of_ble_eq_true rfl) (by omega) hxu140_5 (Tf64 (by omega) b126_3 i6 b132_4 (i6 * (8 : Int32)) I _ hxr140_6) ?_
        show aGo kad d 26 (143, ([(0, .ref a0), (2, .ref a2), (6, .int i6)], [])) (aMem Z r140_6.2, t) _
        exact Tf26_b143 hd (fun p0 p1 p2 I => f26_b108 kad N Z F p0 p1 p2 I) (fun p0 p1 p2 I r hh => ih p0 p1 p2 I r hh) a0 a2 i6 r140_6.2 _ h
def f26_b75 (kad : Nat → Nat) (N : Nat) (Z : AZ) : Nat → Nat → Int32 → Nat → Nat → Int32 → Int32 → AI → Option (Int32 × AI)
  | 0, _, _, _, _, _, _, _ => none
  | F + 1, a0, i1, a2, a3, i4, i6, I =>
    if (32 : Int32) ≤ i6 then
      (isK Z a0 1).bind fun u102_1 =>
      (f29 kad N Z a0 i1 i4 a2 a3 I).bind fun r102_2 =>
      f26_b108 kad N Z N a0 a2 (0 : Int32) r102_2.2
    else
      (gR Z I 1 1 a0).bind fun b83_3 =>
      (sI Z I 101 b83_3 i6 (0 : Int32)).bind fun I89_4 =>
      f26_b75 kad N Z F a0 i1 a2 a3 i4 (i6 + (1 : Int32)) I89_4
set_option maxRecDepth 20000 in
theorem Tf26_b75 {kad : Nat → Nat} {N : Nat} {Z : AZ} {d : Nat} {t : Option Nat × (Nat × Nat)} (hd : 5 ≤ d) : ∀ (F : Nat) (a0 : Nat) (i1 : Int32) (a2 : Nat) (a3 : Nat) (i4 : Int32) (i6 : Int32) (I : AI) (r : Int32 × AI), f26_b75 kad N Z F a0 i1 a2 a3 i4 i6 I = some r → aGo kad d 26 (75, ([(0, .ref a0), (1, .int i1), (2, .ref a2), (3, .ref a3), (4, .int i4), (6, .int i6)], [])) (aMem Z I, t) (qI Z t r) := by
  intro F
  induction F with
  | zero => intro a0 i1 a2 a3 i4 i6 I r h; cases h
  | succ F ih =>
    intro a0 i1 a2 a3 i4 i6 I r h
    unfold f26_b75 at h
    refine go_ops aMi26 2 _ (f1 := (79, ([(0, .ref a0), (1, .int i1), (2, .ref a2), (3, .ref a3), (4, .int i4), (6, .int i6)], [.int (32 : Int32), .int i6]))) rfl ?_
    refine gg_br (b := decide ((32 : Int32) ≤ i6)) (tg := 96) (off := 17) aMi26 rfl rfl rfl rfl (fun hb => ?_) (fun hb => ?_)
    · rw [if_pos (of_decide_eq_true hb)] at h
      refine go_ops aMi26 5 _ (f1 := (102, ([(0, .ref a0), (1, .int i1), (2, .ref a2), (3, .ref a3), (4, .int i4), (6, .int i6)], [.ref a3, .ref a2, .int i4, .int i1, .ref a0]))) rfl ?_
      obtain ⟨u102_1, hxu102_1, h⟩ := Option.bind_eq_some_iff.mp h
      obtain ⟨r102_2, hxr102_2, h⟩ := Option.bind_eq_some_iff.mp h
      refine gg_cv (as := [.int i1, .int i4, .ref a2, .ref a3]) (r := []) aMi26 rfl rfl rfl aMi29 (Nat.le_of_ble_eq_true rfl) rfl (Nat.le_of_ble_eq_true rfl) (Nat.le_of_ble_eq_true rfl) (by omega) hxu102_1 (Tf29 (by omega) a0 i1 i4 a2 a3 I _ hxr102_2) ?_
      show aGo kad d 26 (105, ([(0, .ref a0), (1, .int i1), (2, .ref a2), (3, .ref a3), (4, .int i4), (6, .int i6)], [])) (aMem Z r102_2.2, t) _
      refine go_ops aMi26 2 _ (f1 := (108, ([(6, .int (0 : Int32)), (0, .ref a0), (1, .int i1), (2, .ref a2), (3, .ref a3), (4, .int i4)], []))) rfl ?_
      refine go_le (lv1 := [(0, .ref a0), (2, .ref a2), (6, .int (0 : Int32))]) (aLe_of (show (List.map (fun q => q.1) ([(0, .ref a0), (2, .ref a2), (6, .int (0 : Int32))] : ALv)).Nodup from (by show ([0, 2, 6] : List Nat).Nodup; decide)) (aSubL_cons rfl (aSubL_cons rfl (aSubL_cons rfl aSubL_nil)))) ?_
      exact Tf26_b108 hd N a0 a2 (0 : Int32) r102_2.2 _ h
    · rw [if_neg (of_decide_eq_false hb)] at h
      refine go_ops aMi26 1 _ (f1 := (83, ([(0, .ref a0), (1, .int i1), (2, .ref a2), (3, .ref a3), (4, .int i4), (6, .int i6)], [.ref a0]))) rfl ?_
      obtain ⟨b83_3, hxb83_3, h⟩ := Option.bind_eq_some_iff.mp h
      refine gg_gR aMi26 rfl rfl rfl hxb83_3 ?_
      refine go_ops aMi26 2 _ (f1 := (89, ([(0, .ref a0), (1, .int i1), (2, .ref a2), (3, .ref a3), (4, .int i4), (6, .int i6)], [.int (0 : Int32), .int i6, .ref b83_3]))) rfl ?_
      obtain ⟨I89_4, hxI89_4, h⟩ := Option.bind_eq_some_iff.mp h
      refine gg_sI (Or.inr ⟨rfl, rfl⟩) aMi26 rfl hxI89_4 ?_
      refine go_ops aMi26 2 _ (f1 := (75, ([(6, .int (i6 + (1 : Int32))), (0, .ref a0), (1, .int i1), (2, .ref a2), (3, .ref a3), (4, .int i4)], []))) rfl ?_
      refine go_le (lv1 := [(0, .ref a0), (1, .int i1), (2, .ref a2), (3, .ref a3), (4, .int i4), (6, .int (i6 + (1 : Int32)))]) (aLe_of (show (List.map (fun q => q.1) ([(0, .ref a0), (1, .int i1), (2, .ref a2), (3, .ref a3), (4, .int i4), (6, .int (i6 + (1 : Int32)))] : ALv)).Nodup from (by show ([0, 1, 2, 3, 4, 6] : List Nat).Nodup; decide)) (aSubL_cons rfl (aSubL_cons rfl (aSubL_cons rfl (aSubL_cons rfl (aSubL_cons rfl (aSubL_cons rfl aSubL_nil))))))) ?_
      exact ih a0 i1 a2 a3 i4 (i6 + (1 : Int32)) I89_4 _ h
def f26_b36 (kad : Nat → Nat) (N : Nat) (Z : AZ) (a0 : Nat) (i1 : Int32) (a2 : Nat) (a3 : Nat) (s0 : Int32) (I : AI) : Option (Int32 × AI) :=
  (f27 kad N Z i1 s0 a2 a3 I).bind fun r43_1 =>
  if r43_1.1 = 0 then
    (gR Z r43_1.2 3 0 a3).bind fun b57_2 =>
    (gR Z r43_1.2 1 0 a0).bind fun b62_3 =>
    (cI Z r43_1.2 b57_2 (0 : Int32) b62_3 (0 : Int32) (256 : Int32)).bind fun I69_4 =>
    f26_b75 kad N Z N a0 i1 a2 a3 s0 (0 : Int32) I69_4
  else
    some (r43_1.1, r43_1.2)
set_option maxRecDepth 20000 in
theorem Tf26_b36 {kad : Nat → Nat} {N : Nat} {Z : AZ} {d : Nat} {t : Option Nat × (Nat × Nat)} (hd : 5 ≤ d) : ∀ (a0 : Nat) (i1 : Int32) (a2 : Nat) (a3 : Nat) (s0 : Int32) (I : AI) (r : Int32 × AI), f26_b36 kad N Z a0 i1 a2 a3 s0 I = some r → aGo kad d 26 (36, ([(0, .ref a0), (1, .int i1), (2, .ref a2), (3, .ref a3)], [.int s0])) (aMem Z I, t) (qI Z t r) := by
  intro a0 i1 a2 a3 s0 I r h
  unfold f26_b36 at h
  refine go_ops aMi26 5 _ (f1 := (43, ([(4, .int s0), (0, .ref a0), (1, .int i1), (2, .ref a2), (3, .ref a3)], [.ref a3, .ref a2, .int s0, .int i1]))) rfl ?_
  obtain ⟨r43_1, hxr43_1, h⟩ := Option.bind_eq_some_iff.mp h
  refine gg_cs (as := [.int i1, .int s0, .ref a2, .ref a3]) (r := []) aMi26 rfl rfl rfl aMi27 rfl (Nat.le_of_ble_eq_true rfl) (Nat.le_of_ble_eq_true rfl) (by omega) (Tf27 (by omega) i1 s0 a2 a3 I _ hxr43_1) ?_
  show aGo kad d 26 (46, ([(4, .int s0), (0, .ref a0), (1, .int i1), (2, .ref a2), (3, .ref a3)], [.int r43_1.1])) (aMem Z r43_1.2, t) _
  refine go_ops aMi26 2 _ (f1 := (50, ([(5, .int r43_1.1), (4, .int s0), (0, .ref a0), (1, .int i1), (2, .ref a2), (3, .ref a3)], [.int r43_1.1]))) rfl ?_
  refine gg_br (b := decide (r43_1.1 = 0)) (tg := 56) (off := 6) aMi26 rfl rfl rfl rfl (fun hb => ?_) (fun hb => ?_)
  · rw [if_pos (of_decide_eq_true hb)] at h
    refine go_ops aMi26 1 _ (f1 := (57, ([(5, .int r43_1.1), (4, .int s0), (0, .ref a0), (1, .int i1), (2, .ref a2), (3, .ref a3)], [.ref a3]))) rfl ?_
    obtain ⟨b57_2, hxb57_2, h⟩ := Option.bind_eq_some_iff.mp h
    refine gg_gR aMi26 rfl rfl rfl hxb57_2 ?_
    refine go_ops aMi26 2 _ (f1 := (62, ([(5, .int r43_1.1), (4, .int s0), (0, .ref a0), (1, .int i1), (2, .ref a2), (3, .ref a3)], [.ref a0, .int (0 : Int32), .ref b57_2]))) rfl ?_
    obtain ⟨b62_3, hxb62_3, h⟩ := Option.bind_eq_some_iff.mp h
    refine gg_gR aMi26 rfl rfl rfl hxb62_3 ?_
    refine go_ops aMi26 2 _ (f1 := (69, ([(5, .int r43_1.1), (4, .int s0), (0, .ref a0), (1, .int i1), (2, .ref a2), (3, .ref a3)], [.int (256 : Int32), .int (0 : Int32), .ref b62_3, .int (0 : Int32), .ref b57_2]))) rfl ?_
    obtain ⟨I69_4, hxI69_4, h⟩ := Option.bind_eq_some_iff.mp h
    refine gg_cp aMi26 rfl rfl (Nat.le_of_ble_eq_true rfl) hxI69_4 ?_
    refine go_ops aMi26 2 _ (f1 := (75, ([(6, .int (0 : Int32)), (5, .int r43_1.1), (4, .int s0), (0, .ref a0), (1, .int i1), (2, .ref a2), (3, .ref a3)], []))) rfl ?_
    refine go_le (lv1 := [(0, .ref a0), (1, .int i1), (2, .ref a2), (3, .ref a3), (4, .int s0), (6, .int (0 : Int32))]) (aLe_of (show (List.map (fun q => q.1) ([(0, .ref a0), (1, .int i1), (2, .ref a2), (3, .ref a3), (4, .int s0), (6, .int (0 : Int32))] : ALv)).Nodup from (by show ([0, 1, 2, 3, 4, 6] : List Nat).Nodup; decide)) (aSubL_cons rfl (aSubL_cons rfl (aSubL_cons rfl (aSubL_cons rfl (aSubL_cons rfl (aSubL_cons rfl aSubL_nil))))))) ?_
    exact Tf26_b75 hd N a0 i1 a2 a3 s0 (0 : Int32) I69_4 _ h
  · rw [if_neg (of_decide_eq_false hb)] at h
    refine go_ops aMi26 1 _ (f1 := (55, ([(5, .int r43_1.1), (4, .int s0), (0, .ref a0), (1, .int i1), (2, .ref a2), (3, .ref a3)], [.int r43_1.1]))) rfl ?_
    cases h
    exact go_ret aMi26 rfl aRetI ⟨rfl, rfl⟩
def f26 (kad : Nat → Nat) (N : Nat) (Z : AZ) (a0 : Nat) (i1 : Int32) (a2 : Nat) (a3 : Nat) (I : AI) : Option (Int32 × AI) :=
  if i1 < 0 then
    f26_b10 kad N Z  I
  else
    if i1 ≤ (6 : Int32) then
      (gR Z I 2 14 a2).bind fun b14_1 =>
      (lI Z I 100 b14_1 (0 : Int32)).bind fun x18_2 =>
      if ¬ x18_2 = 0 then
        (gR Z I 2 14 a2).bind fun b28_3 =>
        (lI Z I 100 b28_3 (0 : Int32)).bind fun x32_4 =>
        (isK Z a3 3).bind fun u33_5 =>
        (f51 kad N Z a3 x32_4 I).bind fun r33_6 =>
        f26_b36 kad N Z a0 i1 a2 a3 r33_6.1 r33_6.2
      else
        f26_b36 kad N Z a0 i1 a2 a3 (Int32.ofInt (-1)) I
    else
      f26_b10 kad N Z  I
set_option maxRecDepth 20000 in
theorem Tf26 {kad : Nat → Nat} {N : Nat} {Z : AZ} {d : Nat} {t : Option Nat × (Nat × Nat)} (hd : 5 ≤ d) : ∀ (a0 : Nat) (i1 : Int32) (a2 : Nat) (a3 : Nat) (I : AI) (r : Int32 × AI), f26 kad N Z a0 i1 a2 a3 I = some r → aGo kad d 26 (0, ([(0, .ref a0), (1, .int i1), (2, .ref a2), (3, .ref a3)], [])) (aMem Z I, t) (qI Z t r) := by
  intro a0 i1 a2 a3 I r h
  unfold f26 at h
  refine go_ops aMi26 1 _ (f1 := (1, ([(0, .ref a0), (1, .int i1), (2, .ref a2), (3, .ref a3)], [.int i1]))) rfl ?_
  refine gg_br (b := decide (i1 < 0)) (tg := 10) (off := 9) aMi26 rfl rfl rfl rfl (fun hb => ?_) (fun hb => ?_)
  · rw [if_pos (of_decide_eq_true hb)] at h
    refine go_le (lv1 := []) (aLe_of (show (List.map (fun q => q.1) ([] : ALv)).Nodup from (by show ([] : List Nat).Nodup; decide)) aSubL_nil) ?_
    exact Tf26_b10 hd  I _ h
  · rw [if_neg (of_decide_eq_false hb)] at h
    refine go_ops aMi26 2 _ (f1 := (7, ([(0, .ref a0), (1, .int i1), (2, .ref a2), (3, .ref a3)], [.int (6 : Int32), .int i1]))) rfl ?_
    refine gg_br (b := decide (i1 ≤ (6 : Int32))) (tg := 13) (off := 6) aMi26 rfl rfl rfl rfl (fun hb => ?_) (fun hb => ?_)
    · rw [if_pos (of_decide_eq_true hb)] at h
      refine go_ops aMi26 1 _ (f1 := (14, ([(0, .ref a0), (1, .int i1), (2, .ref a2), (3, .ref a3)], [.ref a2]))) rfl ?_
      obtain ⟨b14_1, hxb14_1, h⟩ := Option.bind_eq_some_iff.mp h
      refine gg_gR aMi26 rfl rfl rfl hxb14_1 ?_
      refine go_ops aMi26 1 _ (f1 := (18, ([(0, .ref a0), (1, .int i1), (2, .ref a2), (3, .ref a3)], [.int (0 : Int32), .ref b14_1]))) rfl ?_
      obtain ⟨x18_2, hxx18_2, h⟩ := Option.bind_eq_some_iff.mp h
      refine gg_lI (Or.inl ⟨rfl, rfl⟩) aMi26 rfl hxx18_2 ?_
      refine gg_br (b := decide (¬ x18_2 = 0)) (tg := 26) (off := 7) aMi26 rfl rfl rfl rfl (fun hb => ?_) (fun hb => ?_)
      · rw [if_pos (of_decide_eq_true hb)] at h
        refine go_ops aMi26 2 _ (f1 := (28, ([(0, .ref a0), (1, .int i1), (2, .ref a2), (3, .ref a3)], [.ref a2, .ref a3]))) rfl ?_
        obtain ⟨b28_3, hxb28_3, h⟩ := Option.bind_eq_some_iff.mp h
        refine gg_gR aMi26 rfl rfl rfl hxb28_3 ?_
        refine go_ops aMi26 1 _ (f1 := (32, ([(0, .ref a0), (1, .int i1), (2, .ref a2), (3, .ref a3)], [.int (0 : Int32), .ref b28_3, .ref a3]))) rfl ?_
        obtain ⟨x32_4, hxx32_4, h⟩ := Option.bind_eq_some_iff.mp h
        refine gg_lI (Or.inl ⟨rfl, rfl⟩) aMi26 rfl hxx32_4 ?_
        obtain ⟨u33_5, hxu33_5, h⟩ := Option.bind_eq_some_iff.mp h
        obtain ⟨r33_6, hxr33_6, h⟩ := Option.bind_eq_some_iff.mp h
        refine gg_cv (as := [.int x32_4]) (r := []) aMi26 rfl rfl rfl aMi51 (Nat.le_of_ble_eq_true rfl) rfl (Nat.le_of_ble_eq_true rfl) (Nat.le_of_ble_eq_true rfl) (by omega) hxu33_5 (Tf51 (by omega) a3 x32_4 I _ hxr33_6) ?_
        show aGo kad d 26 (36, ([(0, .ref a0), (1, .int i1), (2, .ref a2), (3, .ref a3)], [.int r33_6.1])) (aMem Z r33_6.2, t) _
        exact Tf26_b36 hd a0 i1 a2 a3 r33_6.1 r33_6.2 _ h
      · rw [if_neg (of_decide_eq_false hb)] at h
        refine go_ops aMi26 2 _ (f1 := (36, ([(0, .ref a0), (1, .int i1), (2, .ref a2), (3, .ref a3)], [.int (Int32.ofInt (-1))]))) rfl ?_
        exact Tf26_b36 hd a0 i1 a2 a3 (Int32.ofInt (-1)) I _ h
    · rw [if_neg (of_decide_eq_false hb)] at h
      refine go_le (lv1 := []) (aLe_of (show (List.map (fun q => q.1) ([] : ALv)).Nodup from (by show ([] : List Nat).Nodup; decide)) aSubL_nil) ?_
      exact Tf26_b10 hd  I _ h
-- KernelGym$FileCall.forget ()V
def f61 (kad : Nat → Nat) (N : Nat) (Z : AZ) (a0 : Nat) (I : AI) : Option (Unit × AI) :=
  (pI Z I 4 0 a0 (0 : Int32)).bind fun I2_1 =>
  (pI Z I2_1 4 1 a0 (0 : Int32)).bind fun I7_2 =>
  some ((), I7_2)
set_option maxRecDepth 20000 in
theorem Tf61 {kad : Nat → Nat} {N : Nat} {Z : AZ} {d : Nat} {t : Option Nat × (Nat × Nat)} (hd : 0 ≤ d) : ∀ (a0 : Nat) (I : AI) (r : Unit × AI), f61 kad N Z a0 I = some r → aGo kad d 61 (0, ([(0, .ref a0)], [])) (aMem Z I, t) (qV Z t r) := by
  intro a0 I r h
  unfold f61 at h
  refine go_ops aMi61 2 _ (f1 := (2, ([(0, .ref a0)], [.int (0 : Int32), .ref a0]))) rfl ?_
  obtain ⟨I2_1, hxI2_1, h⟩ := Option.bind_eq_some_iff.mp h
  refine gg_pI aMi61 rfl rfl rfl rfl (by decide) hxI2_1 ?_
  refine go_ops aMi61 2 _ (f1 := (7, ([(0, .ref a0)], [.int (0 : Int32), .ref a0]))) rfl ?_
  obtain ⟨I7_2, hxI7_2, h⟩ := Option.bind_eq_some_iff.mp h
  refine gg_pI aMi61 rfl rfl rfl rfl (by decide) hxI7_2 ?_
  cases h
  exact go_ret aMi61 rfl rfl ⟨rfl, rfl⟩
-- KernelGym$Core.empty ()V
def f37 (kad : Nat → Nat) (N : Nat) (Z : AZ) (a0 : Nat) (I : AI) : Option (Unit × AI) :=
  (pI Z I 2 0 a0 (0 : Int32)).bind fun I2_1 =>
  (pI Z I2_1 2 1 a0 (0 : Int32)).bind fun I7_2 =>
  (pI Z I7_2 2 2 a0 (0 : Int32)).bind fun I12_3 =>
  (pI Z I12_3 2 3 a0 (0 : Int32)).bind fun I17_4 =>
  (pI Z I17_4 2 4 a0 (0 : Int32)).bind fun I22_5 =>
  (pB Z I22_5 2 5 a0 (0 : Int32)).bind fun I27_6 =>
  (pB Z I27_6 2 6 a0 (0 : Int32)).bind fun I32_7 =>
  (pB Z I32_7 2 7 a0 (0 : Int32)).bind fun I37_8 =>
  (pB Z I37_8 2 8 a0 (0 : Int32)).bind fun I42_9 =>
  (pB Z I42_9 2 9 a0 (0 : Int32)).bind fun I47_10 =>
  (pI Z I47_10 2 10 a0 (0 : Int32)).bind fun I52_11 =>
  (pI Z I52_11 2 11 a0 (0 : Int32)).bind fun I57_12 =>
  (pI Z I57_12 2 12 a0 (0 : Int32)).bind fun I62_13 =>
  (pI Z I62_13 2 13 a0 (0 : Int32)).bind fun I67_14 =>
  (gR Z I67_14 2 14 a0).bind fun b71_15 =>
  (f306 kad N Z b71_15 (0 : Int32) I67_14).bind fun r75_16 =>
  (gR Z r75_16.2 2 15 a0).bind fun b79_17 =>
  (isK Z b79_17 4).bind fun u82_18 =>
  (f61 kad N Z b79_17 r75_16.2).bind fun r82_19 =>
  some ((), r82_19.2)
set_option maxRecDepth 20000 in
theorem Tf37 {kad : Nat → Nat} {N : Nat} {Z : AZ} {d : Nat} {t : Option Nat × (Nat × Nat)} (hd : 1 ≤ d) : ∀ (a0 : Nat) (I : AI) (r : Unit × AI), f37 kad N Z a0 I = some r → aGo kad d 37 (0, ([(0, .ref a0)], [])) (aMem Z I, t) (qV Z t r) := by
  intro a0 I r h
  unfold f37 at h
  refine go_ops aMi37 2 _ (f1 := (2, ([(0, .ref a0)], [.int (0 : Int32), .ref a0]))) rfl ?_
  obtain ⟨I2_1, hxI2_1, h⟩ := Option.bind_eq_some_iff.mp h
  refine gg_pI aMi37 rfl rfl rfl rfl (by decide) hxI2_1 ?_
  refine go_ops aMi37 2 _ (f1 := (7, ([(0, .ref a0)], [.int (0 : Int32), .ref a0]))) rfl ?_
  obtain ⟨I7_2, hxI7_2, h⟩ := Option.bind_eq_some_iff.mp h
  refine gg_pI aMi37 rfl rfl rfl rfl (by decide) hxI7_2 ?_
  refine go_ops aMi37 2 _ (f1 := (12, ([(0, .ref a0)], [.int (0 : Int32), .ref a0]))) rfl ?_
  obtain ⟨I12_3, hxI12_3, h⟩ := Option.bind_eq_some_iff.mp h
  refine gg_pI aMi37 rfl rfl rfl rfl (by decide) hxI12_3 ?_
  refine go_ops aMi37 2 _ (f1 := (17, ([(0, .ref a0)], [.int (0 : Int32), .ref a0]))) rfl ?_
  obtain ⟨I17_4, hxI17_4, h⟩ := Option.bind_eq_some_iff.mp h
  refine gg_pI aMi37 rfl rfl rfl rfl (by decide) hxI17_4 ?_
  refine go_ops aMi37 2 _ (f1 := (22, ([(0, .ref a0)], [.int (0 : Int32), .ref a0]))) rfl ?_
  obtain ⟨I22_5, hxI22_5, h⟩ := Option.bind_eq_some_iff.mp h
  refine gg_pI aMi37 rfl rfl rfl rfl (by decide) hxI22_5 ?_
  refine go_ops aMi37 2 _ (f1 := (27, ([(0, .ref a0)], [.int (0 : Int32), .ref a0]))) rfl ?_
  obtain ⟨I27_6, hxI27_6, h⟩ := Option.bind_eq_some_iff.mp h
  refine gg_pB aMi37 rfl rfl rfl rfl (by decide) hxI27_6 ?_
  refine go_ops aMi37 2 _ (f1 := (32, ([(0, .ref a0)], [.int (0 : Int32), .ref a0]))) rfl ?_
  obtain ⟨I32_7, hxI32_7, h⟩ := Option.bind_eq_some_iff.mp h
  refine gg_pB aMi37 rfl rfl rfl rfl (by decide) hxI32_7 ?_
  refine go_ops aMi37 2 _ (f1 := (37, ([(0, .ref a0)], [.int (0 : Int32), .ref a0]))) rfl ?_
  obtain ⟨I37_8, hxI37_8, h⟩ := Option.bind_eq_some_iff.mp h
  refine gg_pB aMi37 rfl rfl rfl rfl (by decide) hxI37_8 ?_
  refine go_ops aMi37 2 _ (f1 := (42, ([(0, .ref a0)], [.int (0 : Int32), .ref a0]))) rfl ?_
  obtain ⟨I42_9, hxI42_9, h⟩ := Option.bind_eq_some_iff.mp h
  refine gg_pB aMi37 rfl rfl rfl rfl (by decide) hxI42_9 ?_
  refine go_ops aMi37 2 _ (f1 := (47, ([(0, .ref a0)], [.int (0 : Int32), .ref a0]))) rfl ?_
  obtain ⟨I47_10, hxI47_10, h⟩ := Option.bind_eq_some_iff.mp h
  refine gg_pB aMi37 rfl rfl rfl rfl (by decide) hxI47_10 ?_
  refine go_ops aMi37 2 _ (f1 := (52, ([(0, .ref a0)], [.int (0 : Int32), .ref a0]))) rfl ?_
  obtain ⟨I52_11, hxI52_11, h⟩ := Option.bind_eq_some_iff.mp h
  refine gg_pI aMi37 rfl rfl rfl rfl (by decide) hxI52_11 ?_
  refine go_ops aMi37 2 _ (f1 := (57, ([(0, .ref a0)], [.int (0 : Int32), .ref a0]))) rfl ?_
  obtain ⟨I57_12, hxI57_12, h⟩ := Option.bind_eq_some_iff.mp h
  refine gg_pI aMi37 rfl rfl rfl rfl (by decide) hxI57_12 ?_
  refine go_ops aMi37 2 _ (f1 := (62, ([(0, .ref a0)], [.int (0 : Int32), .ref a0]))) rfl ?_
  obtain ⟨I62_13, hxI62_13, h⟩ := Option.bind_eq_some_iff.mp h
  refine gg_pI aMi37 rfl rfl rfl rfl (by decide) hxI62_13 ?_
  refine go_ops aMi37 2 _ (f1 := (67, ([(0, .ref a0)], [.int (0 : Int32), .ref a0]))) rfl ?_
  obtain ⟨I67_14, hxI67_14, h⟩ := Option.bind_eq_some_iff.mp h
  refine gg_pI aMi37 rfl rfl rfl rfl (by decide) hxI67_14 ?_
  refine go_ops aMi37 1 _ (f1 := (71, ([(0, .ref a0)], [.ref a0]))) rfl ?_
  obtain ⟨b71_15, hxb71_15, h⟩ := Option.bind_eq_some_iff.mp h
  refine gg_gR aMi37 rfl rfl rfl hxb71_15 ?_
  refine go_ops aMi37 1 _ (f1 := (75, ([(0, .ref a0)], [.int (0 : Int32), .ref b71_15]))) rfl ?_
  obtain ⟨r75_16, hxr75_16, h⟩ := Option.bind_eq_some_iff.mp h
  refine gg_cs (as := [.ref b71_15, .int (0 : Int32)]) (r := []) aMi37 rfl rfl rfl aMi306 rfl (Nat.le_of_ble_eq_true rfl) (Nat.le_of_ble_eq_true rfl) (by omega) (Tf306 (by omega) b71_15 (0 : Int32) I67_14 _ hxr75_16) ?_
  show aGo kad d 37 (78, ([(0, .ref a0)], [])) (aMem Z r75_16.2, t) _
  refine go_ops aMi37 1 _ (f1 := (79, ([(0, .ref a0)], [.ref a0]))) rfl ?_
  obtain ⟨b79_17, hxb79_17, h⟩ := Option.bind_eq_some_iff.mp h
  refine gg_gR aMi37 rfl rfl rfl hxb79_17 ?_
  obtain ⟨u82_18, hxu82_18, h⟩ := Option.bind_eq_some_iff.mp h
  obtain ⟨r82_19, hxr82_19, h⟩ := Option.bind_eq_some_iff.mp h
  refine gg_cv (as := []) (r := []) aMi37 rfl rfl rfl aMi61 (Nat.le_of_ble_eq_true rfl) rfl (Nat.le_of_ble_eq_true rfl) (Nat.le_of_ble_eq_true rfl) (by omega) hxu82_18 (Tf61 (by omega) b79_17 r75_16.2 _ hxr82_19) ?_
  show aGo kad d 37 (85, ([(0, .ref a0)], [])) (aMem Z r82_19.2, t) _
  cases h
  exact go_ret aMi37 rfl rfl ⟨rfl, rfl⟩
-- KernelGym$FileCall.copyFrom (LKernelGym$FileCall;)V
def f62_b59 (kad : Nat → Nat) (N : Nat) (Z : AZ)  (I : AI) : Option (Unit × AI) :=
  some ((), I)
set_option maxRecDepth 20000 in
theorem Tf62_b59 {kad : Nat → Nat} {N : Nat} {Z : AZ} {d : Nat} {t : Option Nat × (Nat × Nat)} (hd : 0 ≤ d) : ∀  (I : AI) (r : Unit × AI), f62_b59 kad N Z  I = some r → aGo kad d 62 (59, ([], [])) (aMem Z I, t) (qV Z t r) := by
  intro  I r h
  unfold f62_b59 at h
  cases h
  exact go_ret aMi62 rfl rfl ⟨rfl, rfl⟩
def f62 (kad : Nat → Nat) (N : Nat) (Z : AZ) (a0 : Nat) (a1 : Nat) (I : AI) : Option (Unit × AI) :=
  (gI Z I 4 0 a1).bind fun x2_1 =>
  (pI Z I 4 0 a0 x2_1).bind fun I5_2 =>
  (gI Z I5_2 4 1 a1).bind fun x10_3 =>
  (pI Z I5_2 4 1 a0 x10_3).bind fun I13_4 =>
  (gI Z I13_4 4 0 a0).bind fun x17_5 =>
  if x17_5 ≤ 0 then
    f62_b59 kad N Z  I13_4
  else
    (gR Z I13_4 4 2 a1).bind fun b24_6 =>
    (gR Z I13_4 4 2 a0).bind fun b29_7 =>
    (gR Z I13_4 4 2 a0).bind fun b34_8 =>
    (nL Z b34_8).bind fun x37_9 =>
    (cI Z I13_4 b24_6 (0 : Int32) b29_7 (0 : Int32) x37_9).bind fun I38_10 =>
    (gR Z I38_10 4 3 a1).bind fun b42_11 =>
    (gR Z I38_10 4 3 a0).bind fun b47_12 =>
    (gR Z I38_10 4 3 a0).bind fun b52_13 =>
    (nL Z b52_13).bind fun x55_14 =>
    (cI Z I38_10 b42_11 (0 : Int32) b47_12 (0 : Int32) x55_14).bind fun I56_15 =>
    f62_b59 kad N Z  I56_15
set_option maxRecDepth 20000 in
theorem Tf62 {kad : Nat → Nat} {N : Nat} {Z : AZ} {d : Nat} {t : Option Nat × (Nat × Nat)} (hd : 0 ≤ d) : ∀ (a0 : Nat) (a1 : Nat) (I : AI) (r : Unit × AI), f62 kad N Z a0 a1 I = some r → aGo kad d 62 (0, ([(0, .ref a0), (1, .ref a1)], [])) (aMem Z I, t) (qV Z t r) := by
  intro a0 a1 I r h
  unfold f62 at h
  refine go_ops aMi62 2 _ (f1 := (2, ([(0, .ref a0), (1, .ref a1)], [.ref a1, .ref a0]))) rfl ?_
  obtain ⟨x2_1, hxx2_1, h⟩ := Option.bind_eq_some_iff.mp h
  refine gg_gI aMi62 rfl rfl rfl hxx2_1 ?_
  obtain ⟨I5_2, hxI5_2, h⟩ := Option.bind_eq_some_iff.mp h
  refine gg_pI aMi62 rfl rfl rfl rfl (by decide) hxI5_2 ?_
  refine go_ops aMi62 2 _ (f1 := (10, ([(0, .ref a0), (1, .ref a1)], [.ref a1, .ref a0]))) rfl ?_
  obtain ⟨x10_3, hxx10_3, h⟩ := Option.bind_eq_some_iff.mp h
  refine gg_gI aMi62 rfl rfl rfl hxx10_3 ?_
  obtain ⟨I13_4, hxI13_4, h⟩ := Option.bind_eq_some_iff.mp h
  refine gg_pI aMi62 rfl rfl rfl rfl (by decide) hxI13_4 ?_
  refine go_ops aMi62 1 _ (f1 := (17, ([(0, .ref a0), (1, .ref a1)], [.ref a0]))) rfl ?_
  obtain ⟨x17_5, hxx17_5, h⟩ := Option.bind_eq_some_iff.mp h
  refine gg_gI aMi62 rfl rfl rfl hxx17_5 ?_
  refine gg_br (b := decide (x17_5 ≤ 0)) (tg := 59) (off := 39) aMi62 rfl rfl rfl rfl (fun hb => ?_) (fun hb => ?_)
  · rw [if_pos (of_decide_eq_true hb)] at h
    refine go_le (lv1 := []) (aLe_of (show (List.map (fun q => q.1) ([] : ALv)).Nodup from (by show ([] : List Nat).Nodup; decide)) aSubL_nil) ?_
    exact Tf62_b59 hd  I13_4 _ h
  · rw [if_neg (of_decide_eq_false hb)] at h
    refine go_ops aMi62 1 _ (f1 := (24, ([(0, .ref a0), (1, .ref a1)], [.ref a1]))) rfl ?_
    obtain ⟨b24_6, hxb24_6, h⟩ := Option.bind_eq_some_iff.mp h
    refine gg_gR aMi62 rfl rfl rfl hxb24_6 ?_
    refine go_ops aMi62 2 _ (f1 := (29, ([(0, .ref a0), (1, .ref a1)], [.ref a0, .int (0 : Int32), .ref b24_6]))) rfl ?_
    obtain ⟨b29_7, hxb29_7, h⟩ := Option.bind_eq_some_iff.mp h
    refine gg_gR aMi62 rfl rfl rfl hxb29_7 ?_
    refine go_ops aMi62 2 _ (f1 := (34, ([(0, .ref a0), (1, .ref a1)], [.ref a0, .int (0 : Int32), .ref b29_7, .int (0 : Int32), .ref b24_6]))) rfl ?_
    obtain ⟨b34_8, hxb34_8, h⟩ := Option.bind_eq_some_iff.mp h
    refine gg_gR aMi62 rfl rfl rfl hxb34_8 ?_
    obtain ⟨x37_9, hxx37_9, h⟩ := Option.bind_eq_some_iff.mp h
    refine gg_len aMi62 rfl hxx37_9 ?_
    obtain ⟨I38_10, hxI38_10, h⟩ := Option.bind_eq_some_iff.mp h
    refine gg_cp aMi62 rfl rfl (Nat.le_of_ble_eq_true rfl) hxI38_10 ?_
    refine go_ops aMi62 1 _ (f1 := (42, ([(0, .ref a0), (1, .ref a1)], [.ref a1]))) rfl ?_
    obtain ⟨b42_11, hxb42_11, h⟩ := Option.bind_eq_some_iff.mp h
    refine gg_gR aMi62 rfl rfl rfl hxb42_11 ?_
    refine go_ops aMi62 2 _ (f1 := (47, ([(0, .ref a0), (1, .ref a1)], [.ref a0, .int (0 : Int32), .ref b42_11]))) rfl ?_
    obtain ⟨b47_12, hxb47_12, h⟩ := Option.bind_eq_some_iff.mp h
    refine gg_gR aMi62 rfl rfl rfl hxb47_12 ?_
    refine go_ops aMi62 2 _ (f1 := (52, ([(0, .ref a0), (1, .ref a1)], [.ref a0, .int (0 : Int32), .ref b47_12, .int (0 : Int32), .ref b42_11]))) rfl ?_
    obtain ⟨b52_13, hxb52_13, h⟩ := Option.bind_eq_some_iff.mp h
    refine gg_gR aMi62 rfl rfl rfl hxb52_13 ?_
    obtain ⟨x55_14, hxx55_14, h⟩ := Option.bind_eq_some_iff.mp h
    refine gg_len aMi62 rfl hxx55_14 ?_
    obtain ⟨I56_15, hxI56_15, h⟩ := Option.bind_eq_some_iff.mp h
    refine gg_cp aMi62 rfl rfl (Nat.le_of_ble_eq_true rfl) hxI56_15 ?_
    refine go_le (lv1 := []) (aLe_of (show (List.map (fun q => q.1) ([] : ALv)).Nodup from (by show ([] : List Nat).Nodup; decide)) aSubL_nil) ?_
    exact Tf62_b59 hd  I56_15 _ h
-- KernelGym$Core.copyFrom (LKernelGym$Core;)V
def f38 (kad : Nat → Nat) (N : Nat) (Z : AZ) (a0 : Nat) (a1 : Nat) (I : AI) : Option (Unit × AI) :=
  (gI Z I 2 0 a1).bind fun x2_1 =>
  (pI Z I 2 0 a0 x2_1).bind fun I5_2 =>
  (gI Z I5_2 2 1 a1).bind fun x10_3 =>
  (pI Z I5_2 2 1 a0 x10_3).bind fun I13_4 =>
  (gI Z I13_4 2 2 a1).bind fun x18_5 =>
  (pI Z I13_4 2 2 a0 x18_5).bind fun I21_6 =>
  (gI Z I21_6 2 3 a1).bind fun x26_7 =>
  (pI Z I21_6 2 3 a0 x26_7).bind fun I29_8 =>
  (gI Z I29_8 2 4 a1).bind fun x34_9 =>
  (pI Z I29_8 2 4 a0 x34_9).bind fun I37_10 =>
  (gI Z I37_10 2 5 a1).bind fun x42_11 =>
  (pB Z I37_10 2 5 a0 x42_11).bind fun I45_12 =>
  (gI Z I45_12 2 6 a1).bind fun x50_13 =>
  (pB Z I45_12 2 6 a0 x50_13).bind fun I53_14 =>
  (gI Z I53_14 2 7 a1).bind fun x58_15 =>
  (pB Z I53_14 2 7 a0 x58_15).bind fun I61_16 =>
  (gI Z I61_16 2 8 a1).bind fun x66_17 =>
  (pB Z I61_16 2 8 a0 x66_17).bind fun I69_18 =>
  (gI Z I69_18 2 9 a1).bind fun x74_19 =>
  (pB Z I69_18 2 9 a0 x74_19).bind fun I77_20 =>
  (gI Z I77_20 2 10 a1).bind fun x82_21 =>
  (pI Z I77_20 2 10 a0 x82_21).bind fun I85_22 =>
  (gI Z I85_22 2 11 a1).bind fun x90_23 =>
  (pI Z I85_22 2 11 a0 x90_23).bind fun I93_24 =>
  (gI Z I93_24 2 12 a1).bind fun x98_25 =>
  (pI Z I93_24 2 12 a0 x98_25).bind fun I101_26 =>
  (gI Z I101_26 2 13 a1).bind fun x106_27 =>
  (pI Z I101_26 2 13 a0 x106_27).bind fun I109_28 =>
  (gR Z I109_28 2 14 a1).bind fun b113_29 =>
  (gR Z I109_28 2 14 a0).bind fun b118_30 =>
  (cI Z I109_28 b113_29 (0 : Int32) b118_30 (0 : Int32) (4 : Int32)).bind fun I123_31 =>
  (gR Z I123_31 2 15 a0).bind fun b127_32 =>
  (gR Z I123_31 2 15 a1).bind fun b131_33 =>
  (isK Z b127_32 4).bind fun u134_34 =>
  (f62 kad N Z b127_32 b131_33 I123_31).bind fun r134_35 =>
  some ((), r134_35.2)
set_option maxRecDepth 20000 in
theorem Tf38 {kad : Nat → Nat} {N : Nat} {Z : AZ} {d : Nat} {t : Option Nat × (Nat × Nat)} (hd : 1 ≤ d) : ∀ (a0 : Nat) (a1 : Nat) (I : AI) (r : Unit × AI), f38 kad N Z a0 a1 I = some r → aGo kad d 38 (0, ([(0, .ref a0), (1, .ref a1)], [])) (aMem Z I, t) (qV Z t r) := by
  intro a0 a1 I r h
  unfold f38 at h
  refine go_ops aMi38 2 _ (f1 := (2, ([(0, .ref a0), (1, .ref a1)], [.ref a1, .ref a0]))) rfl ?_
  obtain ⟨x2_1, hxx2_1, h⟩ := Option.bind_eq_some_iff.mp h
  refine gg_gI aMi38 rfl rfl rfl hxx2_1 ?_
  obtain ⟨I5_2, hxI5_2, h⟩ := Option.bind_eq_some_iff.mp h
  refine gg_pI aMi38 rfl rfl rfl rfl (by decide) hxI5_2 ?_
  refine go_ops aMi38 2 _ (f1 := (10, ([(0, .ref a0), (1, .ref a1)], [.ref a1, .ref a0]))) rfl ?_
  obtain ⟨x10_3, hxx10_3, h⟩ := Option.bind_eq_some_iff.mp h
  refine gg_gI aMi38 rfl rfl rfl hxx10_3 ?_
  obtain ⟨I13_4, hxI13_4, h⟩ := Option.bind_eq_some_iff.mp h
  refine gg_pI aMi38 rfl rfl rfl rfl (by decide) hxI13_4 ?_
  refine go_ops aMi38 2 _ (f1 := (18, ([(0, .ref a0), (1, .ref a1)], [.ref a1, .ref a0]))) rfl ?_
  obtain ⟨x18_5, hxx18_5, h⟩ := Option.bind_eq_some_iff.mp h
  refine gg_gI aMi38 rfl rfl rfl hxx18_5 ?_
  obtain ⟨I21_6, hxI21_6, h⟩ := Option.bind_eq_some_iff.mp h
  refine gg_pI aMi38 rfl rfl rfl rfl (by decide) hxI21_6 ?_
  refine go_ops aMi38 2 _ (f1 := (26, ([(0, .ref a0), (1, .ref a1)], [.ref a1, .ref a0]))) rfl ?_
  obtain ⟨x26_7, hxx26_7, h⟩ := Option.bind_eq_some_iff.mp h
  refine gg_gI aMi38 rfl rfl rfl hxx26_7 ?_
  obtain ⟨I29_8, hxI29_8, h⟩ := Option.bind_eq_some_iff.mp h
  refine gg_pI aMi38 rfl rfl rfl rfl (by decide) hxI29_8 ?_
  refine go_ops aMi38 2 _ (f1 := (34, ([(0, .ref a0), (1, .ref a1)], [.ref a1, .ref a0]))) rfl ?_
  obtain ⟨x34_9, hxx34_9, h⟩ := Option.bind_eq_some_iff.mp h
  refine gg_gI aMi38 rfl rfl rfl hxx34_9 ?_
  obtain ⟨I37_10, hxI37_10, h⟩ := Option.bind_eq_some_iff.mp h
  refine gg_pI aMi38 rfl rfl rfl rfl (by decide) hxI37_10 ?_
  refine go_ops aMi38 2 _ (f1 := (42, ([(0, .ref a0), (1, .ref a1)], [.ref a1, .ref a0]))) rfl ?_
  obtain ⟨x42_11, hxx42_11, h⟩ := Option.bind_eq_some_iff.mp h
  refine gg_gI aMi38 rfl rfl rfl hxx42_11 ?_
  obtain ⟨I45_12, hxI45_12, h⟩ := Option.bind_eq_some_iff.mp h
  refine gg_pB aMi38 rfl rfl rfl rfl (by decide) hxI45_12 ?_
  refine go_ops aMi38 2 _ (f1 := (50, ([(0, .ref a0), (1, .ref a1)], [.ref a1, .ref a0]))) rfl ?_
  obtain ⟨x50_13, hxx50_13, h⟩ := Option.bind_eq_some_iff.mp h
  refine gg_gI aMi38 rfl rfl rfl hxx50_13 ?_
  obtain ⟨I53_14, hxI53_14, h⟩ := Option.bind_eq_some_iff.mp h
  refine gg_pB aMi38 rfl rfl rfl rfl (by decide) hxI53_14 ?_
  refine go_ops aMi38 2 _ (f1 := (58, ([(0, .ref a0), (1, .ref a1)], [.ref a1, .ref a0]))) rfl ?_
  obtain ⟨x58_15, hxx58_15, h⟩ := Option.bind_eq_some_iff.mp h
  refine gg_gI aMi38 rfl rfl rfl hxx58_15 ?_
  obtain ⟨I61_16, hxI61_16, h⟩ := Option.bind_eq_some_iff.mp h
  refine gg_pB aMi38 rfl rfl rfl rfl (by decide) hxI61_16 ?_
  refine go_ops aMi38 2 _ (f1 := (66, ([(0, .ref a0), (1, .ref a1)], [.ref a1, .ref a0]))) rfl ?_
  obtain ⟨x66_17, hxx66_17, h⟩ := Option.bind_eq_some_iff.mp h
  refine gg_gI aMi38 rfl rfl rfl hxx66_17 ?_
  obtain ⟨I69_18, hxI69_18, h⟩ := Option.bind_eq_some_iff.mp h
  refine gg_pB aMi38 rfl rfl rfl rfl (by decide) hxI69_18 ?_
  refine go_ops aMi38 2 _ (f1 := (74, ([(0, .ref a0), (1, .ref a1)], [.ref a1, .ref a0]))) rfl ?_
  obtain ⟨x74_19, hxx74_19, h⟩ := Option.bind_eq_some_iff.mp h
  refine gg_gI aMi38 rfl rfl rfl hxx74_19 ?_
  obtain ⟨I77_20, hxI77_20, h⟩ := Option.bind_eq_some_iff.mp h
  refine gg_pB aMi38 rfl rfl rfl rfl (by decide) hxI77_20 ?_
  refine go_ops aMi38 2 _ (f1 := (82, ([(0, .ref a0), (1, .ref a1)], [.ref a1, .ref a0]))) rfl ?_
  obtain ⟨x82_21, hxx82_21, h⟩ := Option.bind_eq_some_iff.mp h
  refine gg_gI aMi38 rfl rfl rfl hxx82_21 ?_
  obtain ⟨I85_22, hxI85_22, h⟩ := Option.bind_eq_some_iff.mp h
  refine gg_pI aMi38 rfl rfl rfl rfl (by decide) hxI85_22 ?_
  refine go_ops aMi38 2 _ (f1 := (90, ([(0, .ref a0), (1, .ref a1)], [.ref a1, .ref a0]))) rfl ?_
  obtain ⟨x90_23, hxx90_23, h⟩ := Option.bind_eq_some_iff.mp h
  refine gg_gI aMi38 rfl rfl rfl hxx90_23 ?_
  obtain ⟨I93_24, hxI93_24, h⟩ := Option.bind_eq_some_iff.mp h
  refine gg_pI aMi38 rfl rfl rfl rfl (by decide) hxI93_24 ?_
  refine go_ops aMi38 2 _ (f1 := (98, ([(0, .ref a0), (1, .ref a1)], [.ref a1, .ref a0]))) rfl ?_
  obtain ⟨x98_25, hxx98_25, h⟩ := Option.bind_eq_some_iff.mp h
  refine gg_gI aMi38 rfl rfl rfl hxx98_25 ?_
  obtain ⟨I101_26, hxI101_26, h⟩ := Option.bind_eq_some_iff.mp h
  refine gg_pI aMi38 rfl rfl rfl rfl (by decide) hxI101_26 ?_
  refine go_ops aMi38 2 _ (f1 := (106, ([(0, .ref a0), (1, .ref a1)], [.ref a1, .ref a0]))) rfl ?_
  obtain ⟨x106_27, hxx106_27, h⟩ := Option.bind_eq_some_iff.mp h
  refine gg_gI aMi38 rfl rfl rfl hxx106_27 ?_
  obtain ⟨I109_28, hxI109_28, h⟩ := Option.bind_eq_some_iff.mp h
  refine gg_pI aMi38 rfl rfl rfl rfl (by decide) hxI109_28 ?_
  refine go_ops aMi38 1 _ (f1 := (113, ([(0, .ref a0), (1, .ref a1)], [.ref a1]))) rfl ?_
  obtain ⟨b113_29, hxb113_29, h⟩ := Option.bind_eq_some_iff.mp h
  refine gg_gR aMi38 rfl rfl rfl hxb113_29 ?_
  refine go_ops aMi38 2 _ (f1 := (118, ([(0, .ref a0), (1, .ref a1)], [.ref a0, .int (0 : Int32), .ref b113_29]))) rfl ?_
  obtain ⟨b118_30, hxb118_30, h⟩ := Option.bind_eq_some_iff.mp h
  refine gg_gR aMi38 rfl rfl rfl hxb118_30 ?_
  refine go_ops aMi38 2 _ (f1 := (123, ([(0, .ref a0), (1, .ref a1)], [.int (4 : Int32), .int (0 : Int32), .ref b118_30, .int (0 : Int32), .ref b113_29]))) rfl ?_
  obtain ⟨I123_31, hxI123_31, h⟩ := Option.bind_eq_some_iff.mp h
  refine gg_cp aMi38 rfl rfl (Nat.le_of_ble_eq_true rfl) hxI123_31 ?_
  refine go_ops aMi38 1 _ (f1 := (127, ([(0, .ref a0), (1, .ref a1)], [.ref a0]))) rfl ?_
  obtain ⟨b127_32, hxb127_32, h⟩ := Option.bind_eq_some_iff.mp h
  refine gg_gR aMi38 rfl rfl rfl hxb127_32 ?_
  refine go_ops aMi38 1 _ (f1 := (131, ([(0, .ref a0), (1, .ref a1)], [.ref a1, .ref b127_32]))) rfl ?_
  obtain ⟨b131_33, hxb131_33, h⟩ := Option.bind_eq_some_iff.mp h
  refine gg_gR aMi38 rfl rfl rfl hxb131_33 ?_
  obtain ⟨u134_34, hxu134_34, h⟩ := Option.bind_eq_some_iff.mp h
  obtain ⟨r134_35, hxr134_35, h⟩ := Option.bind_eq_some_iff.mp h
  refine gg_cv (as := [.ref b131_33]) (r := []) aMi38 rfl rfl rfl aMi62 (Nat.le_of_ble_eq_true rfl) rfl (Nat.le_of_ble_eq_true rfl) (Nat.le_of_ble_eq_true rfl) (by omega) hxu134_34 (Tf62 (by omega) b127_32 b131_33 I123_31 _ hxr134_35) ?_
  show aGo kad d 38 (137, ([(0, .ref a0), (1, .ref a1)], [])) (aMem Z r134_35.2, t) _
  cases h
  exact go_ret aMi38 rfl rfl ⟨rfl, rfl⟩
-- KernelGym$Core.zeroAndLess ()I
def f39_b24 (kad : Nat → Nat) (N : Nat) (Z : AZ) (s0 : Int32) (s1 : Int32) (I : AI) : Option (Int32 × AI) :=
  some ((s1 + s0), I)
set_option maxRecDepth 20000 in
theorem Tf39_b24 {kad : Nat → Nat} {N : Nat} {Z : AZ} {d : Nat} {t : Option Nat × (Nat × Nat)} (hd : 0 ≤ d) : ∀ (s0 : Int32) (s1 : Int32) (I : AI) (r : Int32 × AI), f39_b24 kad N Z s0 s1 I = some r → aGo kad d 39 (24, ([], [.int s0, .int s1])) (aMem Z I, t) (qI Z t r) := by
  intro s0 s1 I r h
  unfold f39_b24 at h
  refine go_ops aMi39 1 _ (f1 := (25, ([], [.int (s1 + s0)]))) rfl ?_
  cases h
  exact go_ret aMi39 rfl aRetI ⟨rfl, rfl⟩
def f39_b12 (kad : Nat → Nat) (N : Nat) (Z : AZ) (a0 : Nat) (s0 : Int32) (I : AI) : Option (Int32 × AI) :=
  (gI Z I 2 6 a0).bind fun x13_1 =>
  if x13_1 = 0 then
    f39_b24 kad N Z (0 : Int32) s0 I
  else
    f39_b24 kad N Z (2 : Int32) s0 I
set_option maxRecDepth 20000 in
theorem Tf39_b12 {kad : Nat → Nat} {N : Nat} {Z : AZ} {d : Nat} {t : Option Nat × (Nat × Nat)} (hd : 0 ≤ d) : ∀ (a0 : Nat) (s0 : Int32) (I : AI) (r : Int32 × AI), f39_b12 kad N Z a0 s0 I = some r → aGo kad d 39 (12, ([(0, .ref a0)], [.int s0])) (aMem Z I, t) (qI Z t r) := by
  intro a0 s0 I r h
  unfold f39_b12 at h
  refine go_ops aMi39 1 _ (f1 := (13, ([(0, .ref a0)], [.ref a0, .int s0]))) rfl ?_
  obtain ⟨x13_1, hxx13_1, h⟩ := Option.bind_eq_some_iff.mp h
  refine gg_gI aMi39 rfl rfl rfl hxx13_1 ?_
  refine gg_br (b := decide (x13_1 = 0)) (tg := 23) (off := 7) aMi39 rfl rfl rfl rfl (fun hb => ?_) (fun hb => ?_)
  · rw [if_pos (of_decide_eq_true hb)] at h
    refine go_ops aMi39 1 _ (f1 := (24, ([(0, .ref a0)], [.int (0 : Int32), .int s0]))) rfl ?_
    refine go_le (lv1 := []) (aLe_of (show (List.map (fun q => q.1) ([] : ALv)).Nodup from (by show ([] : List Nat).Nodup; decide)) aSubL_nil) ?_
    exact Tf39_b24 hd (0 : Int32) s0 I _ h
  · rw [if_neg (of_decide_eq_false hb)] at h
    refine go_ops aMi39 2 _ (f1 := (24, ([(0, .ref a0)], [.int (2 : Int32), .int s0]))) rfl ?_
    refine go_le (lv1 := []) (aLe_of (show (List.map (fun q => q.1) ([] : ALv)).Nodup from (by show ([] : List Nat).Nodup; decide)) aSubL_nil) ?_
    exact Tf39_b24 hd (2 : Int32) s0 I _ h
def f39 (kad : Nat → Nat) (N : Nat) (Z : AZ) (a0 : Nat) (I : AI) : Option (Int32 × AI) :=
  (gI Z I 2 5 a0).bind fun x1_1 =>
  if x1_1 = 0 then
    f39_b12 kad N Z a0 (0 : Int32) I
  else
    f39_b12 kad N Z a0 (1 : Int32) I
set_option maxRecDepth 20000 in
theorem Tf39 {kad : Nat → Nat} {N : Nat} {Z : AZ} {d : Nat} {t : Option Nat × (Nat × Nat)} (hd : 0 ≤ d) : ∀ (a0 : Nat) (I : AI) (r : Int32 × AI), f39 kad N Z a0 I = some r → aGo kad d 39 (0, ([(0, .ref a0)], [])) (aMem Z I, t) (qI Z t r) := by
  intro a0 I r h
  unfold f39 at h
  refine go_ops aMi39 1 _ (f1 := (1, ([(0, .ref a0)], [.ref a0]))) rfl ?_
  obtain ⟨x1_1, hxx1_1, h⟩ := Option.bind_eq_some_iff.mp h
  refine gg_gI aMi39 rfl rfl rfl hxx1_1 ?_
  refine gg_br (b := decide (x1_1 = 0)) (tg := 11) (off := 7) aMi39 rfl rfl rfl rfl (fun hb => ?_) (fun hb => ?_)
  · rw [if_pos (of_decide_eq_true hb)] at h
    refine go_ops aMi39 1 _ (f1 := (12, ([(0, .ref a0)], [.int (0 : Int32)]))) rfl ?_
    exact Tf39_b12 hd a0 (0 : Int32) I _ h
  · rw [if_neg (of_decide_eq_false hb)] at h
    refine go_ops aMi39 2 _ (f1 := (12, ([(0, .ref a0)], [.int (1 : Int32)]))) rfl ?_
    exact Tf39_b12 hd a0 (1 : Int32) I _ h
-- KernelGym$Core.allFlags ()I
def f40_b44 (kad : Nat → Nat) (N : Nat) (Z : AZ) (s0 : Int32) (s1 : Int32) (I : AI) : Option (Int32 × AI) :=
  some ((s1 + s0), I)
set_option maxRecDepth 20000 in
theorem Tf40_b44 {kad : Nat → Nat} {N : Nat} {Z : AZ} {d : Nat} {t : Option Nat × (Nat × Nat)} (hd : 1 ≤ d) : ∀ (s0 : Int32) (s1 : Int32) (I : AI) (r : Int32 × AI), f40_b44 kad N Z s0 s1 I = some r → aGo kad d 40 (44, ([], [.int s0, .int s1])) (aMem Z I, t) (qI Z t r) := by
  intro s0 s1 I r h
  unfold f40_b44 at h
  refine go_ops aMi40 1 _ (f1 := (45, ([], [.int (s1 + s0)]))) rfl ?_
  cases h
  exact go_ret aMi40 rfl aRetI ⟨rfl, rfl⟩
def f40_b30 (kad : Nat → Nat) (N : Nat) (Z : AZ) (a0 : Nat) (s0 : Int32) (s1 : Int32) (I : AI) : Option (Int32 × AI) :=
  (gI Z I 2 9 a0).bind fun x32_1 =>
  if x32_1 = 0 then
    f40_b44 kad N Z (0 : Int32) (s1 + s0) I
  else
    f40_b44 kad N Z (16 : Int32) (s1 + s0) I
set_option maxRecDepth 20000 in
theorem Tf40_b30 {kad : Nat → Nat} {N : Nat} {Z : AZ} {d : Nat} {t : Option Nat × (Nat × Nat)} (hd : 1 ≤ d) : ∀ (a0 : Nat) (s0 : Int32) (s1 : Int32) (I : AI) (r : Int32 × AI), f40_b30 kad N Z a0 s0 s1 I = some r → aGo kad d 40 (30, ([(0, .ref a0)], [.int s0, .int s1])) (aMem Z I, t) (qI Z t r) := by
  intro a0 s0 s1 I r h
  unfold f40_b30 at h
  refine go_ops aMi40 2 _ (f1 := (32, ([(0, .ref a0)], [.ref a0, .int (s1 + s0)]))) rfl ?_
  obtain ⟨x32_1, hxx32_1, h⟩ := Option.bind_eq_some_iff.mp h
  refine gg_gI aMi40 rfl rfl rfl hxx32_1 ?_
  refine gg_br (b := decide (x32_1 = 0)) (tg := 43) (off := 8) aMi40 rfl rfl rfl rfl (fun hb => ?_) (fun hb => ?_)
  · rw [if_pos (of_decide_eq_true hb)] at h
    refine go_ops aMi40 1 _ (f1 := (44, ([(0, .ref a0)], [.int (0 : Int32), .int (s1 + s0)]))) rfl ?_
    refine go_le (lv1 := []) (aLe_of (show (List.map (fun q => q.1) ([] : ALv)).Nodup from (by show ([] : List Nat).Nodup; decide)) aSubL_nil) ?_
    exact Tf40_b44 hd (0 : Int32) (s1 + s0) I _ h
  · rw [if_neg (of_decide_eq_false hb)] at h
    refine go_ops aMi40 2 _ (f1 := (44, ([(0, .ref a0)], [.int (16 : Int32), .int (s1 + s0)]))) rfl ?_
    refine go_le (lv1 := []) (aLe_of (show (List.map (fun q => q.1) ([] : ALv)).Nodup from (by show ([] : List Nat).Nodup; decide)) aSubL_nil) ?_
    exact Tf40_b44 hd (16 : Int32) (s1 + s0) I _ h
def f40_b16 (kad : Nat → Nat) (N : Nat) (Z : AZ) (a0 : Nat) (s0 : Int32) (s1 : Int32) (I : AI) : Option (Int32 × AI) :=
  (gI Z I 2 8 a0).bind fun x18_1 =>
  if x18_1 = 0 then
    f40_b30 kad N Z a0 (0 : Int32) (s1 + s0) I
  else
    f40_b30 kad N Z a0 (8 : Int32) (s1 + s0) I
set_option maxRecDepth 20000 in
theorem Tf40_b16 {kad : Nat → Nat} {N : Nat} {Z : AZ} {d : Nat} {t : Option Nat × (Nat × Nat)} (hd : 1 ≤ d) : ∀ (a0 : Nat) (s0 : Int32) (s1 : Int32) (I : AI) (r : Int32 × AI), f40_b16 kad N Z a0 s0 s1 I = some r → aGo kad d 40 (16, ([(0, .ref a0)], [.int s0, .int s1])) (aMem Z I, t) (qI Z t r) := by
  intro a0 s0 s1 I r h
  unfold f40_b16 at h
  refine go_ops aMi40 2 _ (f1 := (18, ([(0, .ref a0)], [.ref a0, .int (s1 + s0)]))) rfl ?_
  obtain ⟨x18_1, hxx18_1, h⟩ := Option.bind_eq_some_iff.mp h
  refine gg_gI aMi40 rfl rfl rfl hxx18_1 ?_
  refine gg_br (b := decide (x18_1 = 0)) (tg := 29) (off := 8) aMi40 rfl rfl rfl rfl (fun hb => ?_) (fun hb => ?_)
  · rw [if_pos (of_decide_eq_true hb)] at h
    refine go_ops aMi40 1 _ (f1 := (30, ([(0, .ref a0)], [.int (0 : Int32), .int (s1 + s0)]))) rfl ?_
    exact Tf40_b30 hd a0 (0 : Int32) (s1 + s0) I _ h
  · rw [if_neg (of_decide_eq_false hb)] at h
    refine go_ops aMi40 2 _ (f1 := (30, ([(0, .ref a0)], [.int (8 : Int32), .int (s1 + s0)]))) rfl ?_
    exact Tf40_b30 hd a0 (8 : Int32) (s1 + s0) I _ h
def f40 (kad : Nat → Nat) (N : Nat) (Z : AZ) (a0 : Nat) (I : AI) : Option (Int32 × AI) :=
  (isK Z a0 2).bind fun u1_1 =>
  (f39 kad N Z a0 I).bind fun r1_2 =>
  (gI Z r1_2.2 2 7 a0).bind fun x5_3 =>
  if x5_3 = 0 then
    f40_b16 kad N Z a0 (0 : Int32) r1_2.1 r1_2.2
  else
    f40_b16 kad N Z a0 (4 : Int32) r1_2.1 r1_2.2
set_option maxRecDepth 20000 in
theorem Tf40 {kad : Nat → Nat} {N : Nat} {Z : AZ} {d : Nat} {t : Option Nat × (Nat × Nat)} (hd : 1 ≤ d) : ∀ (a0 : Nat) (I : AI) (r : Int32 × AI), f40 kad N Z a0 I = some r → aGo kad d 40 (0, ([(0, .ref a0)], [])) (aMem Z I, t) (qI Z t r) := by
  intro a0 I r h
  unfold f40 at h
  refine go_ops aMi40 1 _ (f1 := (1, ([(0, .ref a0)], [.ref a0]))) rfl ?_
  obtain ⟨u1_1, hxu1_1, h⟩ := Option.bind_eq_some_iff.mp h
  obtain ⟨r1_2, hxr1_2, h⟩ := Option.bind_eq_some_iff.mp h
  refine gg_cv (as := []) (r := []) aMi40 rfl rfl rfl aMi39 (Nat.le_of_ble_eq_true rfl) rfl (Nat.le_of_ble_eq_true rfl) (Nat.le_of_ble_eq_true rfl) (by omega) hxu1_1 (Tf39 (by omega) a0 I _ hxr1_2) ?_
  show aGo kad d 40 (4, ([(0, .ref a0)], [.int r1_2.1])) (aMem Z r1_2.2, t) _
  refine go_ops aMi40 1 _ (f1 := (5, ([(0, .ref a0)], [.ref a0, .int r1_2.1]))) rfl ?_
  obtain ⟨x5_3, hxx5_3, h⟩ := Option.bind_eq_some_iff.mp h
  refine gg_gI aMi40 rfl rfl rfl hxx5_3 ?_
  refine gg_br (b := decide (x5_3 = 0)) (tg := 15) (off := 7) aMi40 rfl rfl rfl rfl (fun hb => ?_) (fun hb => ?_)
  · rw [if_pos (of_decide_eq_true hb)] at h
    refine go_ops aMi40 1 _ (f1 := (16, ([(0, .ref a0)], [.int (0 : Int32), .int r1_2.1]))) rfl ?_
    exact Tf40_b16 hd a0 (0 : Int32) r1_2.1 r1_2.2 _ h
  · rw [if_neg (of_decide_eq_false hb)] at h
    refine go_ops aMi40 2 _ (f1 := (16, ([(0, .ref a0)], [.int (4 : Int32), .int r1_2.1]))) rfl ?_
    exact Tf40_b16 hd a0 (4 : Int32) r1_2.1 r1_2.2 _ h
-- KernelGym$Disk.erase ()V
def f42 (kad : Nat → Nat) (N : Nat) (Z : AZ) (a0 : Nat) (I : AI) : Option (Unit × AI) :=
  (gR Z I 3 0 a0).bind fun b1_1 =>
  (f306 kad N Z b1_1 (0 : Int32) I).bind fun r5_2 =>
  (gR Z r5_2.2 3 0 a0).bind fun b9_3 =>
  (sI Z r5_2.2 100 b9_3 (32 : Int32) (255 : Int32)).bind fun I17_4 =>
  (pI Z I17_4 3 1 a0 (0 : Int32)).bind fun I20_5 =>
  some ((), I20_5)
set_option maxRecDepth 20000 in
theorem Tf42 {kad : Nat → Nat} {N : Nat} {Z : AZ} {d : Nat} {t : Option Nat × (Nat × Nat)} (hd : 1 ≤ d) : ∀ (a0 : Nat) (I : AI) (r : Unit × AI), f42 kad N Z a0 I = some r → aGo kad d 42 (0, ([(0, .ref a0)], [])) (aMem Z I, t) (qV Z t r) := by
  intro a0 I r h
  unfold f42 at h
  refine go_ops aMi42 1 _ (f1 := (1, ([(0, .ref a0)], [.ref a0]))) rfl ?_
  obtain ⟨b1_1, hxb1_1, h⟩ := Option.bind_eq_some_iff.mp h
  refine gg_gR aMi42 rfl rfl rfl hxb1_1 ?_
  refine go_ops aMi42 1 _ (f1 := (5, ([(0, .ref a0)], [.int (0 : Int32), .ref b1_1]))) rfl ?_
  obtain ⟨r5_2, hxr5_2, h⟩ := Option.bind_eq_some_iff.mp h
  refine gg_cs (as := [.ref b1_1, .int (0 : Int32)]) (r := []) aMi42 rfl rfl rfl aMi306 rfl (Nat.le_of_ble_eq_true rfl) (Nat.le_of_ble_eq_true rfl) (by omega) (Tf306 (by omega) b1_1 (0 : Int32) I _ hxr5_2) ?_
  show aGo kad d 42 (8, ([(0, .ref a0)], [])) (aMem Z r5_2.2, t) _
  refine go_ops aMi42 1 _ (f1 := (9, ([(0, .ref a0)], [.ref a0]))) rfl ?_
  obtain ⟨b9_3, hxb9_3, h⟩ := Option.bind_eq_some_iff.mp h
  refine gg_gR aMi42 rfl rfl rfl hxb9_3 ?_
  refine go_ops aMi42 2 _ (f1 := (17, ([(0, .ref a0)], [.int (255 : Int32), .int (32 : Int32), .ref b9_3]))) rfl ?_
  obtain ⟨I17_4, hxI17_4, h⟩ := Option.bind_eq_some_iff.mp h
  refine gg_sI (Or.inl ⟨rfl, rfl⟩) aMi42 rfl hxI17_4 ?_
  refine go_ops aMi42 2 _ (f1 := (20, ([(0, .ref a0)], [.int (0 : Int32), .ref a0]))) rfl ?_
  obtain ⟨I20_5, hxI20_5, h⟩ := Option.bind_eq_some_iff.mp h
  refine gg_pI aMi42 rfl rfl rfl rfl (by decide) hxI20_5 ?_
  cases h
  exact go_ret aMi42 rfl rfl ⟨rfl, rfl⟩
-- KernelGym$Disk.writeBlock (I[II)V
def f44_b48 (kad : Nat → Nat) (N : Nat) (Z : AZ)  (I : AI) : Option (Unit × AI) :=
  some ((), I)
set_option maxRecDepth 20000 in
theorem Tf44_b48 {kad : Nat → Nat} {N : Nat} {Z : AZ} {d : Nat} {t : Option Nat × (Nat × Nat)} (hd : 0 ≤ d) : ∀  (I : AI) (r : Unit × AI), f44_b48 kad N Z  I = some r → aGo kad d 44 (48, ([], [])) (aMem Z I, t) (qV Z t r) := by
  intro  I r h
  unfold f44_b48 at h
  cases h
  exact go_ret aMi44 rfl rfl ⟨rfl, rfl⟩
def f44 (kad : Nat → Nat) (N : Nat) (Z : AZ) (a0 : Nat) (i1 : Int32) (a2 : Nat) (i3 : Int32) (I : AI) : Option (Unit × AI) :=
  if i1 < 0 then
    f44_b48 kad N Z  I
  else
    if (32 : Int32) ≤ i1 then
      f44_b48 kad N Z  I
    else
      if i3 < 0 then
        f44_b48 kad N Z  I
      else
        (nL Z a2).bind fun x19_1 =>
        if x19_1 < (i3 + (8 : Int32)) then
          f44_b48 kad N Z  I
        else
          (gR Z I 3 0 a0).bind fun b26_2 =>
          (cI Z I a2 i3 b26_2 (i1 * (8 : Int32)) (8 : Int32)).bind fun I35_3 =>
          (gI Z I35_3 3 1 a0).bind fun x40_4 =>
          (pI Z I35_3 3 1 a0 (x40_4 + (1 : Int32))).bind fun I45_5 =>
          f44_b48 kad N Z  I45_5
set_option maxRecDepth 20000 in
theorem Tf44 {kad : Nat → Nat} {N : Nat} {Z : AZ} {d : Nat} {t : Option Nat × (Nat × Nat)} (hd : 0 ≤ d) : ∀ (a0 : Nat) (i1 : Int32) (a2 : Nat) (i3 : Int32) (I : AI) (r : Unit × AI), f44 kad N Z a0 i1 a2 i3 I = some r → aGo kad d 44 (0, ([(0, .ref a0), (1, .int i1), (2, .ref a2), (3, .int i3)], [])) (aMem Z I, t) (qV Z t r) := by
  intro a0 i1 a2 i3 I r h
  unfold f44 at h
  refine go_ops aMi44 1 _ (f1 := (1, ([(0, .ref a0), (1, .int i1), (2, .ref a2), (3, .int i3)], [.int i1]))) rfl ?_
  refine gg_br (b := decide (i1 < 0)) (tg := 48) (off := 47) aMi44 rfl rfl rfl rfl (fun hb => ?_) (fun hb => ?_)
  · rw [if_pos (of_decide_eq_true hb)] at h
    refine go_le (lv1 := []) (aLe_of (show (List.map (fun q => q.1) ([] : ALv)).Nodup from (by show ([] : List Nat).Nodup; decide)) aSubL_nil) ?_
    exact Tf44_b48 hd  I _ h
  · rw [if_neg (of_decide_eq_false hb)] at h
    refine go_ops aMi44 2 _ (f1 := (7, ([(0, .ref a0), (1, .int i1), (2, .ref a2), (3, .int i3)], [.int (32 : Int32), .int i1]))) rfl ?_
    refine gg_br (b := decide ((32 : Int32) ≤ i1)) (tg := 48) (off := 41) aMi44 rfl rfl rfl rfl (fun hb => ?_) (fun hb => ?_)
    · rw [if_pos (of_decide_eq_true hb)] at h
      refine go_le (lv1 := []) (aLe_of (show (List.map (fun q => q.1) ([] : ALv)).Nodup from (by show ([] : List Nat).Nodup; decide)) aSubL_nil) ?_
      exact Tf44_b48 hd  I _ h
    · rw [if_neg (of_decide_eq_false hb)] at h
      refine go_ops aMi44 1 _ (f1 := (11, ([(0, .ref a0), (1, .int i1), (2, .ref a2), (3, .int i3)], [.int i3]))) rfl ?_
      refine gg_br (b := decide (i3 < 0)) (tg := 48) (off := 37) aMi44 rfl rfl rfl rfl (fun hb => ?_) (fun hb => ?_)
      · rw [if_pos (of_decide_eq_true hb)] at h
        refine go_le (lv1 := []) (aLe_of (show (List.map (fun q => q.1) ([] : ALv)).Nodup from (by show ([] : List Nat).Nodup; decide)) aSubL_nil) ?_
        exact Tf44_b48 hd  I _ h
      · rw [if_neg (of_decide_eq_false hb)] at h
        refine go_ops aMi44 4 _ (f1 := (19, ([(0, .ref a0), (1, .int i1), (2, .ref a2), (3, .int i3)], [.ref a2, .int (i3 + (8 : Int32))]))) rfl ?_
        obtain ⟨x19_1, hxx19_1, h⟩ := Option.bind_eq_some_iff.mp h
        refine gg_len aMi44 rfl hxx19_1 ?_
        refine gg_br (b := decide (x19_1 < (i3 + (8 : Int32)))) (tg := 48) (off := 28) aMi44 rfl rfl rfl rfl (fun hb => ?_) (fun hb => ?_)
        · rw [if_pos (of_decide_eq_true hb)] at h
          refine go_le (lv1 := []) (aLe_of (show (List.map (fun q => q.1) ([] : ALv)).Nodup from (by show ([] : List Nat).Nodup; decide)) aSubL_nil) ?_
          exact Tf44_b48 hd  I _ h
        · rw [if_neg (of_decide_eq_false hb)] at h
          refine go_ops aMi44 3 _ (f1 := (26, ([(0, .ref a0), (1, .int i1), (2, .ref a2), (3, .int i3)], [.ref a0, .int i3, .ref a2]))) rfl ?_
          obtain ⟨b26_2, hxb26_2, h⟩ := Option.bind_eq_some_iff.mp h
          refine gg_gR aMi44 rfl rfl rfl hxb26_2 ?_
          refine go_ops aMi44 4 _ (f1 := (35, ([(0, .ref a0), (1, .int i1), (2, .ref a2), (3, .int i3)], [.int (8 : Int32), .int (i1 * (8 : Int32)), .ref b26_2, .int i3, .ref a2]))) rfl ?_
          obtain ⟨I35_3, hxI35_3, h⟩ := Option.bind_eq_some_iff.mp h
          refine gg_cp aMi44 rfl rfl (Nat.le_of_ble_eq_true rfl) hxI35_3 ?_
          refine go_ops aMi44 2 _ (f1 := (40, ([(0, .ref a0), (1, .int i1), (2, .ref a2), (3, .int i3)], [.ref a0, .ref a0]))) rfl ?_
          obtain ⟨x40_4, hxx40_4, h⟩ := Option.bind_eq_some_iff.mp h
          refine gg_gI aMi44 rfl rfl rfl hxx40_4 ?_
          refine go_ops aMi44 2 _ (f1 := (45, ([(0, .ref a0), (1, .int i1), (2, .ref a2), (3, .int i3)], [.int (x40_4 + (1 : Int32)), .ref a0]))) rfl ?_
          obtain ⟨I45_5, hxI45_5, h⟩ := Option.bind_eq_some_iff.mp h
          refine gg_pI aMi44 rfl rfl rfl rfl (by decide) hxI45_5 ?_
          refine go_le (lv1 := []) (aLe_of (show (List.map (fun q => q.1) ([] : ALv)).Nodup from (by show ([] : List Nat).Nodup; decide)) aSubL_nil) ?_
          exact Tf44_b48 hd  I45_5 _ h
-- KernelGym$Disk.unwriteBlock (I[I)V
def f45_b42 (kad : Nat → Nat) (N : Nat) (Z : AZ)  (I : AI) : Option (Unit × AI) :=
  some ((), I)
set_option maxRecDepth 20000 in
theorem Tf45_b42 {kad : Nat → Nat} {N : Nat} {Z : AZ} {d : Nat} {t : Option Nat × (Nat × Nat)} (hd : 0 ≤ d) : ∀  (I : AI) (r : Unit × AI), f45_b42 kad N Z  I = some r → aGo kad d 45 (42, ([], [])) (aMem Z I, t) (qV Z t r) := by
  intro  I r h
  unfold f45_b42 at h
  cases h
  exact go_ret aMi45 rfl rfl ⟨rfl, rfl⟩
def f45 (kad : Nat → Nat) (N : Nat) (Z : AZ) (a0 : Nat) (i1 : Int32) (a2 : Nat) (I : AI) : Option (Unit × AI) :=
  if i1 < 0 then
    f45_b42 kad N Z  I
  else
    if (32 : Int32) ≤ i1 then
      f45_b42 kad N Z  I
    else
      (nL Z a2).bind fun x11_1 =>
      if x11_1 < (8 : Int32) then
        f45_b42 kad N Z  I
      else
        (gR Z I 3 0 a0).bind fun b20_2 =>
        (cI Z I a2 (0 : Int32) b20_2 (i1 * (8 : Int32)) (8 : Int32)).bind fun I29_3 =>
        (gI Z I29_3 3 1 a0).bind fun x34_4 =>
        (pI Z I29_3 3 1 a0 (x34_4 - (1 : Int32))).bind fun I39_5 =>
        f45_b42 kad N Z  I39_5
set_option maxRecDepth 20000 in
theorem Tf45 {kad : Nat → Nat} {N : Nat} {Z : AZ} {d : Nat} {t : Option Nat × (Nat × Nat)} (hd : 0 ≤ d) : ∀ (a0 : Nat) (i1 : Int32) (a2 : Nat) (I : AI) (r : Unit × AI), f45 kad N Z a0 i1 a2 I = some r → aGo kad d 45 (0, ([(0, .ref a0), (1, .int i1), (2, .ref a2)], [])) (aMem Z I, t) (qV Z t r) := by
  intro a0 i1 a2 I r h
  unfold f45 at h
  refine go_ops aMi45 1 _ (f1 := (1, ([(0, .ref a0), (1, .int i1), (2, .ref a2)], [.int i1]))) rfl ?_
  refine gg_br (b := decide (i1 < 0)) (tg := 42) (off := 41) aMi45 rfl rfl rfl rfl (fun hb => ?_) (fun hb => ?_)
  · rw [if_pos (of_decide_eq_true hb)] at h
    refine go_le (lv1 := []) (aLe_of (show (List.map (fun q => q.1) ([] : ALv)).Nodup from (by show ([] : List Nat).Nodup; decide)) aSubL_nil) ?_
    exact Tf45_b42 hd  I _ h
  · rw [if_neg (of_decide_eq_false hb)] at h
    refine go_ops aMi45 2 _ (f1 := (7, ([(0, .ref a0), (1, .int i1), (2, .ref a2)], [.int (32 : Int32), .int i1]))) rfl ?_
    refine gg_br (b := decide ((32 : Int32) ≤ i1)) (tg := 42) (off := 35) aMi45 rfl rfl rfl rfl (fun hb => ?_) (fun hb => ?_)
    · rw [if_pos (of_decide_eq_true hb)] at h
      refine go_le (lv1 := []) (aLe_of (show (List.map (fun q => q.1) ([] : ALv)).Nodup from (by show ([] : List Nat).Nodup; decide)) aSubL_nil) ?_
      exact Tf45_b42 hd  I _ h
    · rw [if_neg (of_decide_eq_false hb)] at h
      refine go_ops aMi45 1 _ (f1 := (11, ([(0, .ref a0), (1, .int i1), (2, .ref a2)], [.ref a2]))) rfl ?_
      obtain ⟨x11_1, hxx11_1, h⟩ := Option.bind_eq_some_iff.mp h
      refine gg_len aMi45 rfl hxx11_1 ?_
      refine go_ops aMi45 1 _ (f1 := (14, ([(0, .ref a0), (1, .int i1), (2, .ref a2)], [.int (8 : Int32), .int x11_1]))) rfl ?_
      refine gg_br (b := decide (x11_1 < (8 : Int32))) (tg := 42) (off := 28) aMi45 rfl rfl rfl rfl (fun hb => ?_) (fun hb => ?_)
      · rw [if_pos (of_decide_eq_true hb)] at h
        refine go_le (lv1 := []) (aLe_of (show (List.map (fun q => q.1) ([] : ALv)).Nodup from (by show ([] : List Nat).Nodup; decide)) aSubL_nil) ?_
        exact Tf45_b42 hd  I _ h
      · rw [if_neg (of_decide_eq_false hb)] at h
        refine go_ops aMi45 3 _ (f1 := (20, ([(0, .ref a0), (1, .int i1), (2, .ref a2)], [.ref a0, .int (0 : Int32), .ref a2]))) rfl ?_
        obtain ⟨b20_2, hxb20_2, h⟩ := Option.bind_eq_some_iff.mp h
        refine gg_gR aMi45 rfl rfl rfl hxb20_2 ?_
        refine go_ops aMi45 4 _ (f1 := (29, ([(0, .ref a0), (1, .int i1), (2, .ref a2)], [.int (8 : Int32), .int (i1 * (8 : Int32)), .ref b20_2, .int (0 : Int32), .ref a2]))) rfl ?_
        obtain ⟨I29_3, hxI29_3, h⟩ := Option.bind_eq_some_iff.mp h
        refine gg_cp aMi45 rfl rfl (Nat.le_of_ble_eq_true rfl) hxI29_3 ?_
        refine go_ops aMi45 2 _ (f1 := (34, ([(0, .ref a0), (1, .int i1), (2, .ref a2)], [.ref a0, .ref a0]))) rfl ?_
        obtain ⟨x34_4, hxx34_4, h⟩ := Option.bind_eq_some_iff.mp h
        refine gg_gI aMi45 rfl rfl rfl hxx34_4 ?_
        refine go_ops aMi45 2 _ (f1 := (39, ([(0, .ref a0), (1, .int i1), (2, .ref a2)], [.int (x34_4 - (1 : Int32)), .ref a0]))) rfl ?_
        obtain ⟨I39_5, hxI39_5, h⟩ := Option.bind_eq_some_iff.mp h
        refine gg_pI aMi45 rfl rfl rfl rfl (by decide) hxI39_5 ?_
        refine go_le (lv1 := []) (aLe_of (show (List.map (fun q => q.1) ([] : ALv)).Nodup from (by show ([] : List Nat).Nodup; decide)) aSubL_nil) ?_
        exact Tf45_b42 hd  I39_5 _ h
-- KernelGym$Disk.checkOfLog (I)I
def f47_b26 (kad : Nat → Nat) (N : Nat) (Z : AZ) : Nat → Nat → Int32 → Int32 → Int32 → AI → Option (Int32 × AI)
  | 0, _, _, _, _, _ => none
  | F + 1, a0, i1, i2, i3, I =>
    if (i1 * (8 : Int32)) ≤ i3 then
      some ((i2 &&& (65535 : Int32)), I)
    else
      (isK Z a0 3).bind fun u46_1 =>
      (f43 kad N Z a0 ((1 : Int32) + (i3 / (8 : Int32))) (i3 - i3 / (8 : Int32) * (8 : Int32)) I).bind fun r46_2 =>
      f47_b26 kad N Z F a0 i1 (i2 + r46_2.1) (i3 + (1 : Int32)) r46_2.2
set_option maxRecDepth 20000 in
theorem Tf47_b26 {kad : Nat → Nat} {N : Nat} {Z : AZ} {d : Nat} {t : Option Nat × (Nat × Nat)} (hd : 1 ≤ d) : ∀ (F : Nat) (a0 : Nat) (i1 : Int32) (i2 : Int32) (i3 : Int32) (I : AI) (r : Int32 × AI), f47_b26 kad N Z F a0 i1 i2 i3 I = some r → aGo kad d 47 (26, ([(0, .ref a0), (1, .int i1), (2, .int i2), (3, .int i3)], [])) (aMem Z I, t) (qI Z t r) := by
  intro F
  induction F with
  | zero => intro a0 i1 i2 i3 I r h; cases h
  | succ F ih =>
    intro a0 i1 i2 i3 I r h
    unfold f47_b26 at h
    refine go_ops aMi47 4 _ (f1 := (31, ([(0, .ref a0), (1, .int i1), (2, .int i2), (3, .int i3)], [.int (i1 * (8 : Int32)), .int i3]))) rfl ?_
    refine gg_br (b := decide ((i1 * (8 : Int32)) ≤ i3)) (tg := 57) (off := 26) aMi47 rfl rfl rfl rfl (fun hb => ?_) (fun hb => ?_)
    · rw [if_pos (of_decide_eq_true hb)] at h
      refine go_ops aMi47 1 _ (f1 := (58, ([(0, .ref a0), (1, .int i1), (2, .int i2), (3, .int i3)], [.int i2]))) rfl ?_
      refine gg_kI (Or.inl ⟨rfl, rfl⟩) aMi47 rfl rfl ?_
      refine go_ops aMi47 1 _ (f1 := (61, ([(0, .ref a0), (1, .int i1), (2, .int i2), (3, .int i3)], [.int (i2 &&& (65535 : Int32))]))) rfl ?_
      cases h
      exact go_ret aMi47 rfl aRetI ⟨rfl, rfl⟩
    · rw [if_neg (of_decide_eq_false hb)] at h
      refine go_ops aMi47 10 _ (f1 := (46, ([(0, .ref a0), (1, .int i1), (2, .int i2), (3, .int i3)], [.int (i3 - i3 / (8 : Int32) * (8 : Int32)), .int ((1 : Int32) + (i3 / (8 : Int32))), .ref a0, .int i2]))) rfl ?_
      obtain ⟨u46_1, hxu46_1, h⟩ := Option.bind_eq_some_iff.mp h
      obtain ⟨r46_2, hxr46_2, h⟩ := Option.bind_eq_some_iff.mp h
      refine gg_cv (as := [.int ((1 : Int32) + (i3 / (8 : Int32))), .int (i3 - i3 / (8 : Int32) * (8 : Int32))]) (r := [.int i2]) aMi47 rfl rfl rfl aMi43 (Nat.le_of_ble_eq_true rfl) rfl (Nat.le_of_ble_eq_true rfl) (Nat.le_of_ble_eq_true rfl) (by omega) hxu46_1 (Tf43 (by omega) a0 ((1 : Int32) + (i3 / (8 : Int32))) (i3 - i3 / (8 : Int32) * (8 : Int32)) I _ hxr46_2) ?_
      show aGo kad d 47 (49, ([(0, .ref a0), (1, .int i1), (2, .int i2), (3, .int i3)], [.int r46_2.1, .int i2])) (aMem Z r46_2.2, t) _
      refine go_ops aMi47 4 _ (f1 := (26, ([(3, .int (i3 + (1 : Int32))), (2, .int (i2 + r46_2.1)), (0, .ref a0), (1, .int i1)], []))) rfl ?_
      refine go_le (lv1 := [(0, .ref a0), (1, .int i1), (2, .int (i2 + r46_2.1)), (3, .int (i3 + (1 : Int32)))]) (aLe_of (show (List.map (fun q => q.1) ([(0, .ref a0), (1, .int i1), (2, .int (i2 + r46_2.1)), (3, .int (i3 + (1 : Int32)))] : ALv)).Nodup from (by show ([0, 1, 2, 3] : List Nat).Nodup; decide)) (aSubL_cons rfl (aSubL_cons rfl (aSubL_cons rfl (aSubL_cons rfl aSubL_nil))))) ?_
      exact ih a0 i1 (i2 + r46_2.1) (i3 + (1 : Int32)) r46_2.2 _ h
def f47_b4 (kad : Nat → Nat) (N : Nat) (Z : AZ) : Nat → Nat → Int32 → Int32 → Int32 → AI → Option (Int32 × AI)
  | 0, _, _, _, _, _ => none
  | F + 1, a0, i1, i2, i3, I =>
    if (4 : Int32) ≤ i3 then
      f47_b26 kad N Z N a0 i1 i2 (0 : Int32) I
    else
      (isK Z a0 3).bind fun u13_1 =>
      (f43 kad N Z a0 (0 : Int32) i3 I).bind fun r13_2 =>
      f47_b4 kad N Z F a0 i1 (i2 + r13_2.1) (i3 + (1 : Int32)) r13_2.2
set_option maxRecDepth 20000 in
theorem Tf47_b4 {kad : Nat → Nat} {N : Nat} {Z : AZ} {d : Nat} {t : Option Nat × (Nat × Nat)} (hd : 1 ≤ d) : ∀ (F : Nat) (a0 : Nat) (i1 : Int32) (i2 : Int32) (i3 : Int32) (I : AI) (r : Int32 × AI), f47_b4 kad N Z F a0 i1 i2 i3 I = some r → aGo kad d 47 (4, ([(0, .ref a0), (1, .int i1), (2, .int i2), (3, .int i3)], [])) (aMem Z I, t) (qI Z t r) := by
  intro F
  induction F with
  | zero => intro a0 i1 i2 i3 I r h; cases h
  | succ F ih =>
    intro a0 i1 i2 i3 I r h
    unfold f47_b4 at h
    refine go_ops aMi47 2 _ (f1 := (6, ([(0, .ref a0), (1, .int i1), (2, .int i2), (3, .int i3)], [.int (4 : Int32), .int i3]))) rfl ?_
    refine gg_br (b := decide ((4 : Int32) ≤ i3)) (tg := 24) (off := 18) aMi47 rfl rfl rfl rfl (fun hb => ?_) (fun hb => ?_)
    · rw [if_pos (of_decide_eq_true hb)] at h
      refine go_ops aMi47 2 _ (f1 := (26, ([(3, .int (0 : Int32)), (0, .ref a0), (1, .int i1), (2, .int i2)], []))) rfl ?_
      refine go_le (lv1 := [(0, .ref a0), (1, .int i1), (2, .int i2), (3, .int (0 : Int32))]) (aLe_of (show (List.map (fun q => q.1) ([(0, .ref a0), (1, .int i1), (2, .int i2), (3, .int (0 : Int32))] : ALv)).Nodup from (by show ([0, 1, 2, 3] : List Nat).Nodup; decide)) (aSubL_cons rfl (aSubL_cons rfl (aSubL_cons rfl (aSubL_cons rfl aSubL_nil))))) ?_
      exact Tf47_b26 hd N a0 i1 i2 (0 : Int32) I _ h
    · rw [if_neg (of_decide_eq_false hb)] at h
      refine go_ops aMi47 4 _ (f1 := (13, ([(0, .ref a0), (1, .int i1), (2, .int i2), (3, .int i3)], [.int i3, .int (0 : Int32), .ref a0, .int i2]))) rfl ?_
      obtain ⟨u13_1, hxu13_1, h⟩ := Option.bind_eq_some_iff.mp h
      obtain ⟨r13_2, hxr13_2, h⟩ := Option.bind_eq_some_iff.mp h
      refine gg_cv (as := [.int (0 : Int32), .int i3]) (r := [.int i2]) aMi47 rfl rfl rfl aMi43 (Nat.le_of_ble_eq_true rfl) rfl (Nat.le_of_ble_eq_true rfl) (Nat.le_of_ble_eq_true rfl) (by omega) hxu13_1 (Tf43 (by omega) a0 (0 : Int32) i3 I _ hxr13_2) ?_
      show aGo kad d 47 (16, ([(0, .ref a0), (1, .int i1), (2, .int i2), (3, .int i3)], [.int r13_2.1, .int i2])) (aMem Z r13_2.2, t) _
      refine go_ops aMi47 4 _ (f1 := (4, ([(3, .int (i3 + (1 : Int32))), (2, .int (i2 + r13_2.1)), (0, .ref a0), (1, .int i1)], []))) rfl ?_
      refine go_le (lv1 := [(0, .ref a0), (1, .int i1), (2, .int (i2 + r13_2.1)), (3, .int (i3 + (1 : Int32)))]) (aLe_of (show (List.map (fun q => q.1) ([(0, .ref a0), (1, .int i1), (2, .int (i2 + r13_2.1)), (3, .int (i3 + (1 : Int32)))] : ALv)).Nodup from (by show ([0, 1, 2, 3] : List Nat).Nodup; decide)) (aSubL_cons rfl (aSubL_cons rfl (aSubL_cons rfl (aSubL_cons rfl aSubL_nil))))) ?_
      exact ih a0 i1 (i2 + r13_2.1) (i3 + (1 : Int32)) r13_2.2 _ h
def f47 (kad : Nat → Nat) (N : Nat) (Z : AZ) (a0 : Nat) (i1 : Int32) (I : AI) : Option (Int32 × AI) :=
  f47_b4 kad N Z N a0 i1 (0 : Int32) (0 : Int32) I
set_option maxRecDepth 20000 in
theorem Tf47 {kad : Nat → Nat} {N : Nat} {Z : AZ} {d : Nat} {t : Option Nat × (Nat × Nat)} (hd : 1 ≤ d) : ∀ (a0 : Nat) (i1 : Int32) (I : AI) (r : Int32 × AI), f47 kad N Z a0 i1 I = some r → aGo kad d 47 (0, ([(0, .ref a0), (1, .int i1)], [])) (aMem Z I, t) (qI Z t r) := by
  intro a0 i1 I r h
  unfold f47 at h
  refine go_ops aMi47 4 _ (f1 := (4, ([(3, .int (0 : Int32)), (2, .int (0 : Int32)), (0, .ref a0), (1, .int i1)], []))) rfl ?_
  refine go_le (lv1 := [(0, .ref a0), (1, .int i1), (2, .int (0 : Int32)), (3, .int (0 : Int32))]) (aLe_of (show (List.map (fun q => q.1) ([(0, .ref a0), (1, .int i1), (2, .int (0 : Int32)), (3, .int (0 : Int32))] : ALv)).Nodup from (by show ([0, 1, 2, 3] : List Nat).Nodup; decide)) (aSubL_cons rfl (aSubL_cons rfl (aSubL_cons rfl (aSubL_cons rfl aSubL_nil))))) ?_
  exact Tf47_b4 hd N a0 i1 (0 : Int32) (0 : Int32) I _ h
-- KernelGym$Disk.mend ()I
def f46_b75 (kad : Nat → Nat) (N : Nat) (Z : AZ) : Nat → Nat → Int32 → Int32 → AI → Option (Int32 × AI)
  | 0, _, _, _, _ => none
  | F + 1, a0, i2, i3, I =>
    if (8 : Int32) ≤ i3 then
      (gI Z I 3 1 a0).bind fun x98_1 =>
      (pI Z I 3 1 a0 (x98_1 + (1 : Int32))).bind fun I103_2 =>
      some (i2, I103_2)
    else
      (gR Z I 3 0 a0).bind fun b82_3 =>
      (sI Z I 100 b82_3 ((0 : Int32) + i3) (0 : Int32)).bind fun I89_4 =>
      f46_b75 kad N Z F a0 i2 (i3 + (1 : Int32)) I89_4
set_option maxRecDepth 20000 in
theorem Tf46_b75 {kad : Nat → Nat} {N : Nat} {Z : AZ} {d : Nat} {t : Option Nat × (Nat × Nat)} (hd : 2 ≤ d) : ∀ (F : Nat) (a0 : Nat) (i2 : Int32) (i3 : Int32) (I : AI) (r : Int32 × AI), f46_b75 kad N Z F a0 i2 i3 I = some r → aGo kad d 46 (75, ([(0, .ref a0), (2, .int i2), (3, .int i3)], [])) (aMem Z I, t) (qI Z t r) := by
  intro F
  induction F with
  | zero => intro a0 i2 i3 I r h; cases h
  | succ F ih =>
    intro a0 i2 i3 I r h
    unfold f46_b75 at h
    refine go_ops aMi46 2 _ (f1 := (78, ([(0, .ref a0), (2, .int i2), (3, .int i3)], [.int (8 : Int32), .int i3]))) rfl ?_
    refine gg_br (b := decide ((8 : Int32) ≤ i3)) (tg := 96) (off := 18) aMi46 rfl rfl rfl rfl (fun hb => ?_) (fun hb => ?_)
    · rw [if_pos (of_decide_eq_true hb)] at h
      refine go_ops aMi46 2 _ (f1 := (98, ([(0, .ref a0), (2, .int i2), (3, .int i3)], [.ref a0, .ref a0]))) rfl ?_
      obtain ⟨x98_1, hxx98_1, h⟩ := Option.bind_eq_some_iff.mp h
      refine gg_gI aMi46 rfl rfl rfl hxx98_1 ?_
      refine go_ops aMi46 2 _ (f1 := (103, ([(0, .ref a0), (2, .int i2), (3, .int i3)], [.int (x98_1 + (1 : Int32)), .ref a0]))) rfl ?_
      obtain ⟨I103_2, hxI103_2, h⟩ := Option.bind_eq_some_iff.mp h
      refine gg_pI aMi46 rfl rfl rfl rfl (by decide) hxI103_2 ?_
      refine go_ops aMi46 1 _ (f1 := (107, ([(0, .ref a0), (2, .int i2), (3, .int i3)], [.int i2]))) rfl ?_
      cases h
      exact go_ret aMi46 rfl aRetI ⟨rfl, rfl⟩
    · rw [if_neg (of_decide_eq_false hb)] at h
      refine go_ops aMi46 1 _ (f1 := (82, ([(0, .ref a0), (2, .int i2), (3, .int i3)], [.ref a0]))) rfl ?_
      obtain ⟨b82_3, hxb82_3, h⟩ := Option.bind_eq_some_iff.mp h
      refine gg_gR aMi46 rfl rfl rfl hxb82_3 ?_
      refine go_ops aMi46 4 _ (f1 := (89, ([(0, .ref a0), (2, .int i2), (3, .int i3)], [.int (0 : Int32), .int ((0 : Int32) + i3), .ref b82_3]))) rfl ?_
      obtain ⟨I89_4, hxI89_4, h⟩ := Option.bind_eq_some_iff.mp h
      refine gg_sI (Or.inl ⟨rfl, rfl⟩) aMi46 rfl hxI89_4 ?_
      refine go_ops aMi46 2 _ (f1 := (75, ([(3, .int (i3 + (1 : Int32))), (0, .ref a0), (2, .int i2)], []))) rfl ?_
      refine go_le (lv1 := [(0, .ref a0), (2, .int i2), (3, .int (i3 + (1 : Int32)))]) (aLe_of (show (List.map (fun q => q.1) ([(0, .ref a0), (2, .int i2), (3, .int (i3 + (1 : Int32)))] : ALv)).Nodup from (by show ([0, 2, 3] : List Nat).Nodup; decide)) (aSubL_cons rfl (aSubL_cons rfl (aSubL_cons rfl aSubL_nil)))) ?_
      exact ih a0 i2 (i3 + (1 : Int32)) I89_4 _ h
def f46_b73 (kad : Nat → Nat) (N : Nat) (Z : AZ) (a0 : Nat) (i2 : Int32) (I : AI) : Option (Int32 × AI) :=
  f46_b75 kad N Z N a0 i2 (0 : Int32) I
set_option maxRecDepth 20000 in
theorem Tf46_b73 {kad : Nat → Nat} {N : Nat} {Z : AZ} {d : Nat} {t : Option Nat × (Nat × Nat)} (hd : 2 ≤ d) : ∀ (a0 : Nat) (i2 : Int32) (I : AI) (r : Int32 × AI), f46_b73 kad N Z a0 i2 I = some r → aGo kad d 46 (73, ([(0, .ref a0), (2, .int i2)], [])) (aMem Z I, t) (qI Z t r) := by
  intro a0 i2 I r h
  unfold f46_b73 at h
  refine go_ops aMi46 2 _ (f1 := (75, ([(3, .int (0 : Int32)), (0, .ref a0), (2, .int i2)], []))) rfl ?_
  refine go_le (lv1 := [(0, .ref a0), (2, .int i2), (3, .int (0 : Int32))]) (aLe_of (show (List.map (fun q => q.1) ([(0, .ref a0), (2, .int i2), (3, .int (0 : Int32))] : ALv)).Nodup from (by show ([0, 2, 3] : List Nat).Nodup; decide)) (aSubL_cons rfl (aSubL_cons rfl (aSubL_cons rfl aSubL_nil)))) ?_
  exact Tf46_b75 hd N a0 i2 (0 : Int32) I _ h
def f46_b36 (kad : Nat → Nat) (N : Nat) (Z : AZ) : Nat → Nat → Int32 → Int32 → Int32 → AI → Option (Int32 × AI)
  | 0, _, _, _, _, _ => none
  | F + 1, a0, i1, i2, i3, I =>
    if i1 ≤ i3 then
      f46_b73 kad N Z a0 (i2 + i1) I
    else
      (isK Z a0 3).bind fun u47_1 =>
      (f43 kad N Z a0 (0 : Int32) ((1 : Int32) + i3) I).bind fun r47_2 =>
      (gR Z r47_2.2 3 0 a0).bind fun b51_3 =>
      (isK Z a0 3).bind fun u60_4 =>
      (f44 kad N Z a0 r47_2.1 b51_3 (((1 : Int32) + i3) * (8 : Int32)) r47_2.2).bind fun r60_5 =>
      f46_b36 kad N Z F a0 i1 i2 (i3 + (1 : Int32)) r60_5.2
set_option maxRecDepth 20000 in
theorem Tf46_b36 {kad : Nat → Nat} {N : Nat} {Z : AZ} {d : Nat} {t : Option Nat × (Nat × Nat)} (hd : 2 ≤ d) : ∀ (F : Nat) (a0 : Nat) (i1 : Int32) (i2 : Int32) (i3 : Int32) (I : AI) (r : Int32 × AI), f46_b36 kad N Z F a0 i1 i2 i3 I = some r → aGo kad d 46 (36, ([(0, .ref a0), (1, .int i1), (2, .int i2), (3, .int i3)], [])) (aMem Z I, t) (qI Z t r) := by
  intro F
  induction F with
  | zero => intro a0 i1 i2 i3 I r h; cases h
  | succ F ih =>
    intro a0 i1 i2 i3 I r h
    unfold f46_b36 at h
    refine go_ops aMi46 2 _ (f1 := (38, ([(0, .ref a0), (1, .int i1), (2, .int i2), (3, .int i3)], [.int i1, .int i3]))) rfl ?_
    refine gg_br (b := decide (i1 ≤ i3)) (tg := 69) (off := 31) aMi46 rfl rfl rfl rfl (fun hb => ?_) (fun hb => ?_)
    · rw [if_pos (of_decide_eq_true hb)] at h
      refine go_ops aMi46 4 _ (f1 := (73, ([(2, .int (i2 + i1)), (0, .ref a0), (1, .int i1), (3, .int i3)], []))) rfl ?_
      refine go_le (lv1 := [(0, .ref a0), (2, .int (i2 + i1))]) (aLe_of (show (List.map (fun q => q.1) ([(0, .ref a0), (2, .int (i2 + i1))] : ALv)).Nodup from (by show ([0, 2] : List Nat).Nodup; decide)) (aSubL_cons rfl (aSubL_cons rfl aSubL_nil))) ?_
      exact Tf46_b73 hd a0 (i2 + i1) I _ h
    · rw [if_neg (of_decide_eq_false hb)] at h
      refine go_ops aMi46 6 _ (f1 := (47, ([(0, .ref a0), (1, .int i1), (2, .int i2), (3, .int i3)], [.int ((1 : Int32) + i3), .int (0 : Int32), .ref a0, .ref a0]))) rfl ?_
      obtain ⟨u47_1, hxu47_1, h⟩ := Option.bind_eq_some_iff.mp h
      obtain ⟨r47_2, hxr47_2, h⟩ := Option.bind_eq_some_iff.mp h
      refine gg_cv (as := [.int (0 : Int32), .int ((1 : Int32) + i3)]) (r := [.ref a0]) aMi46 rfl rfl rfl aMi43 (Nat.le_of_ble_eq_true rfl) rfl (Nat.le_of_ble_eq_true rfl) (Nat.le_of_ble_eq_true rfl) (by omega) hxu47_1 (Tf43 (by omega) a0 (0 : Int32) ((1 : Int32) + i3) I _ hxr47_2) ?_
      show aGo kad d 46 (50, ([(0, .ref a0), (1, .int i1), (2, .int i2), (3, .int i3)], [.int r47_2.1, .ref a0])) (aMem Z r47_2.2, t) _
      refine go_ops aMi46 1 _ (f1 := (51, ([(0, .ref a0), (1, .int i1), (2, .int i2), (3, .int i3)], [.ref a0, .int r47_2.1, .ref a0]))) rfl ?_
      obtain ⟨b51_3, hxb51_3, h⟩ := Option.bind_eq_some_iff.mp h
      refine gg_gR aMi46 rfl rfl rfl hxb51_3 ?_
      refine go_ops aMi46 5 _ (f1 := (60, ([(0, .ref a0), (1, .int i1), (2, .int i2), (3, .int i3)], [.int (((1 : Int32) + i3) * (8 : Int32)), .ref b51_3, .int r47_2.1, .ref a0]))) rfl ?_
      obtain ⟨u60_4, hxu60_4, h⟩ := Option.bind_eq_some_iff.mp h
      obtain ⟨r60_5, hxr60_5, h⟩ := Option.bind_eq_some_iff.mp h
      refine gg_cv (as := [.int r47_2.1, .ref b51_3, .int (((1 : Int32) + i3) * (8 : Int32))]) (r := []) aMi46 rfl rfl rfl aMi44 (Nat.le_of_ble_eq_true rfl) rfl (Nat.le_of_ble_eq_true rfl) (Nat.le_of_ble_eq_true rfl) (by omega) hxu60_4 (Tf44 (by omega) a0 r47_2.1 b51_3 (((1 : Int32) + i3) * (8 : Int32)) r47_2.2 _ hxr60_5) ?_
      show aGo kad d 46 (63, ([(0, .ref a0), (1, .int i1), (2, .int i2), (3, .int i3)], [])) (aMem Z r60_5.2, t) _
      refine go_ops aMi46 2 _ (f1 := (36, ([(3, .int (i3 + (1 : Int32))), (0, .ref a0), (1, .int i1), (2, .int i2)], []))) rfl ?_
      refine go_le (lv1 := [(0, .ref a0), (1, .int i1), (2, .int i2), (3, .int (i3 + (1 : Int32)))]) (aLe_of (show (List.map (fun q => q.1) ([(0, .ref a0), (1, .int i1), (2, .int i2), (3, .int (i3 + (1 : Int32)))] : ALv)).Nodup from (by show ([0, 1, 2, 3] : List Nat).Nodup; decide)) (aSubL_cons rfl (aSubL_cons rfl (aSubL_cons rfl (aSubL_cons rfl aSubL_nil))))) ?_
      exact ih a0 i1 i2 (i3 + (1 : Int32)) r60_5.2 _ h
def f46 (kad : Nat → Nat) (N : Nat) (Z : AZ) (a0 : Nat) (I : AI) : Option (Int32 × AI) :=
  (isK Z a0 3).bind fun u3_1 =>
  (f43 kad N Z a0 (0 : Int32) (0 : Int32) I).bind fun r3_2 =>
  if ¬ r3_2.1 = 0 then
    if (3 : Int32) < r3_2.1 then
      f46_b73 kad N Z a0 (1 : Int32) r3_2.2
    else
      (isK Z a0 3).bind fun u23_3 =>
      (f43 kad N Z a0 (0 : Int32) (4 : Int32) r3_2.2).bind fun r23_4 =>
      (isK Z a0 3).bind fun u28_5 =>
      (f47 kad N Z a0 r3_2.1 r23_4.2).bind fun r28_6 =>
      if ¬ r23_4.1 = r28_6.1 then
        f46_b73 kad N Z a0 (1 : Int32) r28_6.2
      else
        f46_b36 kad N Z N a0 r3_2.1 (1 : Int32) (0 : Int32) r28_6.2
  else
    some ((0 : Int32), r3_2.2)
set_option maxRecDepth 20000 in
theorem Tf46 {kad : Nat → Nat} {N : Nat} {Z : AZ} {d : Nat} {t : Option Nat × (Nat × Nat)} (hd : 2 ≤ d) : ∀ (a0 : Nat) (I : AI) (r : Int32 × AI), f46 kad N Z a0 I = some r → aGo kad d 46 (0, ([(0, .ref a0)], [])) (aMem Z I, t) (qI Z t r) := by
  intro a0 I r h
  unfold f46 at h
  refine go_ops aMi46 3 _ (f1 := (3, ([(0, .ref a0)], [.int (0 : Int32), .int (0 : Int32), .ref a0]))) rfl ?_
  obtain ⟨u3_1, hxu3_1, h⟩ := Option.bind_eq_some_iff.mp h
  obtain ⟨r3_2, hxr3_2, h⟩ := Option.bind_eq_some_iff.mp h
  refine gg_cv (as := [.int (0 : Int32), .int (0 : Int32)]) (r := []) aMi46 rfl rfl rfl aMi43 (Nat.le_of_ble_eq_true rfl) rfl (Nat.le_of_ble_eq_true rfl) (Nat.le_of_ble_eq_true rfl) (by omega) hxu3_1 (Tf43 (by omega) a0 (0 : Int32) (0 : Int32) I _ hxr3_2) ?_
  show aGo kad d 46 (6, ([(0, .ref a0)], [.int r3_2.1])) (aMem Z r3_2.2, t) _
  refine go_ops aMi46 2 _ (f1 := (8, ([(1, .int r3_2.1), (0, .ref a0)], [.int r3_2.1]))) rfl ?_
  refine gg_br (b := decide (¬ r3_2.1 = 0)) (tg := 13) (off := 5) aMi46 rfl rfl rfl rfl (fun hb => ?_) (fun hb => ?_)
  · rw [if_pos (of_decide_eq_true hb)] at h
    refine go_ops aMi46 4 _ (f1 := (17, ([(2, .int (1 : Int32)), (1, .int r3_2.1), (0, .ref a0)], [.int (3 : Int32), .int r3_2.1]))) rfl ?_
    refine gg_br (b := decide ((3 : Int32) < r3_2.1)) (tg := 73) (off := 56) aMi46 rfl rfl rfl rfl (fun hb => ?_) (fun hb => ?_)
    · rw [if_pos (of_decide_eq_true hb)] at h
      refine go_le (lv1 := [(0, .ref a0), (2, .int (1 : Int32))]) (aLe_of (show (List.map (fun q => q.1) ([(0, .ref a0), (2, .int (1 : Int32))] : ALv)).Nodup from (by show ([0, 2] : List Nat).Nodup; decide)) (aSubL_cons rfl (aSubL_cons rfl aSubL_nil))) ?_
      exact Tf46_b73 hd a0 (1 : Int32) r3_2.2 _ h
    · rw [if_neg (of_decide_eq_false hb)] at h
      refine go_ops aMi46 3 _ (f1 := (23, ([(2, .int (1 : Int32)), (1, .int r3_2.1), (0, .ref a0)], [.int (4 : Int32), .int (0 : Int32), .ref a0]))) rfl ?_
      obtain ⟨u23_3, hxu23_3, h⟩ := Option.bind_eq_some_iff.mp h
      obtain ⟨r23_4, hxr23_4, h⟩ := Option.bind_eq_some_iff.mp h
      refine gg_cv (as := [.int (0 : Int32), .int (4 : Int32)]) (r := []) aMi46 rfl rfl rfl aMi43 (Nat.le_of_ble_eq_true rfl) rfl (Nat.le_of_ble_eq_true rfl) (Nat.le_of_ble_eq_true rfl) (by omega) hxu23_3 (Tf43 (by omega) a0 (0 : Int32) (4 : Int32) r3_2.2 _ hxr23_4) ?_
      show aGo kad d 46 (26, ([(2, .int (1 : Int32)), (1, .int r3_2.1), (0, .ref a0)], [.int r23_4.1])) (aMem Z r23_4.2, t) _
      refine go_ops aMi46 2 _ (f1 := (28, ([(2, .int (1 : Int32)), (1, .int r3_2.1), (0, .ref a0)], [.int r3_2.1, .ref a0, .int r23_4.1]))) rfl ?_
      obtain ⟨u28_5, hxu28_5, h⟩ := Option.bind_eq_some_iff.mp h
      obtain ⟨r28_6, hxr28_6, h⟩ := Option.bind_eq_some_iff.mp h
      refine gg_cv (as := [.int r3_2.1]) (r := [.int r23_4.1]) aMi46 rfl rfl rfl aMi47 (Nat.le_of_ble_eq_true rfl) rfl (Nat.le_of_ble_eq_true rfl) (Nat.le_of_ble_eq_true rfl) (by omega) hxu28_5 (Tf47 (by omega) a0 r3_2.1 r23_4.2 _ hxr28_6) ?_
      show aGo kad d 46 (31, ([(2, .int (1 : Int32)), (1, .int r3_2.1), (0, .ref a0)], [.int r28_6.1, .int r23_4.1])) (aMem Z r28_6.2, t) _
      refine gg_br (b := decide (¬ r23_4.1 = r28_6.1)) (tg := 73) (off := 42) aMi46 rfl rfl rfl rfl (fun hb => ?_) (fun hb => ?_)
      · rw [if_pos (of_decide_eq_true hb)] at h
        refine go_le (lv1 := [(0, .ref a0), (2, .int (1 : Int32))]) (aLe_of (show (List.map (fun q => q.1) ([(0, .ref a0), (2, .int (1 : Int32))] : ALv)).Nodup from (by show ([0, 2] : List Nat).Nodup; decide)) (aSubL_cons rfl (aSubL_cons rfl aSubL_nil))) ?_
        exact Tf46_b73 hd a0 (1 : Int32) r28_6.2 _ h
      · rw [if_neg (of_decide_eq_false hb)] at h
        refine go_ops aMi46 2 _ (f1 := (36, ([(3, .int (0 : Int32)), (2, .int (1 : Int32)), (1, .int r3_2.1), (0, .ref a0)], []))) rfl ?_
        refine go_le (lv1 := [(0, .ref a0), (1, .int r3_2.1), (2, .int (1 : Int32)), (3, .int (0 : Int32))]) (aLe_of (show (List.map (fun q => q.1) ([(0, .ref a0), (1, .int r3_2.1), (2, .int (1 : Int32)), (3, .int (0 : Int32))] : ALv)).Nodup from (by show ([0, 1, 2, 3] : List Nat).Nodup; decide)) (aSubL_cons rfl (aSubL_cons rfl (aSubL_cons rfl (aSubL_cons rfl aSubL_nil))))) ?_
        exact Tf46_b36 hd N a0 r3_2.1 (1 : Int32) (0 : Int32) r28_6.2 _ h
  · rw [if_neg (of_decide_eq_false hb)] at h
    refine go_ops aMi46 1 _ (f1 := (12, ([(1, .int r3_2.1), (0, .ref a0)], [.int (0 : Int32)]))) rfl ?_
    cases h
    exact go_ret aMi46 rfl aRetI ⟨rfl, rfl⟩
-- KernelGym$Disk.countFiles ()I
def f52_b22 (kad : Nat → Nat) (N : Nat) (Z : AZ) (k4 : Nat → Int32 → Int32 → AI → Option (Int32 × AI)) (a0 : Nat) (i1 : Int32) (i2 : Int32) (I : AI) : Option (Int32 × AI) :=
  k4 a0 i1 (i2 + (1 : Int32)) I
set_option maxRecDepth 20000 in
theorem Tf52_b22 {kad : Nat → Nat} {N : Nat} {Z : AZ} {d : Nat} {t : Option Nat × (Nat × Nat)} (hd : 2 ≤ d) (k4 : Nat → Int32 → Int32 → AI → Option (Int32 × AI))  (hk4 : ∀ (a0 : Nat) (i1 : Int32) (i2 : Int32)  (I : AI) (r : Int32 × AI), k4 a0 i1 i2 I = some r → aGo kad d 52 (4, ([(0, .ref a0), (1, .int i1), (2, .int i2)], [])) (aMem Z I, t) (qI Z t r)) : ∀ (a0 : Nat) (i1 : Int32) (i2 : Int32) (I : AI) (r : Int32 × AI), f52_b22 kad N Z k4 a0 i1 i2 I = some r → aGo kad d 52 (22, ([(0, .ref a0), (1, .int i1), (2, .int i2)], [])) (aMem Z I, t) (qI Z t r) := by
  intro a0 i1 i2 I r h
  unfold f52_b22 at h
  refine go_ops aMi52 2 _ (f1 := (4, ([(2, .int (i2 + (1 : Int32))), (0, .ref a0), (1, .int i1)], []))) rfl ?_
  refine go_le (lv1 := [(0, .ref a0), (1, .int i1), (2, .int (i2 + (1 : Int32)))]) (aLe_of (show (List.map (fun q => q.1) ([(0, .ref a0), (1, .int i1), (2, .int (i2 + (1 : Int32)))] : ALv)).Nodup from (by show ([0, 1, 2] : List Nat).Nodup; decide)) (aSubL_cons rfl (aSubL_cons rfl (aSubL_cons rfl aSubL_nil)))) ?_
  exact hk4 a0 i1 (i2 + (1 : Int32)) I _ h
def f52_b4 (kad : Nat → Nat) (N : Nat) (Z : AZ) : Nat → Nat → Int32 → Int32 → AI → Option (Int32 × AI)
  | 0, _, _, _, _ => none
  | F + 1, a0, i1, i2, I =>
    if (6 : Int32) ≤ i2 then
      some (i1, I)
    else
      (isK Z a0 3).bind fun u13_1 =>
      (f50 kad N Z a0 i2 (0 : Int32) I).bind fun r13_2 =>
      if r13_2.1 = 0 then
        f52_b22 kad N Z (fun p0 p1 p2 I => f52_b4 kad N Z F p0 p1 p2 I) a0 i1 i2 r13_2.2
      else
        f52_b22 kad N Z (fun p0 p1 p2 I => f52_b4 kad N Z F p0 p1 p2 I) a0 (i1 + (1 : Int32)) i2 r13_2.2
set_option maxRecDepth 20000 in
theorem Tf52_b4 {kad : Nat → Nat} {N : Nat} {Z : AZ} {d : Nat} {t : Option Nat × (Nat × Nat)} (hd : 2 ≤ d) : ∀ (F : Nat) (a0 : Nat) (i1 : Int32) (i2 : Int32) (I : AI) (r : Int32 × AI), f52_b4 kad N Z F a0 i1 i2 I = some r → aGo kad d 52 (4, ([(0, .ref a0), (1, .int i1), (2, .int i2)], [])) (aMem Z I, t) (qI Z t r) := by
  intro F
  induction F with
  | zero => intro a0 i1 i2 I r h; cases h
  | succ F ih =>
    intro a0 i1 i2 I r h
    unfold f52_b4 at h
    refine go_ops aMi52 2 _ (f1 := (7, ([(0, .ref a0), (1, .int i1), (2, .int i2)], [.int (6 : Int32), .int i2]))) rfl ?_
    refine gg_br (b := decide ((6 : Int32) ≤ i2)) (tg := 28) (off := 21) aMi52 rfl rfl rfl rfl (fun hb => ?_) (fun hb => ?_)
    · rw [if_pos (of_decide_eq_true hb)] at h
      refine go_ops aMi52 1 _ (f1 := (29, ([(0, .ref a0), (1, .int i1), (2, .int i2)], [.int i1]))) rfl ?_
      cases h
      exact go_ret aMi52 rfl aRetI ⟨rfl, rfl⟩
    · rw [if_neg (of_decide_eq_false hb)] at h
      refine go_ops aMi52 3 _ (f1 := (13, ([(0, .ref a0), (1, .int i1), (2, .int i2)], [.int (0 : Int32), .int i2, .ref a0]))) rfl ?_
      obtain ⟨u13_1, hxu13_1, h⟩ := Option.bind_eq_some_iff.mp h
      obtain ⟨r13_2, hxr13_2, h⟩ := Option.bind_eq_some_iff.mp h
      refine gg_cv (as := [.int i2, .int (0 : Int32)]) (r := []) aMi52 rfl rfl rfl aMi50 (Nat.le_of_ble_eq_true rfl) rfl (Nat.le_of_ble_eq_true rfl) (Nat.le_of_ble_eq_true rfl) (by omega) hxu13_1 (Tf50 (by omega) a0 i2 (0 : Int32) I _ hxr13_2) ?_
      show aGo kad d 52 (16, ([(0, .ref a0), (1, .int i1), (2, .int i2)], [.int r13_2.1])) (aMem Z r13_2.2, t) _
      refine gg_br (b := decide (r13_2.1 = 0)) (tg := 22) (off := 6) aMi52 rfl rfl rfl rfl (fun hb => ?_) (fun hb => ?_)
      · rw [if_pos (of_decide_eq_true hb)] at h
        exact Tf52_b22 hd (fun p0 p1 p2 I => f52_b4 kad N Z F p0 p1 p2 I) (fun p0 p1 p2 I r hh => ih p0 p1 p2 I r hh) a0 i1 i2 r13_2.2 _ h
      · rw [if_neg (of_decide_eq_false hb)] at h
        refine go_ops aMi52 1 _ (f1 := (22, ([(1, .int (i1 + (1 : Int32))), (0, .ref a0), (2, .int i2)], []))) rfl ?_
        refine go_le (lv1 := [(0, .ref a0), (1, .int (i1 + (1 : Int32))), (2, .int i2)]) (aLe_of (show (List.map (fun q => q.1) ([(0, .ref a0), (1, .int (i1 + (1 : Int32))), (2, .int i2)] : ALv)).Nodup from (by show ([0, 1, 2] : List Nat).Nodup; decide)) (aSubL_cons rfl (aSubL_cons rfl (aSubL_cons rfl aSubL_nil)))) ?_
        exact Tf52_b22 hd (fun p0 p1 p2 I => f52_b4 kad N Z F p0 p1 p2 I) (fun p0 p1 p2 I r hh => ih p0 p1 p2 I r hh) a0 (i1 + (1 : Int32)) i2 r13_2.2 _ h
def f52 (kad : Nat → Nat) (N : Nat) (Z : AZ) (a0 : Nat) (I : AI) : Option (Int32 × AI) :=
  f52_b4 kad N Z N a0 (0 : Int32) (0 : Int32) I
set_option maxRecDepth 20000 in
theorem Tf52 {kad : Nat → Nat} {N : Nat} {Z : AZ} {d : Nat} {t : Option Nat × (Nat × Nat)} (hd : 2 ≤ d) : ∀ (a0 : Nat) (I : AI) (r : Int32 × AI), f52 kad N Z a0 I = some r → aGo kad d 52 (0, ([(0, .ref a0)], [])) (aMem Z I, t) (qI Z t r) := by
  intro a0 I r h
  unfold f52 at h
  refine go_ops aMi52 4 _ (f1 := (4, ([(2, .int (0 : Int32)), (1, .int (0 : Int32)), (0, .ref a0)], []))) rfl ?_
  refine go_le (lv1 := [(0, .ref a0), (1, .int (0 : Int32)), (2, .int (0 : Int32))]) (aLe_of (show (List.map (fun q => q.1) ([(0, .ref a0), (1, .int (0 : Int32)), (2, .int (0 : Int32))] : ALv)).Nodup from (by show ([0, 1, 2] : List Nat).Nodup; decide)) (aSubL_cons rfl (aSubL_cons rfl (aSubL_cons rfl aSubL_nil)))) ?_
  exact Tf52_b4 hd N a0 (0 : Int32) (0 : Int32) I _ h
-- KernelGym$Disk.countFreeBlocks ()I
def f57_b32 (kad : Nat → Nat) (N : Nat) (Z : AZ) (k11 : Int64 → Int32 → Int32 → AI → Option (Int32 × AI)) (l1 : Int64) (i3 : Int32) (i4 : Int32) (I : AI) : Option (Int32 × AI) :=
  k11 l1 i3 (i4 + (1 : Int32)) I
set_option maxRecDepth 20000 in
theorem Tf57_b32 {kad : Nat → Nat} {N : Nat} {Z : AZ} {d : Nat} {t : Option Nat × (Nat × Nat)} (hd : 2 ≤ d) (k11 : Int64 → Int32 → Int32 → AI → Option (Int32 × AI))  (hk11 : ∀ (l1 : Int64) (i3 : Int32) (i4 : Int32)  (I : AI) (r : Int32 × AI), k11 l1 i3 i4 I = some r → aGo kad d 57 (11, ([(1, .long l1), (3, .int i3), (4, .int i4)], [])) (aMem Z I, t) (qI Z t r)) : ∀ (l1 : Int64) (i3 : Int32) (i4 : Int32) (I : AI) (r : Int32 × AI), f57_b32 kad N Z k11 l1 i3 i4 I = some r → aGo kad d 57 (32, ([(1, .long l1), (3, .int i3), (4, .int i4)], [])) (aMem Z I, t) (qI Z t r) := by
  intro l1 i3 i4 I r h
  unfold f57_b32 at h
  refine go_ops aMi57 2 _ (f1 := (11, ([(4, .int (i4 + (1 : Int32))), (1, .long l1), (3, .int i3)], []))) rfl ?_
  refine go_le (lv1 := [(1, .long l1), (3, .int i3), (4, .int (i4 + (1 : Int32)))]) (aLe_of (show (List.map (fun q => q.1) ([(1, .long l1), (3, .int i3), (4, .int (i4 + (1 : Int32)))] : ALv)).Nodup from (by show ([1, 3, 4] : List Nat).Nodup; decide)) (aSubL_cons rfl (aSubL_cons rfl (aSubL_cons rfl aSubL_nil)))) ?_
  exact hk11 l1 i3 (i4 + (1 : Int32)) I _ h
def f57_b11 (kad : Nat → Nat) (N : Nat) (Z : AZ) : Nat → Int64 → Int32 → Int32 → AI → Option (Int32 × AI)
  | 0, _, _, _, _ => none
  | F + 1, l1, i3, i4, I =>
    if (32 : Int32) ≤ i4 then
      some (i3, I)
    else
      if ¬ (lg_cmp ((l1 >>> (i4.toInt64 &&& 63)) &&& (1 : Int64)) (0 : Int64)) = 0 then
        f57_b32 kad N Z (fun p0 p1 p2 I => f57_b11 kad N Z F p0 p1 p2 I) l1 i3 i4 I
      else
        f57_b32 kad N Z (fun p0 p1 p2 I => f57_b11 kad N Z F p0 p1 p2 I) l1 (i3 + (1 : Int32)) i4 I
set_option maxRecDepth 20000 in
theorem Tf57_b11 {kad : Nat → Nat} {N : Nat} {Z : AZ} {d : Nat} {t : Option Nat × (Nat × Nat)} (hd : 2 ≤ d) : ∀ (F : Nat) (l1 : Int64) (i3 : Int32) (i4 : Int32) (I : AI) (r : Int32 × AI), f57_b11 kad N Z F l1 i3 i4 I = some r → aGo kad d 57 (11, ([(1, .long l1), (3, .int i3), (4, .int i4)], [])) (aMem Z I, t) (qI Z t r) := by
  intro F
  induction F with
  | zero => intro l1 i3 i4 I r h; cases h
  | succ F ih =>
    intro l1 i3 i4 I r h
    unfold f57_b11 at h
    refine go_ops aMi57 2 _ (f1 := (15, ([(1, .long l1), (3, .int i3), (4, .int i4)], [.int (32 : Int32), .int i4]))) rfl ?_
    refine gg_br (b := decide ((32 : Int32) ≤ i4)) (tg := 38) (off := 23) aMi57 rfl rfl rfl rfl (fun hb => ?_) (fun hb => ?_)
    · rw [if_pos (of_decide_eq_true hb)] at h
      refine go_ops aMi57 1 _ (f1 := (39, ([(1, .long l1), (3, .int i3), (4, .int i4)], [.int i3]))) rfl ?_
      cases h
      exact go_ret aMi57 rfl aRetI ⟨rfl, rfl⟩
    · rw [if_neg (of_decide_eq_false hb)] at h
      refine go_ops aMi57 7 _ (f1 := (26, ([(1, .long l1), (3, .int i3), (4, .int i4)], [.int (lg_cmp ((l1 >>> (i4.toInt64 &&& 63)) &&& (1 : Int64)) (0 : Int64))]))) rfl ?_
      refine gg_br (b := decide (¬ (lg_cmp ((l1 >>> (i4.toInt64 &&& 63)) &&& (1 : Int64)) (0 : Int64)) = 0)) (tg := 32) (off := 6) aMi57 rfl rfl rfl rfl (fun hb => ?_) (fun hb => ?_)
      · rw [if_pos (of_decide_eq_true hb)] at h
        exact Tf57_b32 hd (fun p0 p1 p2 I => f57_b11 kad N Z F p0 p1 p2 I) (fun p0 p1 p2 I r hh => ih p0 p1 p2 I r hh) l1 i3 i4 I _ h
      · rw [if_neg (of_decide_eq_false hb)] at h
        refine go_ops aMi57 1 _ (f1 := (32, ([(3, .int (i3 + (1 : Int32))), (1, .long l1), (4, .int i4)], []))) rfl ?_
        refine go_le (lv1 := [(1, .long l1), (3, .int (i3 + (1 : Int32))), (4, .int i4)]) (aLe_of (show (List.map (fun q => q.1) ([(1, .long l1), (3, .int (i3 + (1 : Int32))), (4, .int i4)] : ALv)).Nodup from (by show ([1, 3, 4] : List Nat).Nodup; decide)) (aSubL_cons rfl (aSubL_cons rfl (aSubL_cons rfl aSubL_nil)))) ?_
        exact Tf57_b32 hd (fun p0 p1 p2 I => f57_b11 kad N Z F p0 p1 p2 I) (fun p0 p1 p2 I r hh => ih p0 p1 p2 I r hh) l1 (i3 + (1 : Int32)) i4 I _ h
def f57 (kad : Nat → Nat) (N : Nat) (Z : AZ) (a0 : Nat) (I : AI) : Option (Int32 × AI) :=
  (isK Z a0 3).bind fun u1_1 =>
  (f55 kad N Z a0 I).bind fun r1_2 =>
  f57_b11 kad N Z N r1_2.1 (0 : Int32) (8 : Int32) r1_2.2
set_option maxRecDepth 20000 in
theorem Tf57 {kad : Nat → Nat} {N : Nat} {Z : AZ} {d : Nat} {t : Option Nat × (Nat × Nat)} (hd : 2 ≤ d) : ∀ (a0 : Nat) (I : AI) (r : Int32 × AI), f57 kad N Z a0 I = some r → aGo kad d 57 (0, ([(0, .ref a0)], [])) (aMem Z I, t) (qI Z t r) := by
  intro a0 I r h
  unfold f57 at h
  refine go_ops aMi57 1 _ (f1 := (1, ([(0, .ref a0)], [.ref a0]))) rfl ?_
  obtain ⟨u1_1, hxu1_1, h⟩ := Option.bind_eq_some_iff.mp h
  obtain ⟨r1_2, hxr1_2, h⟩ := Option.bind_eq_some_iff.mp h
  refine gg_cv (as := []) (r := []) aMi57 rfl rfl rfl aMi55 (Nat.le_of_ble_eq_true rfl) rfl (Nat.le_of_ble_eq_true rfl) (Nat.le_of_ble_eq_true rfl) (by omega) hxu1_1 (Tf55 (by omega) a0 I _ hxr1_2) ?_
  show aGo kad d 57 (4, ([(0, .ref a0)], [.long r1_2.1])) (aMem Z r1_2.2, t) _
  refine go_ops aMi57 5 _ (f1 := (11, ([(4, .int (8 : Int32)), (3, .int (0 : Int32)), (1, .long r1_2.1), (0, .ref a0)], []))) rfl ?_
  refine go_le (lv1 := [(1, .long r1_2.1), (3, .int (0 : Int32)), (4, .int (8 : Int32))]) (aLe_of (show (List.map (fun q => q.1) ([(1, .long r1_2.1), (3, .int (0 : Int32)), (4, .int (8 : Int32))] : ALv)).Nodup from (by show ([1, 3, 4] : List Nat).Nodup; decide)) (aSubL_cons rfl (aSubL_cons rfl (aSubL_cons rfl aSubL_nil)))) ?_
  exact Tf57_b11 hd N r1_2.1 (0 : Int32) (8 : Int32) r1_2.2 _ h
-- KernelGym$Disk.isSoundEntry (I)Z
def f59_b53 (kad : Nat → Nat) (N : Nat) (Z : AZ) (s0 : Int32) (I : AI) : Option (Int32 × AI) :=
  if s0 = 0 ∨ s0 = 1 then some (s0, I) else none
set_option maxRecDepth 20000 in
theorem Tf59_b53 {kad : Nat → Nat} {N : Nat} {Z : AZ} {d : Nat} {t : Option Nat × (Nat × Nat)} (hd : 3 ≤ d) : ∀ (s0 : Int32) (I : AI) (r : Int32 × AI), f59_b53 kad N Z s0 I = some r → aGo kad d 59 (53, ([], [.int s0])) (aMem Z I, t) (qI Z t r) := by
  intro s0 I r h
  unfold f59_b53 at h
  split at h
  · rename_i hz
    cases h
    exact go_ret aMi59 rfl (aRetZ hz) ⟨rfl, rfl⟩
  · cases h
def f59_b52 (kad : Nat → Nat) (N : Nat) (Z : AZ)  (I : AI) : Option (Int32 × AI) :=
  f59_b53 kad N Z (0 : Int32) I
set_option maxRecDepth 20000 in
theorem Tf59_b52 {kad : Nat → Nat} {N : Nat} {Z : AZ} {d : Nat} {t : Option Nat × (Nat × Nat)} (hd : 3 ≤ d) : ∀  (I : AI) (r : Int32 × AI), f59_b52 kad N Z  I = some r → aGo kad d 59 (52, ([], [])) (aMem Z I, t) (qI Z t r) := by
  intro  I r h
  unfold f59_b52 at h
  refine go_ops aMi59 1 _ (f1 := (53, ([], [.int (0 : Int32)]))) rfl ?_
  exact Tf59_b53 hd (0 : Int32) I _ h
def f59_b120 (kad : Nat → Nat) (N : Nat) (Z : AZ) (s0 : Int32) (I : AI) : Option (Int32 × AI) :=
  if s0 = 0 ∨ s0 = 1 then some (s0, I) else none
set_option maxRecDepth 20000 in
theorem Tf59_b120 {kad : Nat → Nat} {N : Nat} {Z : AZ} {d : Nat} {t : Option Nat × (Nat × Nat)} (hd : 3 ≤ d) : ∀ (s0 : Int32) (I : AI) (r : Int32 × AI), f59_b120 kad N Z s0 I = some r → aGo kad d 59 (120, ([], [.int s0])) (aMem Z I, t) (qI Z t r) := by
  intro s0 I r h
  unfold f59_b120 at h
  split at h
  · rename_i hz
    cases h
    exact go_ret aMi59 rfl (aRetZ hz) ⟨rfl, rfl⟩
  · cases h
def f59_b119 (kad : Nat → Nat) (N : Nat) (Z : AZ)  (I : AI) : Option (Int32 × AI) :=
  f59_b120 kad N Z (0 : Int32) I
set_option maxRecDepth 20000 in
theorem Tf59_b119 {kad : Nat → Nat} {N : Nat} {Z : AZ} {d : Nat} {t : Option Nat × (Nat × Nat)} (hd : 3 ≤ d) : ∀  (I : AI) (r : Int32 × AI), f59_b119 kad N Z  I = some r → aGo kad d 59 (119, ([], [])) (aMem Z I, t) (qI Z t r) := by
  intro  I r h
  unfold f59_b119 at h
  refine go_ops aMi59 1 _ (f1 := (120, ([], [.int (0 : Int32)]))) rfl ?_
  exact Tf59_b120 hd (0 : Int32) I _ h
def f59_b112 (kad : Nat → Nat) (N : Nat) (Z : AZ) (s0 : Int32) (s1 : Int32) (I : AI) : Option (Int32 × AI) :=
  if ¬ s1 = s0 then
    f59_b119 kad N Z  I
  else
    f59_b120 kad N Z (1 : Int32) I
set_option maxRecDepth 20000 in
theorem Tf59_b112 {kad : Nat → Nat} {N : Nat} {Z : AZ} {d : Nat} {t : Option Nat × (Nat × Nat)} (hd : 3 ≤ d) : ∀ (s0 : Int32) (s1 : Int32) (I : AI) (r : Int32 × AI), f59_b112 kad N Z s0 s1 I = some r → aGo kad d 59 (112, ([], [.int s0, .int s1])) (aMem Z I, t) (qI Z t r) := by
  intro s0 s1 I r h
  unfold f59_b112 at h
  refine gg_br (b := decide (¬ s1 = s0)) (tg := 119) (off := 7) aMi59 rfl rfl rfl rfl (fun hb => ?_) (fun hb => ?_)
  · rw [if_pos (of_decide_eq_true hb)] at h
    exact Tf59_b119 hd  I _ h
  · rw [if_neg (of_decide_eq_false hb)] at h
    refine go_ops aMi59 2 _ (f1 := (120, ([], [.int (1 : Int32)]))) rfl ?_
    exact Tf59_b120 hd (1 : Int32) I _ h
def f59_b101 (kad : Nat → Nat) (N : Nat) (Z : AZ) (i2 : Int32) (s0 : Int32) (I : AI) : Option (Int32 × AI) :=
  if i2 ≤ (8 : Int32) then
    f59_b112 kad N Z (0 : Int32) s0 I
  else
    f59_b112 kad N Z (1 : Int32) s0 I
set_option maxRecDepth 20000 in
theorem Tf59_b101 {kad : Nat → Nat} {N : Nat} {Z : AZ} {d : Nat} {t : Option Nat × (Nat × Nat)} (hd : 3 ≤ d) : ∀ (i2 : Int32) (s0 : Int32) (I : AI) (r : Int32 × AI), f59_b101 kad N Z i2 s0 I = some r → aGo kad d 59 (101, ([(2, .int i2)], [.int s0])) (aMem Z I, t) (qI Z t r) := by
  intro i2 s0 I r h
  unfold f59_b101 at h
  refine go_ops aMi59 2 _ (f1 := (104, ([(2, .int i2)], [.int (8 : Int32), .int i2, .int s0]))) rfl ?_
  refine gg_br (b := decide (i2 ≤ (8 : Int32))) (tg := 111) (off := 7) aMi59 rfl rfl rfl rfl (fun hb => ?_) (fun hb => ?_)
  · rw [if_pos (of_decide_eq_true hb)] at h
    refine go_ops aMi59 1 _ (f1 := (112, ([(2, .int i2)], [.int (0 : Int32), .int s0]))) rfl ?_
    refine go_le (lv1 := []) (aLe_of (show (List.map (fun q => q.1) ([] : ALv)).Nodup from (by show ([] : List Nat).Nodup; decide)) aSubL_nil) ?_
    exact Tf59_b112 hd (0 : Int32) s0 I _ h
  · rw [if_neg (of_decide_eq_false hb)] at h
    refine go_ops aMi59 2 _ (f1 := (112, ([(2, .int i2)], [.int (1 : Int32), .int s0]))) rfl ?_
    refine go_le (lv1 := []) (aLe_of (show (List.map (fun q => q.1) ([] : ALv)).Nodup from (by show ([] : List Nat).Nodup; decide)) aSubL_nil) ?_
    exact Tf59_b112 hd (1 : Int32) s0 I _ h
def f59_b88 (kad : Nat → Nat) (N : Nat) (Z : AZ) (i2 : Int32) (i4 : Int32) (s0 : Int32) (s1 : Int32) (I : AI) : Option (Int32 × AI) :=
  if ¬ s1 = s0 then
    f59_b119 kad N Z  I
  else
    if i4 = 0 then
      f59_b101 kad N Z i2 (0 : Int32) I
    else
      f59_b101 kad N Z i2 (1 : Int32) I
set_option maxRecDepth 20000 in
theorem Tf59_b88 {kad : Nat → Nat} {N : Nat} {Z : AZ} {d : Nat} {t : Option Nat × (Nat × Nat)} (hd : 3 ≤ d) : ∀ (i2 : Int32) (i4 : Int32) (s0 : Int32) (s1 : Int32) (I : AI) (r : Int32 × AI), f59_b88 kad N Z i2 i4 s0 s1 I = some r → aGo kad d 59 (88, ([(2, .int i2), (4, .int i4)], [.int s0, .int s1])) (aMem Z I, t) (qI Z t r) := by
  intro i2 i4 s0 s1 I r h
  unfold f59_b88 at h
  refine gg_br (b := decide (¬ s1 = s0)) (tg := 119) (off := 31) aMi59 rfl rfl rfl rfl (fun hb => ?_) (fun hb => ?_)
  · rw [if_pos (of_decide_eq_true hb)] at h
    refine go_le (lv1 := []) (aLe_of (show (List.map (fun q => q.1) ([] : ALv)).Nodup from (by show ([] : List Nat).Nodup; decide)) aSubL_nil) ?_
    exact Tf59_b119 hd  I _ h
  · rw [if_neg (of_decide_eq_false hb)] at h
    refine go_ops aMi59 1 _ (f1 := (93, ([(2, .int i2), (4, .int i4)], [.int i4]))) rfl ?_
    refine gg_br (b := decide (i4 = 0)) (tg := 100) (off := 7) aMi59 rfl rfl rfl rfl (fun hb => ?_) (fun hb => ?_)
    · rw [if_pos (of_decide_eq_true hb)] at h
      refine go_ops aMi59 1 _ (f1 := (101, ([(2, .int i2), (4, .int i4)], [.int (0 : Int32)]))) rfl ?_
      refine go_le (lv1 := [(2, .int i2)]) (aLe_of (show (List.map (fun q => q.1) ([(2, .int i2)] : ALv)).Nodup from (by show ([2] : List Nat).Nodup; decide)) (aSubL_cons rfl aSubL_nil)) ?_
      exact Tf59_b101 hd i2 (0 : Int32) I _ h
    · rw [if_neg (of_decide_eq_false hb)] at h
      refine go_ops aMi59 2 _ (f1 := (101, ([(2, .int i2), (4, .int i4)], [.int (1 : Int32)]))) rfl ?_
      refine go_le (lv1 := [(2, .int i2)]) (aLe_of (show (List.map (fun q => q.1) ([(2, .int i2)] : ALv)).Nodup from (by show ([2] : List Nat).Nodup; decide)) (aSubL_cons rfl aSubL_nil)) ?_
      exact Tf59_b101 hd i2 (1 : Int32) I _ h
def f59_b79 (kad : Nat → Nat) (N : Nat) (Z : AZ) (i2 : Int32) (i4 : Int32) (s0 : Int32) (I : AI) : Option (Int32 × AI) :=
  if i2 ≤ 0 then
    f59_b88 kad N Z i2 i4 (0 : Int32) s0 I
  else
    f59_b88 kad N Z i2 i4 (1 : Int32) s0 I
set_option maxRecDepth 20000 in
theorem Tf59_b79 {kad : Nat → Nat} {N : Nat} {Z : AZ} {d : Nat} {t : Option Nat × (Nat × Nat)} (hd : 3 ≤ d) : ∀ (i2 : Int32) (i4 : Int32) (s0 : Int32) (I : AI) (r : Int32 × AI), f59_b79 kad N Z i2 i4 s0 I = some r → aGo kad d 59 (79, ([(2, .int i2), (4, .int i4)], [.int s0])) (aMem Z I, t) (qI Z t r) := by
  intro i2 i4 s0 I r h
  unfold f59_b79 at h
  refine go_ops aMi59 1 _ (f1 := (80, ([(2, .int i2), (4, .int i4)], [.int i2, .int s0]))) rfl ?_
  refine gg_br (b := decide (i2 ≤ 0)) (tg := 87) (off := 7) aMi59 rfl rfl rfl rfl (fun hb => ?_) (fun hb => ?_)
  · rw [if_pos (of_decide_eq_true hb)] at h
    refine go_ops aMi59 1 _ (f1 := (88, ([(2, .int i2), (4, .int i4)], [.int (0 : Int32), .int s0]))) rfl ?_
    exact Tf59_b88 hd i2 i4 (0 : Int32) s0 I _ h
  · rw [if_neg (of_decide_eq_false hb)] at h
    refine go_ops aMi59 2 _ (f1 := (88, ([(2, .int i2), (4, .int i4)], [.int (1 : Int32), .int s0]))) rfl ?_
    exact Tf59_b88 hd i2 i4 (1 : Int32) s0 I _ h
def f59 (kad : Nat → Nat) (N : Nat) (Z : AZ) (a0 : Nat) (i1 : Int32) (I : AI) : Option (Int32 × AI) :=
  (isK Z a0 3).bind fun u3_1 =>
  (f50 kad N Z a0 i1 (1 : Int32) I).bind fun r3_2 =>
  (isK Z a0 3).bind fun u10_3 =>
  (f50 kad N Z a0 i1 (2 : Int32) r3_2.2).bind fun r10_4 =>
  (isK Z a0 3).bind fun u17_5 =>
  (f50 kad N Z a0 i1 (3 : Int32) r10_4.2).bind fun r17_6 =>
  (isK Z a0 3).bind fun u25_7 =>
  (f50 kad N Z a0 i1 (0 : Int32) r17_6.2).bind fun r25_8 =>
  if ¬ r25_8.1 = 0 then
    (isK Z a0 3).bind fun u57_9 =>
    (f51 kad N Z a0 r25_8.1 r25_8.2).bind fun r57_10 =>
    if ¬ r57_10.1 = i1 then
      f59_b119 kad N Z  r57_10.2
    else
      if (16 : Int32) < r3_2.1 then
        f59_b119 kad N Z  r57_10.2
      else
        if r10_4.1 = 0 then
          f59_b79 kad N Z r3_2.1 r17_6.1 (0 : Int32) r57_10.2
        else
          f59_b79 kad N Z r3_2.1 r17_6.1 (1 : Int32) r57_10.2
  else
    if ¬ r3_2.1 = 0 then
      f59_b52 kad N Z  r25_8.2
    else
      if ¬ r10_4.1 = 0 then
        f59_b52 kad N Z  r25_8.2
      else
        if ¬ r17_6.1 = 0 then
          f59_b52 kad N Z  r25_8.2
        else
          f59_b53 kad N Z (1 : Int32) r25_8.2
set_option maxRecDepth 20000 in
theorem Tf59 {kad : Nat → Nat} {N : Nat} {Z : AZ} {d : Nat} {t : Option Nat × (Nat × Nat)} (hd : 3 ≤ d) : ∀ (a0 : Nat) (i1 : Int32) (I : AI) (r : Int32 × AI), f59 kad N Z a0 i1 I = some r → aGo kad d 59 (0, ([(0, .ref a0), (1, .int i1)], [])) (aMem Z I, t) (qI Z t r) := by
  intro a0 i1 I r h
  unfold f59 at h
  refine go_ops aMi59 3 _ (f1 := (3, ([(0, .ref a0), (1, .int i1)], [.int (1 : Int32), .int i1, .ref a0]))) rfl ?_
  obtain ⟨u3_1, hxu3_1, h⟩ := Option.bind_eq_some_iff.mp h
  obtain ⟨r3_2, hxr3_2, h⟩ := Option.bind_eq_some_iff.mp h
  refine gg_cv (as := [.int i1, .int (1 : Int32)]) (r := []) aMi59 rfl rfl rfl aMi50 (Nat.le_of_ble_eq_true rfl) rfl (Nat.le_of_ble_eq_true rfl) (Nat.le_of_ble_eq_true rfl) (by omega) hxu3_1 (Tf50 (by omega) a0 i1 (1 : Int32) I _ hxr3_2) ?_
  show aGo kad d 59 (6, ([(0, .ref a0), (1, .int i1)], [.int r3_2.1])) (aMem Z r3_2.2, t) _
  refine go_ops aMi59 4 _ (f1 := (10, ([(2, .int r3_2.1), (0, .ref a0), (1, .int i1)], [.int (2 : Int32), .int i1, .ref a0]))) rfl ?_
  obtain ⟨u10_3, hxu10_3, h⟩ := Option.bind_eq_some_iff.mp h
  obtain ⟨r10_4, hxr10_4, h⟩ := Option.bind_eq_some_iff.mp h
  refine gg_cv (as := [.int i1, .int (2 : Int32)]) (r := []) aMi59 rfl rfl rfl aMi50 (Nat.le_of_ble_eq_true rfl) rfl (Nat.le_of_ble_eq_true rfl) (Nat.le_of_ble_eq_true rfl) (by omega) hxu10_3 (Tf50 (by omega) a0 i1 (2 : Int32) r3_2.2 _ hxr10_4) ?_
  show aGo kad d 59 (13, ([(2, .int r3_2.1), (0, .ref a0), (1, .int i1)], [.int r10_4.1])) (aMem Z r10_4.2, t) _
  refine go_ops aMi59 4 _ (f1 := (17, ([(3, .int r10_4.1), (2, .int r3_2.1), (0, .ref a0), (1, .int i1)], [.int (3 : Int32), .int i1, .ref a0]))) rfl ?_
  obtain ⟨u17_5, hxu17_5, h⟩ := Option.bind_eq_some_iff.mp h
  obtain ⟨r17_6, hxr17_6, h⟩ := Option.bind_eq_some_iff.mp h
  refine gg_cv (as := [.int i1, .int (3 : Int32)]) (r := []) aMi59 rfl rfl rfl aMi50 (Nat.le_of_ble_eq_true rfl) rfl (Nat.le_of_ble_eq_true rfl) (Nat.le_of_ble_eq_true rfl) (by omega) hxu17_5 (Tf50 (by omega) a0 i1 (3 : Int32) r10_4.2 _ hxr17_6) ?_
  show aGo kad d 59 (20, ([(3, .int r10_4.1), (2, .int r3_2.1), (0, .ref a0), (1, .int i1)], [.int r17_6.1])) (aMem Z r17_6.2, t) _
  refine go_ops aMi59 4 _ (f1 := (25, ([(4, .int r17_6.1), (3, .int r10_4.1), (2, .int r3_2.1), (0, .ref a0), (1, .int i1)], [.int (0 : Int32), .int i1, .ref a0]))) rfl ?_
  obtain ⟨u25_7, hxu25_7, h⟩ := Option.bind_eq_some_iff.mp h
  obtain ⟨r25_8, hxr25_8, h⟩ := Option.bind_eq_some_iff.mp h
  refine gg_cv (as := [.int i1, .int (0 : Int32)]) (r := []) aMi59 rfl rfl rfl aMi50 (Nat.le_of_ble_eq_true rfl) rfl (Nat.le_of_ble_eq_true rfl) (Nat.le_of_ble_eq_true rfl) (by omega) hxu25_7 (Tf50 (by omega) a0 i1 (0 : Int32) r17_6.2 _ hxr25_8) ?_
  show aGo kad d 59 (28, ([(4, .int r17_6.1), (3, .int r10_4.1), (2, .int r3_2.1), (0, .ref a0), (1, .int i1)], [.int r25_8.1])) (aMem Z r25_8.2, t) _
  refine go_ops aMi59 2 _ (f1 := (32, ([(5, .int r25_8.1), (4, .int r17_6.1), (3, .int r10_4.1), (2, .int r3_2.1), (0, .ref a0), (1, .int i1)], [.int r25_8.1]))) rfl ?_
  refine gg_br (b := decide (¬ r25_8.1 = 0)) (tg := 54) (off := 22) aMi59 rfl rfl rfl rfl (fun hb => ?_) (fun hb => ?_)
  · rw [if_pos (of_decide_eq_true hb)] at h
    refine go_ops aMi59 2 _ (f1 := (57, ([(5, .int r25_8.1), (4, .int r17_6.1), (3, .int r10_4.1), (2, .int r3_2.1), (0, .ref a0), (1, .int i1)], [.int r25_8.1, .ref a0]))) rfl ?_
    obtain ⟨u57_9, hxu57_9, h⟩ := Option.bind_eq_some_iff.mp h
    obtain ⟨r57_10, hxr57_10, h⟩ := Option.bind_eq_some_iff.mp h
    refine gg_cv (as := [.int r25_8.1]) (r := []) aMi59 rfl rfl rfl aMi51 (Nat.le_of_ble_eq_true rfl) rfl (Nat.le_of_ble_eq_true rfl) (Nat.le_of_ble_eq_true rfl) (by omega) hxu57_9 (Tf51 (by omega) a0 r25_8.1 r25_8.2 _ hxr57_10) ?_
    show aGo kad d 59 (60, ([(5, .int r25_8.1), (4, .int r17_6.1), (3, .int r10_4.1), (2, .int r3_2.1), (0, .ref a0), (1, .int i1)], [.int r57_10.1])) (aMem Z r57_10.2, t) _
    refine go_ops aMi59 1 _ (f1 := (61, ([(5, .int r25_8.1), (4, .int r17_6.1), (3, .int r10_4.1), (2, .int r3_2.1), (0, .ref a0), (1, .int i1)], [.int i1, .int r57_10.1]))) rfl ?_
    refine gg_br (b := decide (¬ r57_10.1 = i1)) (tg := 119) (off := 58) aMi59 rfl rfl rfl rfl (fun hb => ?_) (fun hb => ?_)
    · rw [if_pos (of_decide_eq_true hb)] at h
      refine go_le (lv1 := []) (aLe_of (show (List.map (fun q => q.1) ([] : ALv)).Nodup from (by show ([] : List Nat).Nodup; decide)) aSubL_nil) ?_
      exact Tf59_b119 hd  r57_10.2 _ h
    · rw [if_neg (of_decide_eq_false hb)] at h
      refine go_ops aMi59 2 _ (f1 := (67, ([(5, .int r25_8.1), (4, .int r17_6.1), (3, .int r10_4.1), (2, .int r3_2.1), (0, .ref a0), (1, .int i1)], [.int (16 : Int32), .int r3_2.1]))) rfl ?_
      refine gg_br (b := decide ((16 : Int32) < r3_2.1)) (tg := 119) (off := 52) aMi59 rfl rfl rfl rfl (fun hb => ?_) (fun hb => ?_)
      · rw [if_pos (of_decide_eq_true hb)] at h
        refine go_le (lv1 := []) (aLe_of (show (List.map (fun q => q.1) ([] : ALv)).Nodup from (by show ([] : List Nat).Nodup; decide)) aSubL_nil) ?_
        exact Tf59_b119 hd  r57_10.2 _ h
      · rw [if_neg (of_decide_eq_false hb)] at h
        refine go_ops aMi59 1 _ (f1 := (71, ([(5, .int r25_8.1), (4, .int r17_6.1), (3, .int r10_4.1), (2, .int r3_2.1), (0, .ref a0), (1, .int i1)], [.int r10_4.1]))) rfl ?_
        refine gg_br (b := decide (r10_4.1 = 0)) (tg := 78) (off := 7) aMi59 rfl rfl rfl rfl (fun hb => ?_) (fun hb => ?_)
        · rw [if_pos (of_decide_eq_true hb)] at h
          refine go_ops aMi59 1 _ (f1 := (79, ([(5, .int r25_8.1), (4, .int r17_6.1), (3, .int r10_4.1), (2, .int r3_2.1), (0, .ref a0), (1, .int i1)], [.int (0 : Int32)]))) rfl ?_
          refine go_le (lv1 := [(2, .int r3_2.1), (4, .int r17_6.1)]) (aLe_of (show (List.map (fun q => q.1) ([(2, .int r3_2.1), (4, .int r17_6.1)] : ALv)).Nodup from (by show ([2, 4] : List Nat).Nodup; decide)) (aSubL_cons rfl (aSubL_cons rfl aSubL_nil))) ?_
          exact Tf59_b79 hd r3_2.1 r17_6.1 (0 : Int32) r57_10.2 _ h
        · rw [if_neg (of_decide_eq_false hb)] at h
          refine go_ops aMi59 2 _ (f1 := (79, ([(5, .int r25_8.1), (4, .int r17_6.1), (3, .int r10_4.1), (2, .int r3_2.1), (0, .ref a0), (1, .int i1)], [.int (1 : Int32)]))) rfl ?_
          refine go_le (lv1 := [(2, .int r3_2.1), (4, .int r17_6.1)]) (aLe_of (show (List.map (fun q => q.1) ([(2, .int r3_2.1), (4, .int r17_6.1)] : ALv)).Nodup from (by show ([2, 4] : List Nat).Nodup; decide)) (aSubL_cons rfl (aSubL_cons rfl aSubL_nil))) ?_
          exact Tf59_b79 hd r3_2.1 r17_6.1 (1 : Int32) r57_10.2 _ h
  · rw [if_neg (of_decide_eq_false hb)] at h
    refine go_ops aMi59 1 _ (f1 := (36, ([(5, .int r25_8.1), (4, .int r17_6.1), (3, .int r10_4.1), (2, .int r3_2.1), (0, .ref a0), (1, .int i1)], [.int r3_2.1]))) rfl ?_
    refine gg_br (b := decide (¬ r3_2.1 = 0)) (tg := 52) (off := 16) aMi59 rfl rfl rfl rfl (fun hb => ?_) (fun hb => ?_)
    · rw [if_pos (of_decide_eq_true hb)] at h
      refine go_le (lv1 := []) (aLe_of (show (List.map (fun q => q.1) ([] : ALv)).Nodup from (by show ([] : List Nat).Nodup; decide)) aSubL_nil) ?_
      exact Tf59_b52 hd  r25_8.2 _ h
    · rw [if_neg (of_decide_eq_false hb)] at h
      refine go_ops aMi59 1 _ (f1 := (40, ([(5, .int r25_8.1), (4, .int r17_6.1), (3, .int r10_4.1), (2, .int r3_2.1), (0, .ref a0), (1, .int i1)], [.int r10_4.1]))) rfl ?_
      refine gg_br (b := decide (¬ r10_4.1 = 0)) (tg := 52) (off := 12) aMi59 rfl rfl rfl rfl (fun hb => ?_) (fun hb => ?_)
      · rw [if_pos (of_decide_eq_true hb)] at h
        refine go_le (lv1 := []) (aLe_of (show (List.map (fun q => q.1) ([] : ALv)).Nodup from (by show ([] : List Nat).Nodup; decide)) aSubL_nil) ?_
        exact Tf59_b52 hd  r25_8.2 _ h
      · rw [if_neg (of_decide_eq_false hb)] at h
        refine go_ops aMi59 1 _ (f1 := (45, ([(5, .int r25_8.1), (4, .int r17_6.1), (3, .int r10_4.1), (2, .int r3_2.1), (0, .ref a0), (1, .int i1)], [.int r17_6.1]))) rfl ?_
        refine gg_br (b := decide (¬ r17_6.1 = 0)) (tg := 52) (off := 7) aMi59 rfl rfl rfl rfl (fun hb => ?_) (fun hb => ?_)
        · rw [if_pos (of_decide_eq_true hb)] at h
          refine go_le (lv1 := []) (aLe_of (show (List.map (fun q => q.1) ([] : ALv)).Nodup from (by show ([] : List Nat).Nodup; decide)) aSubL_nil) ?_
          exact Tf59_b52 hd  r25_8.2 _ h
        · rw [if_neg (of_decide_eq_false hb)] at h
          refine go_ops aMi59 2 _ (f1 := (53, ([(5, .int r25_8.1), (4, .int r17_6.1), (3, .int r10_4.1), (2, .int r3_2.1), (0, .ref a0), (1, .int i1)], [.int (1 : Int32)]))) rfl ?_
          refine go_le (lv1 := []) (aLe_of (show (List.map (fun q => q.1) ([] : ALv)).Nodup from (by show ([] : List Nat).Nodup; decide)) aSubL_nil) ?_
          exact Tf59_b53 hd (1 : Int32) r25_8.2 _ h
