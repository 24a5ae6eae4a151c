-- KernelGym$Clerk.carryOut (IILKernelGym$Core;LKernelGym$Disk;)V
def f29_b207 (kad : Nat → Nat) (N : Nat) (Z : AZ) (a0 : Nat) (a3 : Nat) (a4 : Nat) (I : AI) : Option (Unit × AI) :=
  (f32 kad N Z a0 (a3 + 2) I).bind fun r212_1 =>
  some ((), r212_1.2)
set_option maxRecDepth 20000 in
theorem Tf29_b207 {kad : Nat → Nat} {N : Nat} {Z : AZ} {d : Nat} {t : Option Nat × (Nat × Nat)} (hd : 2 ≤ d) : ∀ (a0 : Nat) (ha0 : sh1 kad Z a0) (a3 : Nat) (ha3 : sh2 kad Z a3) (a4 : Nat) (ha4 : sh3 kad Z a4) (I : AI) (r : Unit × AI), f29_b207 kad N Z a0 a3 a4 I = some r → aGo kad d 29 (207, ([(0, .ref a0), (3, .ref a3)], [])) (aMem Z I, t) (qV Z t r) := by
  intro a0 ha0 a3 ha3 a4 ha4 I r h
  unfold f29_b207 at h
  refine go_ops aMi29 2 _ (f1 := (209, ([(0, .ref a0), (3, .ref a3)], [.ref a3, .ref a0]))) rfl ?_
  refine gg_gR (b := (a3 + 2)) aMi29 rfl rfl rfl (gR_of (sh2_z ha3) (sh2_r15 ha3)) ?_
  obtain ⟨r212_1, hxr212_1, h⟩ := Option.bind_eq_some_iff.mp h
  refine gg_cv (as := [.ref (a3 + 2)]) (r := []) aMi29 rfl rfl rfl aMi32 (Nat.le_of_ble_eq_true rfl) rfl (Nat.le_of_ble_eq_true rfl) (Nat.le_of_ble_eq_true rfl) (by omega) (isK_of (sh1_z ha0)) (Tf32 (by omega) a0 ha0 (a3 + 2) (sh2_s15 ha3) I _ hxr212_1) ?_
  show aGo kad d 29 (215, ([(0, .ref a0), (3, .ref a3)], [])) (aMem Z r212_1.2, t) _
  cases h
  exact go_ret aMi29 rfl rfl ⟨rfl, rfl⟩
def f29_b191 (kad : Nat → Nat) (N : Nat) (Z : AZ) (a0 : Nat) (a3 : Nat) (a4 : Nat) (i2 : Int32) (i6 : Int32) (I : AI) : Option (Unit × AI) :=
  if i6 = i2 then
    f29_b207 kad N Z a0 a3 a4 I
  else
    (ixA 4 (1 : Int32)).bind fun j203_1 =>
    (f34 kad N Z a0 i2 (0 : Int32) (I (a3 + 1) j203_1) I).bind fun r204_2 =>
    f29_b207 kad N Z a0 a3 a4 r204_2.2
set_option maxRecDepth 20000 in
theorem Tf29_b191 {kad : Nat → Nat} {N : Nat} {Z : AZ} {d : Nat} {t : Option Nat × (Nat × Nat)} (hd : 2 ≤ d) : ∀ (a0 : Nat) (ha0 : sh1 kad Z a0) (a3 : Nat) (ha3 : sh2 kad Z a3) (a4 : Nat) (ha4 : sh3 kad Z a4) (i2 : Int32) (i6 : Int32) (I : AI) (r : Unit × AI), f29_b191 kad N Z a0 a3 a4 i2 i6 I = some r → aGo kad d 29 (191, ([(0, .ref a0), (2, .int i2), (3, .ref a3), (5, .ref (a3 + 1)), (6, .int i6)], [])) (aMem Z I, t) (qV Z t r) := by
  intro a0 ha0 a3 ha3 a4 ha4 i2 i6 I r h
  unfold f29_b191 at h
  refine go_ops aMi29 2 _ (f1 := (194, ([(0, .ref a0), (2, .int i2), (3, .ref a3), (5, .ref (a3 + 1)), (6, .int i6)], [.int i2, .int i6]))) rfl ?_
  refine gg_br (b := decide (i6 = i2)) (tg := 207) (off := 13) aMi29 rfl rfl rfl rfl (fun hb => ?_) (fun hb => ?_)
  · rw [if_pos (of_decide_eq_true hb)] at h
    refine go_le (lv1 := [(0, .ref a0), (3, .ref a3)]) (aLe_of (show (List.map (fun q => q.1) ([(0, .ref a0), (3, .ref a3)] : ALv)).Nodup from (by show ([0, 3] : List Nat).Nodup; decide)) (aSubL_cons rfl (aSubL_cons rfl aSubL_nil))) ?_
    exact Tf29_b207 hd a0 ha0 a3 ha3 a4 ha4 I _ h
  · rw [if_neg (of_decide_eq_false hb)] at h
    refine go_ops aMi29 5 _ (f1 := (203, ([(0, .ref a0), (2, .int i2), (3, .ref a3), (5, .ref (a3 + 1)), (6, .int i6)], [.int (1 : Int32), .ref (a3 + 1), .int (0 : Int32), .int i2, .ref a0]))) rfl ?_
    obtain ⟨j203_1, hxj203_1, h⟩ := Option.bind_eq_some_iff.mp h
    refine gg_lI (Or.inl ⟨rfl, rfl⟩) aMi29 rfl (lI_of (sh2_a14 ha3) hxj203_1) ?_
    obtain ⟨r204_2, hxr204_2, h⟩ := Option.bind_eq_some_iff.mp h
    refine gg_cv (as := [.int i2, .int (0 : Int32), .int (I (a3 + 1) j203_1)]) (r := []) aMi29 rfl rfl rfl aMi34 (Nat.le_of_ble_eq_true rfl) rfl (Nat.le_of_ble_eq_true rfl) (Nat.le_of_ble_eq_true rfl) (by omega) (isK_of (sh1_z ha0)) (Tf34 (by omega) a0 ha0 i2 (0 : Int32) (I (a3 + 1) j203_1) I _ hxr204_2) ?_
    show aGo kad d 29 (207, ([(0, .ref a0), (2, .int i2), (3, .ref a3), (5, .ref (a3 + 1)), (6, .int i6)], [])) (aMem Z r204_2.2, t) _
    refine go_le (lv1 := [(0, .ref a0), (3, .ref a3)]) (aLe_of (show (List.map (fun q => q.1) ([(0, .ref a0), (3, .ref a3)] : ALv)).Nodup from (by show ([0, 3] : List Nat).Nodup; decide)) (aSubL_cons rfl (aSubL_cons rfl aSubL_nil))) ?_
    exact Tf29_b207 hd a0 ha0 a3 ha3 a4 ha4 r204_2.2 _ h
def f29 (kad : Nat → Nat) (N : Nat) (Z : AZ) (a0 : Nat) (i1 : Int32) (i2 : Int32) (a3 : Nat) (a4 : Nat) (I : AI) : Option (Unit × AI) :=
  (f27 kad N Z a0 a4 I).bind fun r9_1 =>
  if i1 = (0 : Int32) then
    (f51 kad N Z a4 (0 : Int32) r9_1.2).bind fun r56_2 =>
    (ixA 4 (0 : Int32)).bind fun j63_3 =>
    (f34 kad N Z a0 r56_2.1 (0 : Int32) (r56_2.2 (a3 + 1) j63_3) r56_2.2).bind fun r64_4 =>
    f29_b207 kad N Z a0 a3 a4 r64_4.2
  else
  if i1 = (1 : Int32) then
    (ixA 4 (1 : Int32)).bind fun j75_5 =>
    (f56 kad N Z a4 r9_1.2).bind fun r78_6 =>
    (f30 kad N Z a0 i2 (r9_1.2 (a3 + 1) j75_5) r78_6.1 a4 r78_6.2).bind fun r83_7 =>
    f29_b207 kad N Z a0 a3 a4 r83_7.2
  else
  if i1 = (2 : Int32) then
    (ixA 4 (1 : Int32)).bind fun j96_8 =>
    (f48 kad N Z (r9_1.2 (a3 + 1) j96_8) r9_1.2).bind fun r97_9 =>
    (f50 kad N Z a4 i2 r97_9.1 r97_9.2).bind fun r100_10 =>
    (ixA 4 (1 : Int32)).bind fun j106_11 =>
    (ixA 4 (2 : Int32)).bind fun j113_12 =>
    (f35 kad N Z a0 r100_10.1 ((r100_10.2 (a3 + 1) j106_11) - (r100_10.2 (a3 + 1) j106_11) / (8 : Int32) * (8 : Int32)) (r100_10.2 (a3 + 1) j113_12) r100_10.2).bind fun r114_13 =>
    f29_b207 kad N Z a0 a3 a4 r114_13.2
  else
  if i1 = (3 : Int32) then
    (ixA 4 (1 : Int32)).bind fun j129_14 =>
    (f54 kad N Z a4 i2 (r9_1.2 (a3 + 1) j129_14) r9_1.2).bind fun r130_15 =>
    (ixA 4 (2 : Int32)).bind fun j133_17 =>
    (wI r130_15.2 (a3 + 1) j133_17 r130_15.1).bind fun I133_16 =>
    f29_b207 kad N Z a0 a3 a4 I133_16
  else
  if i1 = (4 : Int32) then
    (f50 kad N Z a4 i2 (1 : Int32) r9_1.2).bind fun r144_18 =>
    (ixA 4 (1 : Int32)).bind fun j147_20 =>
    (wI r144_18.2 (a3 + 1) j147_20 r144_18.1).bind fun I147_19 =>
    f29_b207 kad N Z a0 a3 a4 I147_19
  else
  if i1 = (5 : Int32) then
    (f31 kad N Z a0 i2 a4 r9_1.2).bind fun r155_21 =>
    f29_b207 kad N Z a0 a3 a4 r155_21.2
  else
    (ixA 4 (1 : Int32)).bind fun j166_22 =>
    (f51 kad N Z a4 (r9_1.2 (a3 + 1) j166_22) r9_1.2).bind fun r167_23 =>
    if r167_23.1 < 0 then
      f29_b191 kad N Z a0 a3 a4 i2 r167_23.1 r167_23.2
    else
      if r167_23.1 = i2 then
        f29_b191 kad N Z a0 a3 a4 i2 r167_23.1 r167_23.2
      else
        (f31 kad N Z a0 r167_23.1 a4 r167_23.2).bind fun r188_24 =>
        f29_b191 kad N Z a0 a3 a4 i2 r167_23.1 r188_24.2
set_option maxRecDepth 20000 in
theorem Tf29 {kad : Nat → Nat} {N : Nat} {Z : AZ} {d : Nat} {t : Option Nat × (Nat × Nat)} (hd : 2 ≤ d) : ∀ (a0 : Nat) (ha0 : sh1 kad Z a0) (i1 : Int32) (i2 : Int32) (a3 : Nat) (ha3 : sh2 kad Z a3) (a4 : Nat) (ha4 : sh3 kad Z a4) (I : AI) (r : Unit × AI), f29 kad N Z a0 i1 i2 a3 a4 I = some r → aGo kad d 29 (0, ([(0, .ref a0), (1, .int i1), (2, .int i2), (3, .ref a3), (4, .ref a4)], [])) (aMem Z I, t) (qV Z t r) := by
  intro a0 ha0 i1 i2 a3 ha3 a4 ha4 I r h
  unfold f29 at h
  refine go_ops aMi29 1 _ (f1 := (1, ([(0, .ref a0), (1, .int i1), (2, .int i2), (3, .ref a3), (4, .ref a4)], [.ref a3]))) rfl ?_
  refine gg_gR (b := (a3 + 1)) aMi29 rfl rfl rfl (gR_of (sh2_z ha3) (sh2_r14 ha3)) ?_
  refine go_ops aMi29 3 _ (f1 := (9, ([(5, .ref (a3 + 1)), (0, .ref a0), (1, .int i1), (2, .int i2), (3, .ref a3), (4, .ref a4)], [.ref a4, .ref a0]))) rfl ?_
  obtain ⟨r9_1, hxr9_1, h⟩ := Option.bind_eq_some_iff.mp h
  refine gg_cv (as := [.ref a4]) (r := []) aMi29 rfl rfl rfl aMi27 (Nat.le_of_ble_eq_true rfl) rfl (Nat.le_of_ble_eq_true rfl) (Nat.le_of_ble_eq_true rfl) (by omega) (isK_of (sh1_z ha0)) (Tf27 (by omega) a0 ha0 a4 ha4 I _ hxr9_1) ?_
  show aGo kad d 29 (12, ([(5, .ref (a3 + 1)), (0, .ref a0), (1, .int i1), (2, .int i2), (3, .ref a3), (4, .ref a4)], [])) (aMem Z r9_1.2, t) _
  refine go_ops aMi29 1 _ (f1 := (13, ([(5, .ref (a3 + 1)), (0, .ref a0), (1, .int i1), (2, .int i2), (3, .ref a3), (4, .ref a4)], [.int i1]))) rfl ?_
  by_cases hs0 : i1 = (0 : Int32)
  · rw [if_pos hs0] at h
    refine go_sw (f1 := (52, ([(5, .ref (a3 + 1)), (0, .ref a0), (1, .int i1), (2, .int i2), (3, .ref a3), (4, .ref a4)], []))) aMi29 rfl (by rw [hs0]; rfl) ?_
    refine go_ops aMi29 3 _ (f1 := (56, ([(5, .ref (a3 + 1)), (0, .ref a0), (1, .int i1), (2, .int i2), (3, .ref a3), (4, .ref a4)], [.int (0 : Int32), .ref a4, .ref a0]))) rfl ?_
    obtain ⟨r56_2, hxr56_2, h⟩ := Option.bind_eq_some_iff.mp h
    refine gg_cv (as := [.int (0 : Int32)]) (r := [.ref a0]) aMi29 rfl rfl rfl aMi51 (Nat.le_of_ble_eq_true rfl) rfl (Nat.le_of_ble_eq_true rfl) (Nat.le_of_ble_eq_true rfl) (by omega) (isK_of (sh3_z ha4)) (Tf51 (by omega) a4 ha4 (0 : Int32) r9_1.2 _ hxr56_2) ?_
    show aGo kad d 29 (59, ([(5, .ref (a3 + 1)), (0, .ref a0), (1, .int i1), (2, .int i2), (3, .ref a3), (4, .ref a4)], [.int r56_2.1, .ref a0])) (aMem Z r56_2.2, t) _
    refine go_ops aMi29 3 _ (f1 := (63, ([(5, .ref (a3 + 1)), (0, .ref a0), (1, .int i1), (2, .int i2), (3, .ref a3), (4, .ref a4)], [.int (0 : Int32), .ref (a3 + 1), .int (0 : Int32), .int r56_2.1, .ref a0]))) rfl ?_
    obtain ⟨j63_3, hxj63_3, h⟩ := Option.bind_eq_some_iff.mp h
    refine gg_lI (Or.inl ⟨rfl, rfl⟩) aMi29 rfl (lI_of (sh2_a14 ha3) hxj63_3) ?_
    obtain ⟨r64_4, hxr64_4, h⟩ := Option.bind_eq_some_iff.mp h
    refine gg_cv (as := [.int r56_2.1, .int (0 : Int32), .int (r56_2.2 (a3 + 1) j63_3)]) (r := []) aMi29 rfl rfl rfl aMi34 (Nat.le_of_ble_eq_true rfl) rfl (Nat.le_of_ble_eq_true rfl) (Nat.le_of_ble_eq_true rfl) (by omega) (isK_of (sh1_z ha0)) (Tf34 (by omega) a0 ha0 r56_2.1 (0 : Int32) (r56_2.2 (a3 + 1) j63_3) r56_2.2 _ hxr64_4) ?_
    show aGo kad d 29 (67, ([(5, .ref (a3 + 1)), (0, .ref a0), (1, .int i1), (2, .int i2), (3, .ref a3), (4, .ref a4)], [])) (aMem Z r64_4.2, t) _
    refine go_ops aMi29 1 _ (f1 := (207, ([(5, .ref (a3 + 1)), (0, .ref a0), (1, .int i1), (2, .int i2), (3, .ref a3), (4, .ref a4)], []))) rfl ?_
    refine go_le (lv1 := [(0, .ref a0), (3, .ref a3)]) (aLe_of (show (List.map (fun q => q.1) ([(0, .ref a0), (3, .ref a3)] : ALv)).Nodup from (by show ([0, 3] : List Nat).Nodup; decide)) (aSubL_cons rfl (aSubL_cons rfl aSubL_nil))) ?_
    exact Tf29_b207 hd a0 ha0 a3 ha3 a4 ha4 r64_4.2 _ h
  rw [if_neg hs0] at h
  by_cases hs1 : i1 = (1 : Int32)
  · rw [if_pos hs1] at h
    refine go_sw (f1 := (70, ([(5, .ref (a3 + 1)), (0, .ref a0), (1, .int i1), (2, .int i2), (3, .ref a3), (4, .ref a4)], []))) aMi29 rfl (by rw [hs1]; rfl) ?_
    refine go_ops aMi29 4 _ (f1 := (75, ([(5, .ref (a3 + 1)), (0, .ref a0), (1, .int i1), (2, .int i2), (3, .ref a3), (4, .ref a4)], [.int (1 : Int32), .ref (a3 + 1), .int i2, .ref a0]))) rfl ?_
    obtain ⟨j75_5, hxj75_5, h⟩ := Option.bind_eq_some_iff.mp h
    refine gg_lI (Or.inl ⟨rfl, rfl⟩) aMi29 rfl (lI_of (sh2_a14 ha3) hxj75_5) ?_
    refine go_ops aMi29 1 _ (f1 := (78, ([(5, .ref (a3 + 1)), (0, .ref a0), (1, .int i1), (2, .int i2), (3, .ref a3), (4, .ref a4)], [.ref a4, .int (r9_1.2 (a3 + 1) j75_5), .int i2, .ref a0]))) rfl ?_
    obtain ⟨r78_6, hxr78_6, h⟩ := Option.bind_eq_some_iff.mp h
    refine gg_cv (as := []) (r := [.int (r9_1.2 (a3 + 1) j75_5), .int i2, .ref a0]) aMi29 rfl rfl rfl aMi56 (Nat.le_of_ble_eq_true rfl) rfl (Nat.le_of_ble_eq_true rfl) (Nat.le_of_ble_eq_true rfl) (by omega) (isK_of (sh3_z ha4)) (Tf56 (by omega) a4 ha4 r9_1.2 _ hxr78_6) ?_
    show aGo kad d 29 (81, ([(5, .ref (a3 + 1)), (0, .ref a0), (1, .int i1), (2, .int i2), (3, .ref a3), (4, .ref a4)], [.int r78_6.1, .int (r9_1.2 (a3 + 1) j75_5), .int i2, .ref a0])) (aMem Z r78_6.2, t) _
    refine go_ops aMi29 1 _ (f1 := (83, ([(5, .ref (a3 + 1)), (0, .ref a0), (1, .int i1), (2, .int i2), (3, .ref a3), (4, .ref a4)], [.ref a4, .int r78_6.1, .int (r9_1.2 (a3 + 1) j75_5), .int i2, .ref a0]))) rfl ?_
    obtain ⟨r83_7, hxr83_7, h⟩ := Option.bind_eq_some_iff.mp h
    refine gg_cv (as := [.int i2, .int (r9_1.2 (a3 + 1) j75_5), .int r78_6.1, .ref a4]) (r := []) aMi29 rfl rfl rfl aMi30 (Nat.le_of_ble_eq_true rfl) rfl (Nat.le_of_ble_eq_true rfl) (Nat.le_of_ble_eq_true rfl) (by omega) (isK_of (sh1_z ha0)) (Tf30 (by omega) a0 ha0 i2 (r9_1.2 (a3 + 1) j75_5) r78_6.1 a4 ha4 r78_6.2 _ hxr83_7) ?_
    show aGo kad d 29 (86, ([(5, .ref (a3 + 1)), (0, .ref a0), (1, .int i1), (2, .int i2), (3, .ref a3), (4, .ref a4)], [])) (aMem Z r83_7.2, t) _
    refine go_ops aMi29 1 _ (f1 := (207, ([(5, .ref (a3 + 1)), (0, .ref a0), (1, .int i1), (2, .int i2), (3, .ref a3), (4, .ref a4)], []))) rfl ?_
    refine go_le (lv1 := [(0, .ref a0), (3, .ref a3)]) (aLe_of (show (List.map (fun q => q.1) ([(0, .ref a0), (3, .ref a3)] : ALv)).Nodup from (by show ([0, 3] : List Nat).Nodup; decide)) (aSubL_cons rfl (aSubL_cons rfl aSubL_nil))) ?_
    exact Tf29_b207 hd a0 ha0 a3 ha3 a4 ha4 r83_7.2 _ h
  rw [if_neg hs1] at h
  by_cases hs2 : i1 = (2 : Int32)
  · rw [if_pos hs2] at h
    refine go_sw (f1 := (89, ([(5, .ref (a3 + 1)), (0, .ref a0), (1, .int i1), (2, .int i2), (3, .ref a3), (4, .ref a4)], []))) aMi29 rfl (by rw [hs2]; rfl) ?_
    refine go_ops aMi29 5 _ (f1 := (96, ([(5, .ref (a3 + 1)), (0, .ref a0), (1, .int i1), (2, .int i2), (3, .ref a3), (4, .ref a4)], [.int (1 : Int32), .ref (a3 + 1), .int i2, .ref a4, .ref a0]))) rfl ?_
    obtain ⟨j96_8, hxj96_8, h⟩ := Option.bind_eq_some_iff.mp h
    refine gg_lI (Or.inl ⟨rfl, rfl⟩) aMi29 rfl (lI_of (sh2_a14 ha3) hxj96_8) ?_
    obtain ⟨r97_9, hxr97_9, h⟩ := Option.bind_eq_some_iff.mp h
    refine gg_cs (as := [.int (r9_1.2 (a3 + 1) j96_8)]) (r := [.int i2, .ref a4, .ref a0]) aMi29 rfl rfl rfl aMi48 rfl (Nat.le_of_ble_eq_true rfl) (Nat.le_of_ble_eq_true rfl) (by omega) (Tf48 (by omega) (r9_1.2 (a3 + 1) j96_8) r9_1.2 _ hxr97_9) ?_
    show aGo kad d 29 (100, ([(5, .ref (a3 + 1)), (0, .ref a0), (1, .int i1), (2, .int i2), (3, .ref a3), (4, .ref a4)], [.int r97_9.1, .int i2, .ref a4, .ref a0])) (aMem Z r97_9.2, t) _
    obtain ⟨r100_10, hxr100_10, h⟩ := Option.bind_eq_some_iff.mp h
    refine gg_cv (as := [.int i2, .int r97_9.1]) (r := [.ref a0]) aMi29 rfl rfl rfl aMi50 (Nat.le_of_ble_eq_true rfl) rfl (Nat.le_of_ble_eq_true rfl) (Nat.le_of_ble_eq_true rfl) (by omega) (isK_of (sh3_z ha4)) (Tf50 (by omega) a4 ha4 i2 r97_9.1 r97_9.2 _ hxr100_10) ?_
    show aGo kad d 29 (103, ([(5, .ref (a3 + 1)), (0, .ref a0), (1, .int i1), (2, .int i2), (3, .ref a3), (4, .ref a4)], [.int r100_10.1, .ref a0])) (aMem Z r100_10.2, t) _
    refine go_ops aMi29 2 _ (f1 := (106, ([(5, .ref (a3 + 1)), (0, .ref a0), (1, .int i1), (2, .int i2), (3, .ref a3), (4, .ref a4)], [.int (1 : Int32), .ref (a3 + 1), .int r100_10.1, .ref a0]))) rfl ?_
    obtain ⟨j106_11, hxj106_11, h⟩ := Option.bind_eq_some_iff.mp h
    refine gg_lI (Or.inl ⟨rfl, rfl⟩) aMi29 rfl (lI_of (sh2_a14 ha3) hxj106_11) ?_
    refine go_ops aMi29 4 _ (f1 := (113, ([(5, .ref (a3 + 1)), (0, .ref a0), (1, .int i1), (2, .int i2), (3, .ref a3), (4, .ref a4)], [.int (2 : Int32), .ref (a3 + 1), .int ((r100_10.2 (a3 + 1) j106_11) - (r100_10.2 (a3 + 1) j106_11) / (8 : Int32) * (8 : Int32)), .int r100_10.1, .ref a0]))) rfl ?_
    obtain ⟨j113_12, hxj113_12, h⟩ := Option.bind_eq_some_iff.mp h
    refine gg_lI (Or.inl ⟨rfl, rfl⟩) aMi29 rfl (lI_of (sh2_a14 ha3) hxj113_12) ?_
    obtain ⟨r114_13, hxr114_13, h⟩ := Option.bind_eq_some_iff.mp h
    refine gg_cv (as := [.int r100_10.1, .int ((r100_10.2 (a3 + 1) j106_11) - (r100_10.2 (a3 + 1) j106_11) / (8 : Int32) * (8 : Int32)), .int (r100_10.2 (a3 + 1) j113_12)]) (r := []) aMi29 rfl rfl rfl aMi35 (Nat.le_of_ble_eq_true rfl) rfl (Nat.le_of_ble_eq_true rfl) (Nat.le_of_ble_eq_true rfl) (by omega) (isK_of (sh1_z ha0)) (Tf35 (by omega) a0 ha0 r100_10.1 ((r100_10.2 (a3 + 1) j106_11) - (r100_10.2 (a3 + 1) j106_11) / (8 : Int32) * (8 : Int32)) (r100_10.2 (a3 + 1) j113_12) r100_10.2 _ hxr114_13) ?_
    show aGo kad d 29 (117, ([(5, .ref (a3 + 1)), (0, .ref a0), (1, .int i1), (2, .int i2), (3, .ref a3), (4, .ref a4)], [])) (aMem Z r114_13.2, t) _
    refine go_ops aMi29 1 _ (f1 := (207, ([(5, .ref (a3 + 1)), (0, .ref a0), (1, .int i1), (2, .int i2), (3, .ref a3), (4, .ref a4)], []))) rfl ?_
    refine go_le (lv1 := [(0, .ref a0), (3, .ref a3)]) (aLe_of (show (List.map (fun q => q.1) ([(0, .ref a0), (3, .ref a3)] : ALv)).Nodup from (by show ([0, 3] : List Nat).Nodup; decide)) (aSubL_cons rfl (aSubL_cons rfl aSubL_nil))) ?_
    exact Tf29_b207 hd a0 ha0 a3 ha3 a4 ha4 r114_13.2 _ h
  rw [if_neg hs2] at h
  by_cases hs3 : i1 = (3 : Int32)
  · rw [if_pos hs3] at h
    refine go_sw (f1 := (120, ([(5, .ref (a3 + 1)), (0, .ref a0), (1, .int i1), (2, .int i2), (3, .ref a3), (4, .ref a4)], []))) aMi29 rfl (by rw [hs3]; rfl) ?_
    refine go_ops aMi29 6 _ (f1 := (129, ([(5, .ref (a3 + 1)), (0, .ref a0), (1, .int i1), (2, .int i2), (3, .ref a3), (4, .ref a4)], [.int (1 : Int32), .ref (a3 + 1), .int i2, .ref a4, .int (2 : Int32), .ref (a3 + 1)]))) rfl ?_
    obtain ⟨j129_14, hxj129_14, h⟩ := Option.bind_eq_some_iff.mp h
    refine gg_lI (Or.inl ⟨rfl, rfl⟩) aMi29 rfl (lI_of (sh2_a14 ha3) hxj129_14) ?_
    obtain ⟨r130_15, hxr130_15, h⟩ := Option.bind_eq_some_iff.mp h
    refine gg_cv (as := [.int i2, .int (r9_1.2 (a3 + 1) j129_14)]) (r := [.int (2 : Int32), .ref (a3 + 1)]) aMi29 rfl rfl rfl aMi54 (Nat.le_of_ble_eq_true rfl) rfl (Nat.le_of_ble_eq_true rfl) (Nat.le_of_ble_eq_true rfl) (by omega) (isK_of (sh3_z ha4)) (Tf54 (by omega) a4 ha4 i2 (r9_1.2 (a3 + 1) j129_14) r9_1.2 _ hxr130_15) ?_
    show aGo kad d 29 (133, ([(5, .ref (a3 + 1)), (0, .ref a0), (1, .int i1), (2, .int i2), (3, .ref a3), (4, .ref a4)], [.int r130_15.1, .int (2 : Int32), .ref (a3 + 1)])) (aMem Z r130_15.2, t) _
    obtain ⟨j133_17, hxj133_17, h⟩ := Option.bind_eq_some_iff.mp h
    obtain ⟨I133_16, hxI133_16, h⟩ := Option.bind_eq_some_iff.mp h
    refine gg_sI (Or.inl ⟨rfl, rfl⟩) aMi29 rfl (sI_of (sh2_a14 ha3) hxj133_17 hxI133_16) ?_
    refine go_ops aMi29 1 _ (f1 := (207, ([(5, .ref (a3 + 1)), (0, .ref a0), (1, .int i1), (2, .int i2), (3, .ref a3), (4, .ref a4)], []))) rfl ?_
    refine go_le (lv1 := [(0, .ref a0), (3, .ref a3)]) (aLe_of (show (List.map (fun q => q.1) ([(0, .ref a0), (3, .ref a3)] : ALv)).Nodup from (by show ([0, 3] : List Nat).Nodup; decide)) (aSubL_cons rfl (aSubL_cons rfl aSubL_nil))) ?_
    exact Tf29_b207 hd a0 ha0 a3 ha3 a4 ha4 I133_16 _ h
  rw [if_neg hs3] at h
  by_cases hs4 : i1 = (4 : Int32)
  · rw [if_pos hs4] at h
    refine go_sw (f1 := (137, ([(5, .ref (a3 + 1)), (0, .ref a0), (1, .int i1), (2, .int i2), (3, .ref a3), (4, .ref a4)], []))) aMi29 rfl (by rw [hs4]; rfl) ?_
    refine go_ops aMi29 5 _ (f1 := (144, ([(5, .ref (a3 + 1)), (0, .ref a0), (1, .int i1), (2, .int i2), (3, .ref a3), (4, .ref a4)], [.int (1 : Int32), .int i2, .ref a4, .int (1 : Int32), .ref (a3 + 1)]))) rfl ?_
    obtain ⟨r144_18, hxr144_18, h⟩ := Option.bind_eq_some_iff.mp h
    refine gg_cv (as := [.int i2, .int (1 : Int32)]) (r := [.int (1 : Int32), .ref (a3 + 1)]) aMi29 rfl rfl rfl aMi50 (Nat.le_of_ble_eq_true rfl) rfl (Nat.le_of_ble_eq_true rfl) (Nat.le_of_ble_eq_true rfl) (by omega) (isK_of (sh3_z ha4)) (Tf50 (by omega) a4 ha4 i2 (1 : Int32) r9_1.2 _ hxr144_18) ?_
    show aGo kad d 29 (147, ([(5, .ref (a3 + 1)), (0, .ref a0), (1, .int i1), (2, .int i2), (3, .ref a3), (4, .ref a4)], [.int r144_18.1, .int (1 : Int32), .ref (a3 + 1)])) (aMem Z r144_18.2, t) _
    obtain ⟨j147_20, hxj147_20, h⟩ := Option.bind_eq_some_iff.mp h
    obtain ⟨I147_19, hxI147_19, h⟩ := Option.bind_eq_some_iff.mp h
    refine gg_sI (Or.inl ⟨rfl, rfl⟩) aMi29 rfl (sI_of (sh2_a14 ha3) hxj147_20 hxI147_19) ?_
    refine go_ops aMi29 1 _ (f1 := (207, ([(5, .ref (a3 + 1)), (0, .ref a0), (1, .int i1), (2, .int i2), (3, .ref a3), (4, .ref a4)], []))) rfl ?_
    refine go_le (lv1 := [(0, .ref a0), (3, .ref a3)]) (aLe_of (show (List.map (fun q => q.1) ([(0, .ref a0), (3, .ref a3)] : ALv)).Nodup from (by show ([0, 3] : List Nat).Nodup; decide)) (aSubL_cons rfl (aSubL_cons rfl aSubL_nil))) ?_
    exact Tf29_b207 hd a0 ha0 a3 ha3 a4 ha4 I147_19 _ h
  rw [if_neg hs4] at h
  by_cases hs5 : i1 = (5 : Int32)
  · rw [if_pos hs5] at h
    refine go_sw (f1 := (151, ([(5, .ref (a3 + 1)), (0, .ref a0), (1, .int i1), (2, .int i2), (3, .ref a3), (4, .ref a4)], []))) aMi29 rfl (by rw [hs5]; rfl) ?_
    refine go_ops aMi29 3 _ (f1 := (155, ([(5, .ref (a3 + 1)), (0, .ref a0), (1, .int i1), (2, .int i2), (3, .ref a3), (4, .ref a4)], [.ref a4, .int i2, .ref a0]))) rfl ?_
    obtain ⟨r155_21, hxr155_21, h⟩ := Option.bind_eq_some_iff.mp h
    refine gg_cv (as := [.int i2, .ref a4]) (r := []) aMi29 rfl rfl rfl aMi31 (Nat.le_of_ble_eq_true rfl) rfl (Nat.le_of_ble_eq_true rfl) (Nat.le_of_ble_eq_true rfl) (by omega) (isK_of (sh1_z ha0)) (Tf31 (by omega) a0 ha0 i2 a4 ha4 r9_1.2 _ hxr155_21) ?_
    show aGo kad d 29 (158, ([(5, .ref (a3 + 1)), (0, .ref a0), (1, .int i1), (2, .int i2), (3, .ref a3), (4, .ref a4)], [])) (aMem Z r155_21.2, t) _
    refine go_ops aMi29 1 _ (f1 := (207, ([(5, .ref (a3 + 1)), (0, .ref a0), (1, .int i1), (2, .int i2), (3, .ref a3), (4, .ref a4)], []))) rfl ?_
    refine go_le (lv1 := [(0, .ref a0), (3, .ref a3)]) (aLe_of (show (List.map (fun q => q.1) ([(0, .ref a0), (3, .ref a3)] : ALv)).Nodup from (by show ([0, 3] : List Nat).Nodup; decide)) (aSubL_cons rfl (aSubL_cons rfl aSubL_nil))) ?_
    exact Tf29_b207 hd a0 ha0 a3 ha3 a4 ha4 r155_21.2 _ h
  rw [if_neg hs5] at h
  refine go_swd (tg := 161) (m := 6) aMi29 rfl rfl (by decide) (fun k hk => ?_) ?_
  · match k, hk with
    | 0, _ => exact hs0
    | 1, _ => exact hs1
    | 2, _ => exact hs2
    | 3, _ => exact hs3
    | 4, _ => exact hs4
    | 5, _ => exact hs5
    | k + 6, hk => exact absurd hk (by omega)
  refine go_ops aMi29 3 _ (f1 := (166, ([(5, .ref (a3 + 1)), (0, .ref a0), (1, .int i1), (2, .int i2), (3, .ref a3), (4, .ref a4)], [.int (1 : Int32), .ref (a3 + 1), .ref a4]))) rfl ?_
  obtain ⟨j166_22, hxj166_22, h⟩ := Option.bind_eq_some_iff.mp h
  refine gg_lI (Or.inl ⟨rfl, rfl⟩) aMi29 rfl (lI_of (sh2_a14 ha3) hxj166_22) ?_
  obtain ⟨r167_23, hxr167_23, h⟩ := Option.bind_eq_some_iff.mp h
  refine gg_cv (as := [.int (r9_1.2 (a3 + 1) j166_22)]) (r := []) aMi29 rfl rfl rfl aMi51 (Nat.le_of_ble_eq_true rfl) rfl (Nat.le_of_ble_eq_true rfl) (Nat.le_of_ble_eq_true rfl) (by omega) (isK_of (sh3_z ha4)) (Tf51 (by omega) a4 ha4 (r9_1.2 (a3 + 1) j166_22) r9_1.2 _ hxr167_23) ?_
  show aGo kad d 29 (170, ([(5, .ref (a3 + 1)), (0, .ref a0), (1, .int i1), (2, .int i2), (3, .ref a3), (4, .ref a4)], [.int r167_23.1])) (aMem Z r167_23.2, t) _
  refine go_ops aMi29 2 _ (f1 := (174, ([(6, .int r167_23.1), (5, .ref (a3 + 1)), (0, .ref a0), (1, .int i1), (2, .int i2), (3, .ref a3), (4, .ref a4)], [.int r167_23.1]))) rfl ?_
  refine gg_br (b := decide (r167_23.1 < 0)) (tg := 191) (off := 17) aMi29 rfl rfl rfl rfl (fun hb => ?_) (fun hb => ?_)
  · rw [if_pos (of_decide_eq_true hb)] at h
    refine go_le (lv1 := [(0, .ref a0), (2, .int i2), (3, .ref a3), (5, .ref (a3 + 1)), (6, .int r167_23.1)]) (aLe_of (show (List.map (fun q => q.1) ([(0, .ref a0), (2, .int i2), (3, .ref a3), (5, .ref (a3 + 1)), (6, .int r167_23.1)] : ALv)).Nodup from (by show ([0, 2, 3, 5, 6] : List Nat).Nodup; decide)) (aSubL_cons rfl (aSubL_cons rfl (aSubL_cons rfl (aSubL_cons rfl (aSubL_cons rfl aSubL_nil)))))) ?_
    exact Tf29_b191 hd a0 ha0 a3 ha3 a4 ha4 i2 r167_23.1 r167_23.2 _ h
  · rw [if_neg (of_decide_eq_false hb)] at h
    refine go_ops aMi29 2 _ (f1 := (180, ([(6, .int r167_23.1), (5, .ref (a3 + 1)), (0, .ref a0), (1, .int i1), (2, .int i2), (3, .ref a3), (4, .ref a4)], [.int i2, .int r167_23.1]))) rfl ?_
    refine gg_br (b := decide (r167_23.1 = i2)) (tg := 191) (off := 11) aMi29 rfl rfl rfl rfl (fun hb => ?_) (fun hb => ?_)
    · rw [if_pos (of_decide_eq_true hb)] at h
      refine go_le (lv1 := [(0, .ref a0), (2, .int i2), (3, .ref a3), (5, .ref (a3 + 1)), (6, .int r167_23.1)]) (aLe_of (show (List.map (fun q => q.1) ([(0, .ref a0), (2, .int i2), (3, .ref a3), (5, .ref (a3 + 1)), (6, .int r167_23.1)] : ALv)).Nodup from (by show ([0, 2, 3, 5, 6] : List Nat).Nodup; decide)) (aSubL_cons rfl (aSubL_cons rfl (aSubL_cons rfl (aSubL_cons rfl (aSubL_cons rfl aSubL_nil)))))) ?_
      exact Tf29_b191 hd a0 ha0 a3 ha3 a4 ha4 i2 r167_23.1 r167_23.2 _ h
    · rw [if_neg (of_decide_eq_false hb)] at h
      refine go_ops aMi29 3 _ (f1 := (188, ([(6, .int r167_23.1), (5, .ref (a3 + 1)), (0, .ref a0), (1, .int i1), (2, .int i2), (3, .ref a3), (4, .ref a4)], [.ref a4, .int r167_23.1, .ref a0]))) rfl ?_
      obtain ⟨r188_24, hxr188_24, h⟩ := Option.bind_eq_some_iff.mp h
      refine gg_cv (as := [.int r167_23.1, .ref a4]) (r := []) aMi29 rfl rfl rfl aMi31 (Nat.le_of_ble_eq_true rfl) rfl (Nat.le_of_ble_eq_true rfl) (Nat.le_of_ble_eq_true rfl) (by omega) (isK_of (sh1_z ha0)) (Tf31 (by omega) a0 ha0 r167_23.1 a4 ha4 r167_23.2 _ hxr188_24) ?_
      show aGo kad d 29 (191, ([(6, .int r167_23.1), (5, .ref (a3 + 1)), (0, .ref a0), (1, .int i1), (2, .int i2), (3, .ref a3), (4, .ref a4)], [])) (aMem Z r188_24.2, t) _
      refine go_le (lv1 := [(0, .ref a0), (2, .int i2), (3, .ref a3), (5, .ref (a3 + 1)), (6, .int r167_23.1)]) (aLe_of (show (List.map (fun q => q.1) ([(0, .ref a0), (2, .int i2), (3, .ref a3), (5, .ref (a3 + 1)), (6, .int r167_23.1)] : ALv)).Nodup from (by show ([0, 2, 3, 5, 6] : List Nat).Nodup; decide)) (aSubL_cons rfl (aSubL_cons rfl (aSubL_cons rfl (aSubL_cons rfl (aSubL_cons rfl aSubL_nil)))))) ?_
      exact Tf29_b191 hd a0 ha0 a3 ha3 a4 ha4 i2 r167_23.1 r188_24.2 _ h
-- KernelGym$FileCall.forget ()V
def f61 (kad : Nat → Nat) (N : Nat) (Z : AZ) (a0 : Nat) (I : AI) : Option (Unit × AI) :=
  (wI I a0 0 (0 : Int32)).bind fun I2_1 =>
  (wI I2_1 a0 1 (0 : Int32)).bind fun I7_2 =>
  some ((), I7_2)
set_option maxRecDepth 20000 in
theorem Tf61 {kad : Nat → Nat} {N : Nat} {Z : AZ} {d : Nat} {t : Option Nat × (Nat × Nat)} (hd : 0 ≤ d) : ∀ (a0 : Nat) (ha0 : sh4 kad Z a0) (I : AI) (r : Unit × AI), f61 kad N Z a0 I = some r → aGo kad d 61 (0, ([(0, .ref a0)], [])) (aMem Z I, t) (qV Z t r) := by
  intro a0 ha0 I r h
  unfold f61 at h
  refine go_ops aMi61 2 _ (f1 := (2, ([(0, .ref a0)], [.int (0 : Int32), .ref a0]))) rfl ?_
  obtain ⟨I2_1, hxI2_1, h⟩ := Option.bind_eq_some_iff.mp h
  refine gg_pI aMi61 rfl rfl rfl rfl (by decide) (pI_of (sh4_z ha0) hxI2_1) ?_
  refine go_ops aMi61 2 _ (f1 := (7, ([(0, .ref a0)], [.int (0 : Int32), .ref a0]))) rfl ?_
  obtain ⟨I7_2, hxI7_2, h⟩ := Option.bind_eq_some_iff.mp h
  refine gg_pI aMi61 rfl rfl rfl rfl (by decide) (pI_of (sh4_z ha0) hxI7_2) ?_
  cases h
  exact go_ret aMi61 rfl rfl ⟨rfl, rfl⟩
-- KernelGym$Core.empty ()V
def f37 (kad : Nat → Nat) (N : Nat) (Z : AZ) (a0 : Nat) (I : AI) : Option (Unit × AI) :=
  (wI I a0 0 (0 : Int32)).bind fun I2_1 =>
  (wI I2_1 a0 1 (0 : Int32)).bind fun I7_2 =>
  (wI I7_2 a0 2 (0 : Int32)).bind fun I12_3 =>
  (wI I12_3 a0 3 (0 : Int32)).bind fun I17_4 =>
  (wI I17_4 a0 4 (0 : Int32)).bind fun I22_5 =>
  (wI I22_5 a0 5 (0 : Int32)).bind fun I27_6 =>
  (wI I27_6 a0 6 (0 : Int32)).bind fun I32_7 =>
  (wI I32_7 a0 7 (0 : Int32)).bind fun I37_8 =>
  (wI I37_8 a0 8 (0 : Int32)).bind fun I42_9 =>
  (wI I42_9 a0 9 (0 : Int32)).bind fun I47_10 =>
  (wI I47_10 a0 10 (0 : Int32)).bind fun I52_11 =>
  (wI I52_11 a0 11 (0 : Int32)).bind fun I57_12 =>
  (wI I57_12 a0 12 (0 : Int32)).bind fun I62_13 =>
  (wI I62_13 a0 13 (0 : Int32)).bind fun I67_14 =>
  (f53 kad N Z (a0 + 1) (0 : Int32) I67_14).bind fun r75_15 =>
  (f61 kad N Z (a0 + 2) r75_15.2).bind fun r82_16 =>
  some ((), r82_16.2)
set_option maxRecDepth 20000 in
theorem Tf37 {kad : Nat → Nat} {N : Nat} {Z : AZ} {d : Nat} {t : Option Nat × (Nat × Nat)} (hd : 1 ≤ d) : ∀ (a0 : Nat) (ha0 : sh2 kad Z a0) (I : AI) (r : Unit × AI), f37 kad N Z a0 I = some r → aGo kad d 37 (0, ([(0, .ref a0)], [])) (aMem Z I, t) (qV Z t r) := by
  intro a0 ha0 I r h
  unfold f37 at h
  refine go_ops aMi37 2 _ (f1 := (2, ([(0, .ref a0)], [.int (0 : Int32), .ref a0]))) rfl ?_
  obtain ⟨I2_1, hxI2_1, h⟩ := Option.bind_eq_some_iff.mp h
  refine gg_pI aMi37 rfl rfl rfl rfl (by decide) (pI_of (sh2_z ha0) hxI2_1) ?_
  refine go_ops aMi37 2 _ (f1 := (7, ([(0, .ref a0)], [.int (0 : Int32), .ref a0]))) rfl ?_
  obtain ⟨I7_2, hxI7_2, h⟩ := Option.bind_eq_some_iff.mp h
  refine gg_pI aMi37 rfl rfl rfl rfl (by decide) (pI_of (sh2_z ha0) hxI7_2) ?_
  refine go_ops aMi37 2 _ (f1 := (12, ([(0, .ref a0)], [.int (0 : Int32), .ref a0]))) rfl ?_
  obtain ⟨I12_3, hxI12_3, h⟩ := Option.bind_eq_some_iff.mp h
  refine gg_pI aMi37 rfl rfl rfl rfl (by decide) (pI_of (sh2_z ha0) hxI12_3) ?_
  refine go_ops aMi37 2 _ (f1 := (17, ([(0, .ref a0)], [.int (0 : Int32), .ref a0]))) rfl ?_
  obtain ⟨I17_4, hxI17_4, h⟩ := Option.bind_eq_some_iff.mp h
  refine gg_pI aMi37 rfl rfl rfl rfl (by decide) (pI_of (sh2_z ha0) hxI17_4) ?_
  refine go_ops aMi37 2 _ (f1 := (22, ([(0, .ref a0)], [.int (0 : Int32), .ref a0]))) rfl ?_
  obtain ⟨I22_5, hxI22_5, h⟩ := Option.bind_eq_some_iff.mp h
  refine gg_pI aMi37 rfl rfl rfl rfl (by decide) (pI_of (sh2_z ha0) hxI22_5) ?_
  refine go_ops aMi37 2 _ (f1 := (27, ([(0, .ref a0)], [.int (0 : Int32), .ref a0]))) rfl ?_
  obtain ⟨I27_6, hxI27_6, h⟩ := Option.bind_eq_some_iff.mp h
  refine gg_pB aMi37 rfl rfl rfl rfl (by decide) (pB_lit (sh2_z ha0) (Or.inl rfl) hxI27_6) ?_
  refine go_ops aMi37 2 _ (f1 := (32, ([(0, .ref a0)], [.int (0 : Int32), .ref a0]))) rfl ?_
  obtain ⟨I32_7, hxI32_7, h⟩ := Option.bind_eq_some_iff.mp h
  refine gg_pB aMi37 rfl rfl rfl rfl (by decide) (pB_lit (sh2_z ha0) (Or.inl rfl) hxI32_7) ?_
  refine go_ops aMi37 2 _ (f1 := (37, ([(0, .ref a0)], [.int (0 : Int32), .ref a0]))) rfl ?_
  obtain ⟨I37_8, hxI37_8, h⟩ := Option.bind_eq_some_iff.mp h
  refine gg_pB aMi37 rfl rfl rfl rfl (by decide) (pB_lit (sh2_z ha0) (Or.inl rfl) hxI37_8) ?_
  refine go_ops aMi37 2 _ (f1 := (42, ([(0, .ref a0)], [.int (0 : Int32), .ref a0]))) rfl ?_
  obtain ⟨I42_9, hxI42_9, h⟩ := Option.bind_eq_some_iff.mp h
  refine gg_pB aMi37 rfl rfl rfl rfl (by decide) (pB_lit (sh2_z ha0) (Or.inl rfl) hxI42_9) ?_
  refine go_ops aMi37 2 _ (f1 := (47, ([(0, .ref a0)], [.int (0 : Int32), .ref a0]))) rfl ?_
  obtain ⟨I47_10, hxI47_10, h⟩ := Option.bind_eq_some_iff.mp h
  refine gg_pB aMi37 rfl rfl rfl rfl (by decide) (pB_lit (sh2_z ha0) (Or.inl rfl) hxI47_10) ?_
  refine go_ops aMi37 2 _ (f1 := (52, ([(0, .ref a0)], [.int (0 : Int32), .ref a0]))) rfl ?_
  obtain ⟨I52_11, hxI52_11, h⟩ := Option.bind_eq_some_iff.mp h
  refine gg_pI aMi37 rfl rfl rfl rfl (by decide) (pI_of (sh2_z ha0) hxI52_11) ?_
  refine go_ops aMi37 2 _ (f1 := (57, ([(0, .ref a0)], [.int (0 : Int32), .ref a0]))) rfl ?_
  obtain ⟨I57_12, hxI57_12, h⟩ := Option.bind_eq_some_iff.mp h
  refine gg_pI aMi37 rfl rfl rfl rfl (by decide) (pI_of (sh2_z ha0) hxI57_12) ?_
  refine go_ops aMi37 2 _ (f1 := (62, ([(0, .ref a0)], [.int (0 : Int32), .ref a0]))) rfl ?_
  obtain ⟨I62_13, hxI62_13, h⟩ := Option.bind_eq_some_iff.mp h
  refine gg_pI aMi37 rfl rfl rfl rfl (by decide) (pI_of (sh2_z ha0) hxI62_13) ?_
  refine go_ops aMi37 2 _ (f1 := (67, ([(0, .ref a0)], [.int (0 : Int32), .ref a0]))) rfl ?_
  obtain ⟨I67_14, hxI67_14, h⟩ := Option.bind_eq_some_iff.mp h
  refine gg_pI aMi37 rfl rfl rfl rfl (by decide) (pI_of (sh2_z ha0) hxI67_14) ?_
  refine go_ops aMi37 1 _ (f1 := (71, ([(0, .ref a0)], [.ref a0]))) rfl ?_
  refine gg_gR (b := (a0 + 1)) aMi37 rfl rfl rfl (gR_of (sh2_z ha0) (sh2_r14 ha0)) ?_
  refine go_ops aMi37 1 _ (f1 := (75, ([(0, .ref a0)], [.int (0 : Int32), .ref (a0 + 1)]))) rfl ?_
  obtain ⟨r75_15, hxr75_15, h⟩ := Option.bind_eq_some_iff.mp h
  refine gg_cs (as := [.ref (a0 + 1), .int (0 : Int32)]) (r := []) aMi37 rfl rfl rfl aMi53 rfl (Nat.le_of_ble_eq_true rfl) (Nat.le_of_ble_eq_true rfl) (by omega) (Tf53 (by omega) (a0 + 1) (0 : Int32) I67_14 _ hxr75_15) ?_
  show aGo kad d 37 (78, ([(0, .ref a0)], [])) (aMem Z r75_15.2, t) _
  refine go_ops aMi37 1 _ (f1 := (79, ([(0, .ref a0)], [.ref a0]))) rfl ?_
  refine gg_gR (b := (a0 + 2)) aMi37 rfl rfl rfl (gR_of (sh2_z ha0) (sh2_r15 ha0)) ?_
  obtain ⟨r82_16, hxr82_16, h⟩ := Option.bind_eq_some_iff.mp h
  refine gg_cv (as := []) (r := []) aMi37 rfl rfl rfl aMi61 (Nat.le_of_ble_eq_true rfl) rfl (Nat.le_of_ble_eq_true rfl) (Nat.le_of_ble_eq_true rfl) (by omega) (isK_of (sh4_z (sh2_s15 ha0))) (Tf61 (by omega) (a0 + 2) (sh2_s15 ha0) r75_15.2 _ hxr82_16) ?_
  show aGo kad d 37 (85, ([(0, .ref a0)], [])) (aMem Z r82_16.2, t) _
  cases h
  exact go_ret aMi37 rfl rfl ⟨rfl, rfl⟩
-- KernelGym$FileCall.copyFrom (LKernelGym$FileCall;)V
def f62_b59 (kad : Nat → Nat) (N : Nat) (Z : AZ) (a0 : Nat) (a1 : Nat) (I : AI) : Option (Unit × AI) :=
  some ((), I)
set_option maxRecDepth 20000 in
theorem Tf62_b59 {kad : Nat → Nat} {N : Nat} {Z : AZ} {d : Nat} {t : Option Nat × (Nat × Nat)} (hd : 0 ≤ d) : ∀ (a0 : Nat) (ha0 : sh4 kad Z a0) (a1 : Nat) (ha1 : sh4 kad Z a1) (I : AI) (r : Unit × AI), f62_b59 kad N Z a0 a1 I = some r → aGo kad d 62 (59, ([], [])) (aMem Z I, t) (qV Z t r) := by
  intro a0 ha0 a1 ha1 I r h
  unfold f62_b59 at h
  cases h
  exact go_ret aMi62 rfl rfl ⟨rfl, rfl⟩
def f62 (kad : Nat → Nat) (N : Nat) (Z : AZ) (a0 : Nat) (a1 : Nat) (I : AI) : Option (Unit × AI) :=
  (wI I a0 0 (I a1 0)).bind fun I5_1 =>
  (wI I5_1 a0 1 (I5_1 a1 1)).bind fun I13_2 =>
  if (I13_2 a0 0) ≤ 0 then
    f62_b59 kad N Z a0 a1 I13_2
  else
    (cA I13_2 (a1 + 1) 3 (0 : Int32) (a0 + 1) 3 (0 : Int32) (3 : Int32)).bind fun I38_3 =>
    (cA I38_3 (a1 + 2) 24 (0 : Int32) (a0 + 2) 24 (0 : Int32) (24 : Int32)).bind fun I56_4 =>
    f62_b59 kad N Z a0 a1 I56_4
set_option maxRecDepth 20000 in
theorem Tf62 {kad : Nat → Nat} {N : Nat} {Z : AZ} {d : Nat} {t : Option Nat × (Nat × Nat)} (hd : 0 ≤ d) : ∀ (a0 : Nat) (ha0 : sh4 kad Z a0) (a1 : Nat) (ha1 : sh4 kad Z a1) (I : AI) (r : Unit × AI), f62 kad N Z a0 a1 I = some r → aGo kad d 62 (0, ([(0, .ref a0), (1, .ref a1)], [])) (aMem Z I, t) (qV Z t r) := by
  intro a0 ha0 a1 ha1 I r h
  unfold f62 at h
  refine go_ops aMi62 2 _ (f1 := (2, ([(0, .ref a0), (1, .ref a1)], [.ref a1, .ref a0]))) rfl ?_
  refine gg_gI aMi62 rfl rfl rfl (gI_of (sh4_z ha1)) ?_
  obtain ⟨I5_1, hxI5_1, h⟩ := Option.bind_eq_some_iff.mp h
  refine gg_pI aMi62 rfl rfl rfl rfl (by decide) (pI_of (sh4_z ha0) hxI5_1) ?_
  refine go_ops aMi62 2 _ (f1 := (10, ([(0, .ref a0), (1, .ref a1)], [.ref a1, .ref a0]))) rfl ?_
  refine gg_gI aMi62 rfl rfl rfl (gI_of (sh4_z ha1)) ?_
  obtain ⟨I13_2, hxI13_2, h⟩ := Option.bind_eq_some_iff.mp h
  refine gg_pI aMi62 rfl rfl rfl rfl (by decide) (pI_of (sh4_z ha0) hxI13_2) ?_
  refine go_ops aMi62 1 _ (f1 := (17, ([(0, .ref a0), (1, .ref a1)], [.ref a0]))) rfl ?_
  refine gg_gI aMi62 rfl rfl rfl (gI_of (sh4_z ha0)) ?_
  refine gg_br (b := decide ((I13_2 a0 0) ≤ 0)) (tg := 59) (off := 39) aMi62 rfl rfl rfl rfl (fun hb => ?_) (fun hb => ?_)
  · rw [if_pos (of_decide_eq_true hb)] at h
    refine go_le (lv1 := []) (aLe_of (show (List.map (fun q => q.1) ([] : ALv)).Nodup from (by show ([] : List Nat).Nodup; decide)) aSubL_nil) ?_
    exact Tf62_b59 hd a0 ha0 a1 ha1 I13_2 _ h
  · rw [if_neg (of_decide_eq_false hb)] at h
    refine go_ops aMi62 1 _ (f1 := (24, ([(0, .ref a0), (1, .ref a1)], [.ref a1]))) rfl ?_
    refine gg_gR (b := (a1 + 1)) aMi62 rfl rfl rfl (gR_of (sh4_z ha1) (sh4_r2 ha1)) ?_
    refine go_ops aMi62 2 _ (f1 := (29, ([(0, .ref a0), (1, .ref a1)], [.ref a0, .int (0 : Int32), .ref (a1 + 1)]))) rfl ?_
    refine gg_gR (b := (a0 + 1)) aMi62 rfl rfl rfl (gR_of (sh4_z ha0) (sh4_r2 ha0)) ?_
    refine go_ops aMi62 2 _ (f1 := (34, ([(0, .ref a0), (1, .ref a1)], [.ref a0, .int (0 : Int32), .ref (a0 + 1), .int (0 : Int32), .ref (a1 + 1)]))) rfl ?_
    refine gg_gR (b := (a0 + 1)) aMi62 rfl rfl rfl (gR_of (sh4_z ha0) (sh4_r2 ha0)) ?_
    refine gg_len aMi62 rfl (nL_of (sh4_a2 ha0) (by decide)) ?_
    obtain ⟨I38_3, hxI38_3, h⟩ := Option.bind_eq_some_iff.mp h
    refine gg_cp aMi62 rfl rfl (Nat.le_of_ble_eq_true rfl) (cI_of (sh4_a2 ha1) (sh4_a2 ha0) hxI38_3) ?_
    refine go_ops aMi62 1 _ (f1 := (42, ([(0, .ref a0), (1, .ref a1)], [.ref a1]))) rfl ?_
    refine gg_gR (b := (a1 + 2)) aMi62 rfl rfl rfl (gR_of (sh4_z ha1) (sh4_r3 ha1)) ?_
    refine go_ops aMi62 2 _ (f1 := (47, ([(0, .ref a0), (1, .ref a1)], [.ref a0, .int (0 : Int32), .ref (a1 + 2)]))) rfl ?_
    refine gg_gR (b := (a0 + 2)) aMi62 rfl rfl rfl (gR_of (sh4_z ha0) (sh4_r3 ha0)) ?_
    refine go_ops aMi62 2 _ (f1 := (52, ([(0, .ref a0), (1, .ref a1)], [.ref a0, .int (0 : Int32), .ref (a0 + 2), .int (0 : Int32), .ref (a1 + 2)]))) rfl ?_
    refine gg_gR (b := (a0 + 2)) aMi62 rfl rfl rfl (gR_of (sh4_z ha0) (sh4_r3 ha0)) ?_
    refine gg_len aMi62 rfl (nL_of (sh4_a3 ha0) (by decide)) ?_
    obtain ⟨I56_4, hxI56_4, h⟩ := Option.bind_eq_some_iff.mp h
    refine gg_cp aMi62 rfl rfl (Nat.le_of_ble_eq_true rfl) (cI_of (sh4_a3 ha1) (sh4_a3 ha0) hxI56_4) ?_
    refine go_le (lv1 := []) (aLe_of (show (List.map (fun q => q.1) ([] : ALv)).Nodup from (by show ([] : List Nat).Nodup; decide)) aSubL_nil) ?_
    exact Tf62_b59 hd a0 ha0 a1 ha1 I56_4 _ h
-- KernelGym$Core.copyFrom (LKernelGym$Core;)V
def f38 (kad : Nat → Nat) (N : Nat) (Z : AZ) (a0 : Nat) (a1 : Nat) (I : AI) : Option (Unit × AI) :=
  (wI I a0 0 (I a1 0)).bind fun I5_1 =>
  (wI I5_1 a0 1 (I5_1 a1 1)).bind fun I13_2 =>
  (wI I13_2 a0 2 (I13_2 a1 2)).bind fun I21_3 =>
  (wI I21_3 a0 3 (I21_3 a1 3)).bind fun I29_4 =>
  (wI I29_4 a0 4 (I29_4 a1 4)).bind fun I37_5 =>
  (wB I37_5 a0 5 (I37_5 a1 5)).bind fun I45_6 =>
  (wB I45_6 a0 6 (I45_6 a1 6)).bind fun I53_7 =>
  (wB I53_7 a0 7 (I53_7 a1 7)).bind fun I61_8 =>
  (wB I61_8 a0 8 (I61_8 a1 8)).bind fun I69_9 =>
  (wB I69_9 a0 9 (I69_9 a1 9)).bind fun I77_10 =>
  (wI I77_10 a0 10 (I77_10 a1 10)).bind fun I85_11 =>
  (wI I85_11 a0 11 (I85_11 a1 11)).bind fun I93_12 =>
  (wI I93_12 a0 12 (I93_12 a1 12)).bind fun I101_13 =>
  (wI I101_13 a0 13 (I101_13 a1 13)).bind fun I109_14 =>
  (cA I109_14 (a1 + 1) 4 (0 : Int32) (a0 + 1) 4 (0 : Int32) (4 : Int32)).bind fun I123_15 =>
  (f62 kad N Z (a0 + 2) (a1 + 2) I123_15).bind fun r134_16 =>
  some ((), r134_16.2)
set_option maxRecDepth 20000 in
theorem Tf38 {kad : Nat → Nat} {N : Nat} {Z : AZ} {d : Nat} {t : Option Nat × (Nat × Nat)} (hd : 1 ≤ d) : ∀ (a0 : Nat) (ha0 : sh2 kad Z a0) (a1 : Nat) (ha1 : sh2 kad Z a1) (I : AI) (r : Unit × AI), f38 kad N Z a0 a1 I = some r → aGo kad d 38 (0, ([(0, .ref a0), (1, .ref a1)], [])) (aMem Z I, t) (qV Z t r) := by
  intro a0 ha0 a1 ha1 I r h
  unfold f38 at h
  refine go_ops aMi38 2 _ (f1 := (2, ([(0, .ref a0), (1, .ref a1)], [.ref a1, .ref a0]))) rfl ?_
  refine gg_gI aMi38 rfl rfl rfl (gI_of (sh2_z ha1)) ?_
  obtain ⟨I5_1, hxI5_1, h⟩ := Option.bind_eq_some_iff.mp h
  refine gg_pI aMi38 rfl rfl rfl rfl (by decide) (pI_of (sh2_z ha0) hxI5_1) ?_
  refine go_ops aMi38 2 _ (f1 := (10, ([(0, .ref a0), (1, .ref a1)], [.ref a1, .ref a0]))) rfl ?_
  refine gg_gI aMi38 rfl rfl rfl (gI_of (sh2_z ha1)) ?_
  obtain ⟨I13_2, hxI13_2, h⟩ := Option.bind_eq_some_iff.mp h
  refine gg_pI aMi38 rfl rfl rfl rfl (by decide) (pI_of (sh2_z ha0) hxI13_2) ?_
  refine go_ops aMi38 2 _ (f1 := (18, ([(0, .ref a0), (1, .ref a1)], [.ref a1, .ref a0]))) rfl ?_
  refine gg_gI aMi38 rfl rfl rfl (gI_of (sh2_z ha1)) ?_
  obtain ⟨I21_3, hxI21_3, h⟩ := Option.bind_eq_some_iff.mp h
  refine gg_pI aMi38 rfl rfl rfl rfl (by decide) (pI_of (sh2_z ha0) hxI21_3) ?_
  refine go_ops aMi38 2 _ (f1 := (26, ([(0, .ref a0), (1, .ref a1)], [.ref a1, .ref a0]))) rfl ?_
  refine gg_gI aMi38 rfl rfl rfl (gI_of (sh2_z ha1)) ?_
  obtain ⟨I29_4, hxI29_4, h⟩ := Option.bind_eq_some_iff.mp h
  refine gg_pI aMi38 rfl rfl rfl rfl (by decide) (pI_of (sh2_z ha0) hxI29_4) ?_
  refine go_ops aMi38 2 _ (f1 := (34, ([(0, .ref a0), (1, .ref a1)], [.ref a1, .ref a0]))) rfl ?_
  refine gg_gI aMi38 rfl rfl rfl (gI_of (sh2_z ha1)) ?_
  obtain ⟨I37_5, hxI37_5, h⟩ := Option.bind_eq_some_iff.mp h
  refine gg_pI aMi38 rfl rfl rfl rfl (by decide) (pI_of (sh2_z ha0) hxI37_5) ?_
  refine go_ops aMi38 2 _ (f1 := (42, ([(0, .ref a0), (1, .ref a1)], [.ref a1, .ref a0]))) rfl ?_
  refine gg_gI aMi38 rfl rfl rfl (gI_of (sh2_z ha1)) ?_
  obtain ⟨I45_6, hxI45_6, h⟩ := Option.bind_eq_some_iff.mp h
  refine gg_pB aMi38 rfl rfl rfl rfl (by decide) (pB_of (sh2_z ha0) hxI45_6) ?_
  refine go_ops aMi38 2 _ (f1 := (50, ([(0, .ref a0), (1, .ref a1)], [.ref a1, .ref a0]))) rfl ?_
  refine gg_gI aMi38 rfl rfl rfl (gI_of (sh2_z ha1)) ?_
  obtain ⟨I53_7, hxI53_7, h⟩ := Option.bind_eq_some_iff.mp h
  refine gg_pB aMi38 rfl rfl rfl rfl (by decide) (pB_of (sh2_z ha0) hxI53_7) ?_
  refine go_ops aMi38 2 _ (f1 := (58, ([(0, .ref a0), (1, .ref a1)], [.ref a1, .ref a0]))) rfl ?_
  refine gg_gI aMi38 rfl rfl rfl (gI_of (sh2_z ha1)) ?_
  obtain ⟨I61_8, hxI61_8, h⟩ := Option.bind_eq_some_iff.mp h
  refine gg_pB aMi38 rfl rfl rfl rfl (by decide) (pB_of (sh2_z ha0) hxI61_8) ?_
  refine go_ops aMi38 2 _ (f1 := (66, ([(0, .ref a0), (1, .ref a1)], [.ref a1, .ref a0]))) rfl ?_
  refine gg_gI aMi38 rfl rfl rfl (gI_of (sh2_z ha1)) ?_
  obtain ⟨I69_9, hxI69_9, h⟩ := Option.bind_eq_some_iff.mp h
  refine gg_pB aMi38 rfl rfl rfl rfl (by decide) (pB_of (sh2_z ha0) hxI69_9) ?_
  refine go_ops aMi38 2 _ (f1 := (74, ([(0, .ref a0), (1, .ref a1)], [.ref a1, .ref a0]))) rfl ?_
  refine gg_gI aMi38 rfl rfl rfl (gI_of (sh2_z ha1)) ?_
  obtain ⟨I77_10, hxI77_10, h⟩ := Option.bind_eq_some_iff.mp h
  refine gg_pB aMi38 rfl rfl rfl rfl (by decide) (pB_of (sh2_z ha0) hxI77_10) ?_
  refine go_ops aMi38 2 _ (f1 := (82, ([(0, .ref a0), (1, .ref a1)], [.ref a1, .ref a0]))) rfl ?_
  refine gg_gI aMi38 rfl rfl rfl (gI_of (sh2_z ha1)) ?_
  obtain ⟨I85_11, hxI85_11, h⟩ := Option.bind_eq_some_iff.mp h
  refine gg_pI aMi38 rfl rfl rfl rfl (by decide) (pI_of (sh2_z ha0) hxI85_11) ?_
  refine go_ops aMi38 2 _ (f1 := (90, ([(0, .ref a0), (1, .ref a1)], [.ref a1, .ref a0]))) rfl ?_
  refine gg_gI aMi38 rfl rfl rfl (gI_of (sh2_z ha1)) ?_
  obtain ⟨I93_12, hxI93_12, h⟩ := Option.bind_eq_some_iff.mp h
  refine gg_pI aMi38 rfl rfl rfl rfl (by decide) (pI_of (sh2_z ha0) hxI93_12) ?_
  refine go_ops aMi38 2 _ (f1 := (98, ([(0, .ref a0), (1, .ref a1)], [.ref a1, .ref a0]))) rfl ?_
  refine gg_gI aMi38 rfl rfl rfl (gI_of (sh2_z ha1)) ?_
  obtain ⟨I101_13, hxI101_13, h⟩ := Option.bind_eq_some_iff.mp h
  refine gg_pI aMi38 rfl rfl rfl rfl (by decide) (pI_of (sh2_z ha0) hxI101_13) ?_
  refine go_ops aMi38 2 _ (f1 := (106, ([(0, .ref a0), (1, .ref a1)], [.ref a1, .ref a0]))) rfl ?_
  refine gg_gI aMi38 rfl rfl rfl (gI_of (sh2_z ha1)) ?_
  obtain ⟨I109_14, hxI109_14, h⟩ := Option.bind_eq_some_iff.mp h
  refine gg_pI aMi38 rfl rfl rfl rfl (by decide) (pI_of (sh2_z ha0) hxI109_14) ?_
  refine go_ops aMi38 1 _ (f1 := (113, ([(0, .ref a0), (1, .ref a1)], [.ref a1]))) rfl ?_
  refine gg_gR (b := (a1 + 1)) aMi38 rfl rfl rfl (gR_of (sh2_z ha1) (sh2_r14 ha1)) ?_
  refine go_ops aMi38 2 _ (f1 := (118, ([(0, .ref a0), (1, .ref a1)], [.ref a0, .int (0 : Int32), .ref (a1 + 1)]))) rfl ?_
  refine gg_gR (b := (a0 + 1)) aMi38 rfl rfl rfl (gR_of (sh2_z ha0) (sh2_r14 ha0)) ?_
  refine go_ops aMi38 2 _ (f1 := (123, ([(0, .ref a0), (1, .ref a1)], [.int (4 : Int32), .int (0 : Int32), .ref (a0 + 1), .int (0 : Int32), .ref (a1 + 1)]))) rfl ?_
  obtain ⟨I123_15, hxI123_15, h⟩ := Option.bind_eq_some_iff.mp h
  refine gg_cp aMi38 rfl rfl (Nat.le_of_ble_eq_true rfl) (cI_of (sh2_a14 ha1) (sh2_a14 ha0) hxI123_15) ?_
  refine go_ops aMi38 1 _ (f1 := (127, ([(0, .ref a0), (1, .ref a1)], [.ref a0]))) rfl ?_
  refine gg_gR (b := (a0 + 2)) aMi38 rfl rfl rfl (gR_of (sh2_z ha0) (sh2_r15 ha0)) ?_
  refine go_ops aMi38 1 _ (f1 := (131, ([(0, .ref a0), (1, .ref a1)], [.ref a1, .ref (a0 + 2)]))) rfl ?_
  refine gg_gR (b := (a1 + 2)) aMi38 rfl rfl rfl (gR_of (sh2_z ha1) (sh2_r15 ha1)) ?_
  obtain ⟨r134_16, hxr134_16, h⟩ := Option.bind_eq_some_iff.mp h
  refine gg_cv (as := [.ref (a1 + 2)]) (r := []) aMi38 rfl rfl rfl aMi62 (Nat.le_of_ble_eq_true rfl) rfl (Nat.le_of_ble_eq_true rfl) (Nat.le_of_ble_eq_true rfl) (by omega) (isK_of (sh4_z (sh2_s15 ha0))) (Tf62 (by omega) (a0 + 2) (sh2_s15 ha0) (a1 + 2) (sh2_s15 ha1) I123_15 _ hxr134_16) ?_
  show aGo kad d 38 (137, ([(0, .ref a0), (1, .ref a1)], [])) (aMem Z r134_16.2, t) _
  cases h
  exact go_ret aMi38 rfl rfl ⟨rfl, rfl⟩
-- KernelGym$Core.zeroAndLess ()I
def f39_b24 (kad : Nat → Nat) (N : Nat) (Z : AZ) (a0 : Nat) (s0 : Int32) (s1 : Int32) (I : AI) : Option (Int32 × AI) :=
  some ((s1 + s0), I)
set_option maxRecDepth 20000 in
theorem Tf39_b24 {kad : Nat → Nat} {N : Nat} {Z : AZ} {d : Nat} {t : Option Nat × (Nat × Nat)} (hd : 0 ≤ d) : ∀ (a0 : Nat) (ha0 : sh2 kad Z a0) (s0 : Int32) (s1 : Int32) (I : AI) (r : Int32 × AI), f39_b24 kad N Z a0 s0 s1 I = some r → aGo kad d 39 (24, ([], [.int s0, .int s1])) (aMem Z I, t) (qI Z t r) := by
  intro a0 ha0 s0 s1 I r h
  unfold f39_b24 at h
  refine go_ops aMi39 1 _ (f1 := (25, ([], [.int (s1 + s0)]))) rfl ?_
  cases h
  exact go_ret aMi39 rfl aRetI ⟨rfl, rfl⟩
def f39_b12 (kad : Nat → Nat) (N : Nat) (Z : AZ) (a0 : Nat) (s0 : Int32) (I : AI) : Option (Int32 × AI) :=
  if (I a0 6) = 0 then
    f39_b24 kad N Z a0 (0 : Int32) s0 I
  else
    f39_b24 kad N Z a0 (2 : Int32) s0 I
set_option maxRecDepth 20000 in
theorem Tf39_b12 {kad : Nat → Nat} {N : Nat} {Z : AZ} {d : Nat} {t : Option Nat × (Nat × Nat)} (hd : 0 ≤ d) : ∀ (a0 : Nat) (ha0 : sh2 kad Z a0) (s0 : Int32) (I : AI) (r : Int32 × AI), f39_b12 kad N Z a0 s0 I = some r → aGo kad d 39 (12, ([(0, .ref a0)], [.int s0])) (aMem Z I, t) (qI Z t r) := by
  intro a0 ha0 s0 I r h
  unfold f39_b12 at h
  refine go_ops aMi39 1 _ (f1 := (13, ([(0, .ref a0)], [.ref a0, .int s0]))) rfl ?_
  refine gg_gI aMi39 rfl rfl rfl (gI_of (sh2_z ha0)) ?_
  refine gg_br (b := decide ((I a0 6) = 0)) (tg := 23) (off := 7) aMi39 rfl rfl rfl rfl (fun hb => ?_) (fun hb => ?_)
  · rw [if_pos (of_decide_eq_true hb)] at h
    refine go_ops aMi39 1 _ (f1 := (24, ([(0, .ref a0)], [.int (0 : Int32), .int s0]))) rfl ?_
    refine go_le (lv1 := []) (aLe_of (show (List.map (fun q => q.1) ([] : ALv)).Nodup from (by show ([] : List Nat).Nodup; decide)) aSubL_nil) ?_
    exact Tf39_b24 hd a0 ha0 (0 : Int32) s0 I _ h
  · rw [if_neg (of_decide_eq_false hb)] at h
    refine go_ops aMi39 2 _ (f1 := (24, ([(0, .ref a0)], [.int (2 : Int32), .int s0]))) rfl ?_
    refine go_le (lv1 := []) (aLe_of (show (List.map (fun q => q.1) ([] : ALv)).Nodup from (by show ([] : List Nat).Nodup; decide)) aSubL_nil) ?_
    exact Tf39_b24 hd a0 ha0 (2 : Int32) s0 I _ h
def f39 (kad : Nat → Nat) (N : Nat) (Z : AZ) (a0 : Nat) (I : AI) : Option (Int32 × AI) :=
  if (I a0 5) = 0 then
    f39_b12 kad N Z a0 (0 : Int32) I
  else
    f39_b12 kad N Z a0 (1 : Int32) I
set_option maxRecDepth 20000 in
theorem Tf39 {kad : Nat → Nat} {N : Nat} {Z : AZ} {d : Nat} {t : Option Nat × (Nat × Nat)} (hd : 0 ≤ d) : ∀ (a0 : Nat) (ha0 : sh2 kad Z a0) (I : AI) (r : Int32 × AI), f39 kad N Z a0 I = some r → aGo kad d 39 (0, ([(0, .ref a0)], [])) (aMem Z I, t) (qI Z t r) := by
  intro a0 ha0 I r h
  unfold f39 at h
  refine go_ops aMi39 1 _ (f1 := (1, ([(0, .ref a0)], [.ref a0]))) rfl ?_
  refine gg_gI aMi39 rfl rfl rfl (gI_of (sh2_z ha0)) ?_
  refine gg_br (b := decide ((I a0 5) = 0)) (tg := 11) (off := 7) aMi39 rfl rfl rfl rfl (fun hb => ?_) (fun hb => ?_)
  · rw [if_pos (of_decide_eq_true hb)] at h
    refine go_ops aMi39 1 _ (f1 := (12, ([(0, .ref a0)], [.int (0 : Int32)]))) rfl ?_
    exact Tf39_b12 hd a0 ha0 (0 : Int32) I _ h
  · rw [if_neg (of_decide_eq_false hb)] at h
    refine go_ops aMi39 2 _ (f1 := (12, ([(0, .ref a0)], [.int (1 : Int32)]))) rfl ?_
    exact Tf39_b12 hd a0 ha0 (1 : Int32) I _ h
-- KernelGym$Core.allFlags ()I
def f40_b44 (kad : Nat → Nat) (N : Nat) (Z : AZ) (a0 : Nat) (s0 : Int32) (s1 : Int32) (I : AI) : Option (Int32 × AI) :=
  some ((s1 + s0), I)
set_option maxRecDepth 20000 in
theorem Tf40_b44 {kad : Nat → Nat} {N : Nat} {Z : AZ} {d : Nat} {t : Option Nat × (Nat × Nat)} (hd : 1 ≤ d) : ∀ (a0 : Nat) (ha0 : sh2 kad Z a0) (s0 : Int32) (s1 : Int32) (I : AI) (r : Int32 × AI), f40_b44 kad N Z a0 s0 s1 I = some r → aGo kad d 40 (44, ([], [.int s0, .int s1])) (aMem Z I, t) (qI Z t r) := by
  intro a0 ha0 s0 s1 I r h
  unfold f40_b44 at h
  refine go_ops aMi40 1 _ (f1 := (45, ([], [.int (s1 + s0)]))) rfl ?_
  cases h
  exact go_ret aMi40 rfl aRetI ⟨rfl, rfl⟩
def f40_b30 (kad : Nat → Nat) (N : Nat) (Z : AZ) (a0 : Nat) (s0 : Int32) (s1 : Int32) (I : AI) : Option (Int32 × AI) :=
  if (I a0 9) = 0 then
    f40_b44 kad N Z a0 (0 : Int32) (s1 + s0) I
  else
    f40_b44 kad N Z a0 (16 : Int32) (s1 + s0) I
set_option maxRecDepth 20000 in
theorem Tf40_b30 {kad : Nat → Nat} {N : Nat} {Z : AZ} {d : Nat} {t : Option Nat × (Nat × Nat)} (hd : 1 ≤ d) : ∀ (a0 : Nat) (ha0 : sh2 kad Z a0) (s0 : Int32) (s1 : Int32) (I : AI) (r : Int32 × AI), f40_b30 kad N Z a0 s0 s1 I = some r → aGo kad d 40 (30, ([(0, .ref a0)], [.int s0, .int s1])) (aMem Z I, t) (qI Z t r) := by
  intro a0 ha0 s0 s1 I r h
  unfold f40_b30 at h
  refine go_ops aMi40 2 _ (f1 := (32, ([(0, .ref a0)], [.ref a0, .int (s1 + s0)]))) rfl ?_
  refine gg_gI aMi40 rfl rfl rfl (gI_of (sh2_z ha0)) ?_
  refine gg_br (b := decide ((I a0 9) = 0)) (tg := 43) (off := 8) aMi40 rfl rfl rfl rfl (fun hb => ?_) (fun hb => ?_)
  · rw [if_pos (of_decide_eq_true hb)] at h
    refine go_ops aMi40 1 _ (f1 := (44, ([(0, .ref a0)], [.int (0 : Int32), .int (s1 + s0)]))) rfl ?_
    refine go_le (lv1 := []) (aLe_of (show (List.map (fun q => q.1) ([] : ALv)).Nodup from (by show ([] : List Nat).Nodup; decide)) aSubL_nil) ?_
    exact Tf40_b44 hd a0 ha0 (0 : Int32) (s1 + s0) I _ h
  · rw [if_neg (of_decide_eq_false hb)] at h
    refine go_ops aMi40 2 _ (f1 := (44, ([(0, .ref a0)], [.int (16 : Int32), .int (s1 + s0)]))) rfl ?_
    refine go_le (lv1 := []) (aLe_of (show (List.map (fun q => q.1) ([] : ALv)).Nodup from (by show ([] : List Nat).Nodup; decide)) aSubL_nil) ?_
    exact Tf40_b44 hd a0 ha0 (16 : Int32) (s1 + s0) I _ h
def f40_b16 (kad : Nat → Nat) (N : Nat) (Z : AZ) (a0 : Nat) (s0 : Int32) (s1 : Int32) (I : AI) : Option (Int32 × AI) :=
  if (I a0 8) = 0 then
    f40_b30 kad N Z a0 (0 : Int32) (s1 + s0) I
  else
    f40_b30 kad N Z a0 (8 : Int32) (s1 + s0) I
set_option maxRecDepth 20000 in
theorem Tf40_b16 {kad : Nat → Nat} {N : Nat} {Z : AZ} {d : Nat} {t : Option Nat × (Nat × Nat)} (hd : 1 ≤ d) : ∀ (a0 : Nat) (ha0 : sh2 kad Z a0) (s0 : Int32) (s1 : Int32) (I : AI) (r : Int32 × AI), f40_b16 kad N Z a0 s0 s1 I = some r → aGo kad d 40 (16, ([(0, .ref a0)], [.int s0, .int s1])) (aMem Z I, t) (qI Z t r) := by
  intro a0 ha0 s0 s1 I r h
  unfold f40_b16 at h
  refine go_ops aMi40 2 _ (f1 := (18, ([(0, .ref a0)], [.ref a0, .int (s1 + s0)]))) rfl ?_
  refine gg_gI aMi40 rfl rfl rfl (gI_of (sh2_z ha0)) ?_
  refine gg_br (b := decide ((I a0 8) = 0)) (tg := 29) (off := 8) aMi40 rfl rfl rfl rfl (fun hb => ?_) (fun hb => ?_)
  · rw [if_pos (of_decide_eq_true hb)] at h
    refine go_ops aMi40 1 _ (f1 := (30, ([(0, .ref a0)], [.int (0 : Int32), .int (s1 + s0)]))) rfl ?_
    exact Tf40_b30 hd a0 ha0 (0 : Int32) (s1 + s0) I _ h
  · rw [if_neg (of_decide_eq_false hb)] at h
    refine go_ops aMi40 2 _ (f1 := (30, ([(0, .ref a0)], [.int (8 : Int32), .int (s1 + s0)]))) rfl ?_
    exact Tf40_b30 hd a0 ha0 (8 : Int32) (s1 + s0) I _ h
def f40 (kad : Nat → Nat) (N : Nat) (Z : AZ) (a0 : Nat) (I : AI) : Option (Int32 × AI) :=
  (f39 kad N Z a0 I).bind fun r1_1 =>
  if ((r1_1.2) a0 7) = 0 then
    f40_b16 kad N Z a0 (0 : Int32) r1_1.1 r1_1.2
  else
    f40_b16 kad N Z a0 (4 : Int32) r1_1.1 r1_1.2
set_option maxRecDepth 20000 in
theorem Tf40 {kad : Nat → Nat} {N : Nat} {Z : AZ} {d : Nat} {t : Option Nat × (Nat × Nat)} (hd : 1 ≤ d) : ∀ (a0 : Nat) (ha0 : sh2 kad Z a0) (I : AI) (r : Int32 × AI), f40 kad N Z a0 I = some r → aGo kad d 40 (0, ([(0, .ref a0)], [])) (aMem Z I, t) (qI Z t r) := by
  intro a0 ha0 I r h
  unfold f40 at h
  refine go_ops aMi40 1 _ (f1 := (1, ([(0, .ref a0)], [.ref a0]))) rfl ?_
  obtain ⟨r1_1, hxr1_1, h⟩ := Option.bind_eq_some_iff.mp h
  refine gg_cv (as := []) (r := []) aMi40 rfl rfl rfl aMi39 (Nat.le_of_ble_eq_true rfl) rfl (Nat.le_of_ble_eq_true rfl) (Nat.le_of_ble_eq_true rfl) (by omega) (isK_of (sh2_z ha0)) (Tf39 (by omega) a0 ha0 I _ hxr1_1) ?_
  show aGo kad d 40 (4, ([(0, .ref a0)], [.int r1_1.1])) (aMem Z r1_1.2, t) _
  refine go_ops aMi40 1 _ (f1 := (5, ([(0, .ref a0)], [.ref a0, .int r1_1.1]))) rfl ?_
  refine gg_gI aMi40 rfl rfl rfl (gI_of (sh2_z ha0)) ?_
  refine gg_br (b := decide (((r1_1.2) a0 7) = 0)) (tg := 15) (off := 7) aMi40 rfl rfl rfl rfl (fun hb => ?_) (fun hb => ?_)
  · rw [if_pos (of_decide_eq_true hb)] at h
    refine go_ops aMi40 1 _ (f1 := (16, ([(0, .ref a0)], [.int (0 : Int32), .int r1_1.1]))) rfl ?_
    exact Tf40_b16 hd a0 ha0 (0 : Int32) r1_1.1 r1_1.2 _ h
  · rw [if_neg (of_decide_eq_false hb)] at h
    refine go_ops aMi40 2 _ (f1 := (16, ([(0, .ref a0)], [.int (4 : Int32), .int r1_1.1]))) rfl ?_
    exact Tf40_b16 hd a0 ha0 (4 : Int32) r1_1.1 r1_1.2 _ h
-- KernelGym$Disk.erase ()V
def f42 (kad : Nat → Nat) (N : Nat) (Z : AZ) (a0 : Nat) (I : AI) : Option (Unit × AI) :=
  (f53 kad N Z (a0 + 1) (0 : Int32) I).bind fun r5_1 =>
  (ixA 256 (32 : Int32)).bind fun j17_3 =>
  (wI r5_1.2 (a0 + 1) j17_3 (255 : Int32)).bind fun I17_2 =>
  (wI I17_2 a0 1 (0 : Int32)).bind fun I20_4 =>
  some ((), I20_4)
set_option maxRecDepth 20000 in
theorem Tf42 {kad : Nat → Nat} {N : Nat} {Z : AZ} {d : Nat} {t : Option Nat × (Nat × Nat)} (hd : 1 ≤ d) : ∀ (a0 : Nat) (ha0 : sh3 kad Z a0) (I : AI) (r : Unit × AI), f42 kad N Z a0 I = some r → aGo kad d 42 (0, ([(0, .ref a0)], [])) (aMem Z I, t) (qV Z t r) := by
  intro a0 ha0 I r h
  unfold f42 at h
  refine go_ops aMi42 1 _ (f1 := (1, ([(0, .ref a0)], [.ref a0]))) rfl ?_
  refine gg_gR (b := (a0 + 1)) aMi42 rfl rfl rfl (gR_of (sh3_z ha0) (sh3_r0 ha0)) ?_
  refine go_ops aMi42 1 _ (f1 := (5, ([(0, .ref a0)], [.int (0 : Int32), .ref (a0 + 1)]))) rfl ?_
  obtain ⟨r5_1, hxr5_1, h⟩ := Option.bind_eq_some_iff.mp h
  refine gg_cs (as := [.ref (a0 + 1), .int (0 : Int32)]) (r := []) aMi42 rfl rfl rfl aMi53 rfl (Nat.le_of_ble_eq_true rfl) (Nat.le_of_ble_eq_true rfl) (by omega) (Tf53 (by omega) (a0 + 1) (0 : Int32) I _ hxr5_1) ?_
  show aGo kad d 42 (8, ([(0, .ref a0)], [])) (aMem Z r5_1.2, t) _
  refine go_ops aMi42 1 _ (f1 := (9, ([(0, .ref a0)], [.ref a0]))) rfl ?_
  refine gg_gR (b := (a0 + 1)) aMi42 rfl rfl rfl (gR_of (sh3_z ha0) (sh3_r0 ha0)) ?_
  refine go_ops aMi42 2 _ (f1 := (17, ([(0, .ref a0)], [.int (255 : Int32), .int (32 : Int32), .ref (a0 + 1)]))) rfl ?_
  obtain ⟨j17_3, hxj17_3, h⟩ := Option.bind_eq_some_iff.mp h
  obtain ⟨I17_2, hxI17_2, h⟩ := Option.bind_eq_some_iff.mp h
  refine gg_sI (Or.inl ⟨rfl, rfl⟩) aMi42 rfl (sI_of (sh3_a0 ha0) hxj17_3 hxI17_2) ?_
  refine go_ops aMi42 2 _ (f1 := (20, ([(0, .ref a0)], [.int (0 : Int32), .ref a0]))) rfl ?_
  obtain ⟨I20_4, hxI20_4, h⟩ := Option.bind_eq_some_iff.mp h
  refine gg_pI aMi42 rfl rfl rfl rfl (by decide) (pI_of (sh3_z ha0) hxI20_4) ?_
  cases h
  exact go_ret aMi42 rfl rfl ⟨rfl, rfl⟩
-- KernelGym$Disk.writeBlock (I[II)V
def f44_b48 (kad : Nat → Nat) (N : Nat) (Z : AZ) (a0 : Nat) (I : AI) : Option (Unit × AI) :=
  some ((), I)
set_option maxRecDepth 20000 in
theorem Tf44_b48 {kad : Nat → Nat} {N : Nat} {Z : AZ} {d : Nat} {t : Option Nat × (Nat × Nat)} (hd : 0 ≤ d) : ∀ (a0 : Nat) (ha0 : sh3 kad Z a0) (I : AI) (r : Unit × AI), f44_b48 kad N Z a0 I = some r → aGo kad d 44 (48, ([], [])) (aMem Z I, t) (qV Z t r) := by
  intro a0 ha0 I r h
  unfold f44_b48 at h
  cases h
  exact go_ret aMi44 rfl rfl ⟨rfl, rfl⟩
def f44 (kad : Nat → Nat) (N : Nat) (Z : AZ) (a0 : Nat) (i1 : Int32) (b2 : Nat) (i3 : Int32) (I : AI) : Option (Unit × AI) :=
  if i1 < 0 then
    f44_b48 kad N Z a0 I
  else
    if (32 : Int32) ≤ i1 then
      f44_b48 kad N Z a0 I
    else
      if i3 < 0 then
        f44_b48 kad N Z a0 I
      else
        (nL Z b2).bind fun x19_1 =>
        if x19_1 < (i3 + (8 : Int32)) then
          f44_b48 kad N Z a0 I
        else
          (cI Z I b2 i3 (a0 + 1) (i1 * (8 : Int32)) (8 : Int32)).bind fun I35_2 =>
          (wI I35_2 a0 1 ((I35_2 a0 1) + (1 : Int32))).bind fun I45_3 =>
          f44_b48 kad N Z a0 I45_3
set_option maxRecDepth 20000 in
theorem Tf44 {kad : Nat → Nat} {N : Nat} {Z : AZ} {d : Nat} {t : Option Nat × (Nat × Nat)} (hd : 0 ≤ d) : ∀ (a0 : Nat) (ha0 : sh3 kad Z a0) (i1 : Int32) (b2 : Nat) (i3 : Int32) (I : AI) (r : Unit × AI), f44 kad N Z a0 i1 b2 i3 I = some r → aGo kad d 44 (0, ([(0, .ref a0), (1, .int i1), (2, .ref b2), (3, .int i3)], [])) (aMem Z I, t) (qV Z t r) := by
  intro a0 ha0 i1 b2 i3 I r h
  unfold f44 at h
  refine go_ops aMi44 1 _ (f1 := (1, ([(0, .ref a0), (1, .int i1), (2, .ref b2), (3, .int i3)], [.int i1]))) rfl ?_
  refine gg_br (b := decide (i1 < 0)) (tg := 48) (off := 47) aMi44 rfl rfl rfl rfl (fun hb => ?_) (fun hb => ?_)
  · rw [if_pos (of_decide_eq_true hb)] at h
    refine go_le (lv1 := []) (aLe_of (show (List.map (fun q => q.1) ([] : ALv)).Nodup from (by show ([] : List Nat).Nodup; decide)) aSubL_nil) ?_
    exact Tf44_b48 hd a0 ha0 I _ h
  · rw [if_neg (of_decide_eq_false hb)] at h
    refine go_ops aMi44 2 _ (f1 := (7, ([(0, .ref a0), (1, .int i1), (2, .ref b2), (3, .int i3)], [.int (32 : Int32), .int i1]))) rfl ?_
    refine gg_br (b := decide ((32 : Int32) ≤ i1)) (tg := 48) (off := 41) aMi44 rfl rfl rfl rfl (fun hb => ?_) (fun hb => ?_)
    · rw [if_pos (of_decide_eq_true hb)] at h
      refine go_le (lv1 := []) (aLe_of (show (List.map (fun q => q.1) ([] : ALv)).Nodup from (by show ([] : List Nat).Nodup; decide)) aSubL_nil) ?_
      exact Tf44_b48 hd a0 ha0 I _ h
    · rw [if_neg (of_decide_eq_false hb)] at h
      refine go_ops aMi44 1 _ (f1 := (11, ([(0, .ref a0), (1, .int i1), (2, .ref b2), (3, .int i3)], [.int i3]))) rfl ?_
      refine gg_br (b := decide (i3 < 0)) (tg := 48) (off := 37) aMi44 rfl rfl rfl rfl (fun hb => ?_) (fun hb => ?_)
      · rw [if_pos (of_decide_eq_true hb)] at h
        refine go_le (lv1 := []) (aLe_of (show (List.map (fun q => q.1) ([] : ALv)).Nodup from (by show ([] : List Nat).Nodup; decide)) aSubL_nil) ?_
        exact Tf44_b48 hd a0 ha0 I _ h
      · rw [if_neg (of_decide_eq_false hb)] at h
        refine go_ops aMi44 4 _ (f1 := (19, ([(0, .ref a0), (1, .int i1), (2, .ref b2), (3, .int i3)], [.ref b2, .int (i3 + (8 : Int32))]))) rfl ?_
        obtain ⟨x19_1, hxx19_1, h⟩ := Option.bind_eq_some_iff.mp h
        refine gg_len aMi44 rfl hxx19_1 ?_
        refine gg_br (b := decide (x19_1 < (i3 + (8 : Int32)))) (tg := 48) (off := 28) aMi44 rfl rfl rfl rfl (fun hb => ?_) (fun hb => ?_)
        · rw [if_pos (of_decide_eq_true hb)] at h
          refine go_le (lv1 := []) (aLe_of (show (List.map (fun q => q.1) ([] : ALv)).Nodup from (by show ([] : List Nat).Nodup; decide)) aSubL_nil) ?_
          exact Tf44_b48 hd a0 ha0 I _ h
        · rw [if_neg (of_decide_eq_false hb)] at h
          refine go_ops aMi44 3 _ (f1 := (26, ([(0, .ref a0), (1, .int i1), (2, .ref b2), (3, .int i3)], [.ref a0, .int i3, .ref b2]))) rfl ?_
          refine gg_gR (b := (a0 + 1)) aMi44 rfl rfl rfl (gR_of (sh3_z ha0) (sh3_r0 ha0)) ?_
          refine go_ops aMi44 4 _ (f1 := (35, ([(0, .ref a0), (1, .int i1), (2, .ref b2), (3, .int i3)], [.int (8 : Int32), .int (i1 * (8 : Int32)), .ref (a0 + 1), .int i3, .ref b2]))) rfl ?_
          obtain ⟨I35_2, hxI35_2, h⟩ := Option.bind_eq_some_iff.mp h
          refine gg_cp aMi44 rfl rfl (Nat.le_of_ble_eq_true rfl) hxI35_2 ?_
          refine go_ops aMi44 2 _ (f1 := (40, ([(0, .ref a0), (1, .int i1), (2, .ref b2), (3, .int i3)], [.ref a0, .ref a0]))) rfl ?_
          refine gg_gI aMi44 rfl rfl rfl (gI_of (sh3_z ha0)) ?_
          refine go_ops aMi44 2 _ (f1 := (45, ([(0, .ref a0), (1, .int i1), (2, .ref b2), (3, .int i3)], [.int ((I35_2 a0 1) + (1 : Int32)), .ref a0]))) rfl ?_
          obtain ⟨I45_3, hxI45_3, h⟩ := Option.bind_eq_some_iff.mp h
          refine gg_pI aMi44 rfl rfl rfl rfl (by decide) (pI_of (sh3_z ha0) hxI45_3) ?_
          refine go_le (lv1 := []) (aLe_of (show (List.map (fun q => q.1) ([] : ALv)).Nodup from (by show ([] : List Nat).Nodup; decide)) aSubL_nil) ?_
          exact Tf44_b48 hd a0 ha0 I45_3 _ h
-- KernelGym$Disk.unwriteBlock (I[I)V
def f45_b42 (kad : Nat → Nat) (N : Nat) (Z : AZ) (a0 : Nat) (I : AI) : Option (Unit × AI) :=
  some ((), I)
set_option maxRecDepth 20000 in
theorem Tf45_b42 {kad : Nat → Nat} {N : Nat} {Z : AZ} {d : Nat} {t : Option Nat × (Nat × Nat)} (hd : 0 ≤ d) : ∀ (a0 : Nat) (ha0 : sh3 kad Z a0) (I : AI) (r : Unit × AI), f45_b42 kad N Z a0 I = some r → aGo kad d 45 (42, ([], [])) (aMem Z I, t) (qV Z t r) := by
  intro a0 ha0 I r h
  unfold f45_b42 at h
  cases h
  exact go_ret aMi45 rfl rfl ⟨rfl, rfl⟩
def f45 (kad : Nat → Nat) (N : Nat) (Z : AZ) (a0 : Nat) (i1 : Int32) (b2 : Nat) (I : AI) : Option (Unit × AI) :=
  if i1 < 0 then
    f45_b42 kad N Z a0 I
  else
    if (32 : Int32) ≤ i1 then
      f45_b42 kad N Z a0 I
    else
      (nL Z b2).bind fun x11_1 =>
      if x11_1 < (8 : Int32) then
        f45_b42 kad N Z a0 I
      else
        (cI Z I b2 (0 : Int32) (a0 + 1) (i1 * (8 : Int32)) (8 : Int32)).bind fun I29_2 =>
        (wI I29_2 a0 1 ((I29_2 a0 1) - (1 : Int32))).bind fun I39_3 =>
        f45_b42 kad N Z a0 I39_3
set_option maxRecDepth 20000 in
theorem Tf45 {kad : Nat → Nat} {N : Nat} {Z : AZ} {d : Nat} {t : Option Nat × (Nat × Nat)} (hd : 0 ≤ d) : ∀ (a0 : Nat) (ha0 : sh3 kad Z a0) (i1 : Int32) (b2 : Nat) (I : AI) (r : Unit × AI), f45 kad N Z a0 i1 b2 I = some r → aGo kad d 45 (0, ([(0, .ref a0), (1, .int i1), (2, .ref b2)], [])) (aMem Z I, t) (qV Z t r) := by
  intro a0 ha0 i1 b2 I r h
  unfold f45 at h
  refine go_ops aMi45 1 _ (f1 := (1, ([(0, .ref a0), (1, .int i1), (2, .ref b2)], [.int i1]))) rfl ?_
  refine gg_br (b := decide (i1 < 0)) (tg := 42) (off := 41) aMi45 rfl rfl rfl rfl (fun hb => ?_) (fun hb => ?_)
  · rw [if_pos (of_decide_eq_true hb)] at h
    refine go_le (lv1 := []) (aLe_of (show (List.map (fun q => q.1) ([] : ALv)).Nodup from (by show ([] : List Nat).Nodup; decide)) aSubL_nil) ?_
    exact Tf45_b42 hd a0 ha0 I _ h
  · rw [if_neg (of_decide_eq_false hb)] at h
    refine go_ops aMi45 2 _ (f1 := (7, ([(0, .ref a0), (1, .int i1), (2, .ref b2)], [.int (32 : Int32), .int i1]))) rfl ?_
    refine gg_br (b := decide ((32 : Int32) ≤ i1)) (tg := 42) (off := 35) aMi45 rfl rfl rfl rfl (fun hb => ?_) (fun hb => ?_)
    · rw [if_pos (of_decide_eq_true hb)] at h
      refine go_le (lv1 := []) (aLe_of (show (List.map (fun q => q.1) ([] : ALv)).Nodup from (by show ([] : List Nat).Nodup; decide)) aSubL_nil) ?_
      exact Tf45_b42 hd a0 ha0 I _ h
    · rw [if_neg (of_decide_eq_false hb)] at h
      refine go_ops aMi45 1 _ (f1 := (11, ([(0, .ref a0), (1, .int i1), (2, .ref b2)], [.ref b2]))) rfl ?_
      obtain ⟨x11_1, hxx11_1, h⟩ := Option.bind_eq_some_iff.mp h
      refine gg_len aMi45 rfl hxx11_1 ?_
      refine go_ops aMi45 1 _ (f1 := (14, ([(0, .ref a0), (1, .int i1), (2, .ref b2)], [.int (8 : Int32), .int x11_1]))) rfl ?_
      refine gg_br (b := decide (x11_1 < (8 : Int32))) (tg := 42) (off := 28) aMi45 rfl rfl rfl rfl (fun hb => ?_) (fun hb => ?_)
      · rw [if_pos (of_decide_eq_true hb)] at h
        refine go_le (lv1 := []) (aLe_of (show (List.map (fun q => q.1) ([] : ALv)).Nodup from (by show ([] : List Nat).Nodup; decide)) aSubL_nil) ?_
        exact Tf45_b42 hd a0 ha0 I _ h
      · rw [if_neg (of_decide_eq_false hb)] at h
        refine go_ops aMi45 3 _ (f1 := (20, ([(0, .ref a0), (1, .int i1), (2, .ref b2)], [.ref a0, .int (0 : Int32), .ref b2]))) rfl ?_
        refine gg_gR (b := (a0 + 1)) aMi45 rfl rfl rfl (gR_of (sh3_z ha0) (sh3_r0 ha0)) ?_
        refine go_ops aMi45 4 _ (f1 := (29, ([(0, .ref a0), (1, .int i1), (2, .ref b2)], [.int (8 : Int32), .int (i1 * (8 : Int32)), .ref (a0 + 1), .int (0 : Int32), .ref b2]))) rfl ?_
        obtain ⟨I29_2, hxI29_2, h⟩ := Option.bind_eq_some_iff.mp h
        refine gg_cp aMi45 rfl rfl (Nat.le_of_ble_eq_true rfl) hxI29_2 ?_
        refine go_ops aMi45 2 _ (f1 := (34, ([(0, .ref a0), (1, .int i1), (2, .ref b2)], [.ref a0, .ref a0]))) rfl ?_
        refine gg_gI aMi45 rfl rfl rfl (gI_of (sh3_z ha0)) ?_
        refine go_ops aMi45 2 _ (f1 := (39, ([(0, .ref a0), (1, .int i1), (2, .ref b2)], [.int ((I29_2 a0 1) - (1 : Int32)), .ref a0]))) rfl ?_
        obtain ⟨I39_3, hxI39_3, h⟩ := Option.bind_eq_some_iff.mp h
        refine gg_pI aMi45 rfl rfl rfl rfl (by decide) (pI_of (sh3_z ha0) hxI39_3) ?_
        refine go_le (lv1 := []) (aLe_of (show (List.map (fun q => q.1) ([] : ALv)).Nodup from (by show ([] : List Nat).Nodup; decide)) aSubL_nil) ?_
        exact Tf45_b42 hd a0 ha0 I39_3 _ h
-- KernelGym$Disk.checkOfLog (I)I
def f47_b26 (kad : Nat → Nat) (N : Nat) (Z : AZ) : Nat → Nat → Int32 → Int32 → Int32 → AI → Option (Int32 × AI)
  | 0, _, _, _, _, _ => none
  | F + 1, a0, i1, i2, i3, I =>
    if (i1 * (8 : Int32)) ≤ i3 then
      some ((i2 &&& (65535 : Int32)), I)
    else
      (f43 kad N Z a0 ((1 : Int32) + (i3 / (8 : Int32))) (i3 - i3 / (8 : Int32) * (8 : Int32)) I).bind fun r46_1 =>
      f47_b26 kad N Z F a0 i1 (i2 + r46_1.1) (i3 + (1 : Int32)) r46_1.2
set_option maxRecDepth 20000 in
theorem Tf47_b26 {kad : Nat → Nat} {N : Nat} {Z : AZ} {d : Nat} {t : Option Nat × (Nat × Nat)} (hd : 1 ≤ d) : ∀ (F : Nat) (a0 : Nat) (ha0 : sh3 kad Z a0) (i1 : Int32) (i2 : Int32) (i3 : Int32) (I : AI) (r : Int32 × AI), f47_b26 kad N Z F a0 i1 i2 i3 I = some r → aGo kad d 47 (26, ([(0, .ref a0), (1, .int i1), (2, .int i2), (3, .int i3)], [])) (aMem Z I, t) (qI Z t r) := by
  intro F
  induction F with
  | zero => intro a0 ha0 i1 i2 i3 I r h; cases h
  | succ F ih =>
    intro a0 ha0 i1 i2 i3 I r h
    unfold f47_b26 at h
    refine go_ops aMi47 4 _ (f1 := (31, ([(0, .ref a0), (1, .int i1), (2, .int i2), (3, .int i3)], [.int (i1 * (8 : Int32)), .int i3]))) rfl ?_
    refine gg_br (b := decide ((i1 * (8 : Int32)) ≤ i3)) (tg := 57) (off := 26) aMi47 rfl rfl rfl rfl (fun hb => ?_) (fun hb => ?_)
    · rw [if_pos (of_decide_eq_true hb)] at h
      refine go_ops aMi47 1 _ (f1 := (58, ([(0, .ref a0), (1, .int i1), (2, .int i2), (3, .int i3)], [.int i2]))) rfl ?_
      refine gg_kI (Or.inl ⟨rfl, rfl⟩) aMi47 rfl rfl ?_
      refine go_ops aMi47 1 _ (f1 := (61, ([(0, .ref a0), (1, .int i1), (2, .int i2), (3, .int i3)], [.int (i2 &&& (65535 : Int32))]))) rfl ?_
      cases h
      exact go_ret aMi47 rfl aRetI ⟨rfl, rfl⟩
    · rw [if_neg (of_decide_eq_false hb)] at h
      refine go_ops aMi47 10 _ (f1 := (46, ([(0, .ref a0), (1, .int i1), (2, .int i2), (3, .int i3)], [.int (i3 - i3 / (8 : Int32) * (8 : Int32)), .int ((1 : Int32) + (i3 / (8 : Int32))), .ref a0, .int i2]))) rfl ?_
      obtain ⟨r46_1, hxr46_1, h⟩ := Option.bind_eq_some_iff.mp h
      refine gg_cv (as := [.int ((1 : Int32) + (i3 / (8 : Int32))), .int (i3 - i3 / (8 : Int32) * (8 : Int32))]) (r := [.int i2]) aMi47 rfl rfl rfl aMi43 (Nat.le_of_ble_eq_true rfl) rfl (Nat.le_of_ble_eq_true rfl) (Nat.le_of_ble_eq_true rfl) (by omega) (isK_of (sh3_z ha0)) (Tf43 (by omega) a0 ha0 ((1 : Int32) + (i3 / (8 : Int32))) (i3 - i3 / (8 : Int32) * (8 : Int32)) I _ hxr46_1) ?_
      show aGo kad d 47 (49, ([(0, .ref a0), (1, .int i1), (2, .int i2), (3, .int i3)], [.int r46_1.1, .int i2])) (aMem Z r46_1.2, t) _
      refine go_ops aMi47 4 _ (f1 := (26, ([(3, .int (i3 + (1 : Int32))), (2, .int (i2 + r46_1.1)), (0, .ref a0), (1, .int i1)], []))) rfl ?_
      refine go_le (lv1 := [(0, .ref a0), (1, .int i1), (2, .int (i2 + r46_1.1)), (3, .int (i3 + (1 : Int32)))]) (aLe_of (show (List.map (fun q => q.1) ([(0, .ref a0), (1, .int i1), (2, .int (i2 + r46_1.1)), (3, .int (i3 + (1 : Int32)))] : ALv)).Nodup from (by show ([0, 1, 2, 3] : List Nat).Nodup; decide)) (aSubL_cons rfl (aSubL_cons rfl (aSubL_cons rfl (aSubL_cons rfl aSubL_nil))))) ?_
      exact ih a0 ha0 i1 (i2 + r46_1.1) (i3 + (1 : Int32)) r46_1.2 _ h
def f47_b4 (kad : Nat → Nat) (N : Nat) (Z : AZ) : Nat → Nat → Int32 → Int32 → Int32 → AI → Option (Int32 × AI)
  | 0, _, _, _, _, _ => none
  | F + 1, a0, i1, i2, i3, I =>
    if (4 : Int32) ≤ i3 then
      f47_b26 kad N Z N a0 i1 i2 (0 : Int32) I
    else
      (f43 kad N Z a0 (0 : Int32) i3 I).bind fun r13_1 =>
      f47_b4 kad N Z F a0 i1 (i2 + r13_1.1) (i3 + (1 : Int32)) r13_1.2
set_option maxRecDepth 20000 in
theorem Tf47_b4 {kad : Nat → Nat} {N : Nat} {Z : AZ} {d : Nat} {t : Option Nat × (Nat × Nat)} (hd : 1 ≤ d) : ∀ (F : Nat) (a0 : Nat) (ha0 : sh3 kad Z a0) (i1 : Int32) (i2 : Int32) (i3 : Int32) (I : AI) (r : Int32 × AI), f47_b4 kad N Z F a0 i1 i2 i3 I = some r → aGo kad d 47 (4, ([(0, .ref a0), (1, .int i1), (2, .int i2), (3, .int i3)], [])) (aMem Z I, t) (qI Z t r) := by
  intro F
  induction F with
  | zero => intro a0 ha0 i1 i2 i3 I r h; cases h
  | succ F ih =>
    intro a0 ha0 i1 i2 i3 I r h
    unfold f47_b4 at h
    refine go_ops aMi47 2 _ (f1 := (6, ([(0, .ref a0), (1, .int i1), (2, .int i2), (3, .int i3)], [.int (4 : Int32), .int i3]))) rfl ?_
    refine gg_br (b := decide ((4 : Int32) ≤ i3)) (tg := 24) (off := 18) aMi47 rfl rfl rfl rfl (fun hb => ?_) (fun hb => ?_)
    · rw [if_pos (of_decide_eq_true hb)] at h
      refine go_ops aMi47 2 _ (f1 := (26, ([(3, .int (0 : Int32)), (0, .ref a0), (1, .int i1), (2, .int i2)], []))) rfl ?_
      refine go_le (lv1 := [(0, .ref a0), (1, .int i1), (2, .int i2), (3, .int (0 : Int32))]) (aLe_of (show (List.map (fun q => q.1) ([(0, .ref a0), (1, .int i1), (2, .int i2), (3, .int (0 : Int32))] : ALv)).Nodup from (by show ([0, 1, 2, 3] : List Nat).Nodup; decide)) (aSubL_cons rfl (aSubL_cons rfl (aSubL_cons rfl (aSubL_cons rfl aSubL_nil))))) ?_
      exact Tf47_b26 hd N a0 ha0 i1 i2 (0 : Int32) I _ h
    · rw [if_neg (of_decide_eq_false hb)] at h
      refine go_ops aMi47 4 _ (f1 := (13, ([(0, .ref a0), (1, .int i1), (2, .int i2), (3, .int i3)], [.int i3, .int (0 : Int32), .ref a0, .int i2]))) rfl ?_
      obtain ⟨r13_1, hxr13_1, h⟩ := Option.bind_eq_some_iff.mp h
      refine gg_cv (as := [.int (0 : Int32), .int i3]) (r := [.int i2]) aMi47 rfl rfl rfl aMi43 (Nat.le_of_ble_eq_true rfl) rfl (Nat.le_of_ble_eq_true rfl) (Nat.le_of_ble_eq_true rfl) (by omega) (isK_of (sh3_z ha0)) (Tf43 (by omega) a0 ha0 (0 : Int32) i3 I _ hxr13_1) ?_
      show aGo kad d 47 (16, ([(0, .ref a0), (1, .int i1), (2, .int i2), (3, .int i3)], [.int r13_1.1, .int i2])) (aMem Z r13_1.2, t) _
      refine go_ops aMi47 4 _ (f1 := (4, ([(3, .int (i3 + (1 : Int32))), (2, .int (i2 + r13_1.1)), (0, .ref a0), (1, .int i1)], []))) rfl ?_
      refine go_le (lv1 := [(0, .ref a0), (1, .int i1), (2, .int (i2 + r13_1.1)), (3, .int (i3 + (1 : Int32)))]) (aLe_of (show (List.map (fun q => q.1) ([(0, .ref a0), (1, .int i1), (2, .int (i2 + r13_1.1)), (3, .int (i3 + (1 : Int32)))] : ALv)).Nodup from (by show ([0, 1, 2, 3] : List Nat).Nodup; decide)) (aSubL_cons rfl (aSubL_cons rfl (aSubL_cons rfl (aSubL_cons rfl aSubL_nil))))) ?_
      exact ih a0 ha0 i1 (i2 + r13_1.1) (i3 + (1 : Int32)) r13_1.2 _ h
def f47 (kad : Nat → Nat) (N : Nat) (Z : AZ) (a0 : Nat) (i1 : Int32) (I : AI) : Option (Int32 × AI) :=
  f47_b4 kad N Z N a0 i1 (0 : Int32) (0 : Int32) I
set_option maxRecDepth 20000 in
theorem Tf47 {kad : Nat → Nat} {N : Nat} {Z : AZ} {d : Nat} {t : Option Nat × (Nat × Nat)} (hd : 1 ≤ d) : ∀ (a0 : Nat) (ha0 : sh3 kad Z a0) (i1 : Int32) (I : AI) (r : Int32 × AI), f47 kad N Z a0 i1 I = some r → aGo kad d 47 (0, ([(0, .ref a0), (1, .int i1)], [])) (aMem Z I, t) (qI Z t r) := by
  intro a0 ha0 i1 I r h
  unfold f47 at h
  refine go_ops aMi47 4 _ (f1 := (4, ([(3, .int (0 : Int32)), (2, .int (0 : Int32)), (0, .ref a0), (1, .int i1)], []))) rfl ?_
  refine go_le (lv1 := [(0, .ref a0), (1, .int i1), (2, .int (0 : Int32)), (3, .int (0 : Int32))]) (aLe_of (show (List.map (fun q => q.1) ([(0, .ref a0), (1, .int i1), (2, .int (0 : Int32)), (3, .int (0 : Int32))] : ALv)).Nodup from (by show ([0, 1, 2, 3] : List Nat).Nodup; decide)) (aSubL_cons rfl (aSubL_cons rfl (aSubL_cons rfl (aSubL_cons rfl aSubL_nil))))) ?_
  exact Tf47_b4 hd N a0 ha0 i1 (0 : Int32) (0 : Int32) I _ h
-- KernelGym$Disk.mend ()I
def f46_b75 (kad : Nat → Nat) (N : Nat) (Z : AZ) : Nat → Nat → Int32 → Int32 → AI → Option (Int32 × AI)
  | 0, _, _, _, _ => none
  | F + 1, a0, i2, i3, I =>
    if (8 : Int32) ≤ i3 then
      (wI I a0 1 ((I a0 1) + (1 : Int32))).bind fun I103_1 =>
      some (i2, I103_1)
    else
      (ixA 256 ((0 : Int32) + i3)).bind fun j89_3 =>
      (wI I (a0 + 1) j89_3 (0 : Int32)).bind fun I89_2 =>
      f46_b75 kad N Z F a0 i2 (i3 + (1 : Int32)) I89_2
set_option maxRecDepth 20000 in
theorem Tf46_b75 {kad : Nat → Nat} {N : Nat} {Z : AZ} {d : Nat} {t : Option Nat × (Nat × Nat)} (hd : 2 ≤ d) : ∀ (F : Nat) (a0 : Nat) (ha0 : sh3 kad Z a0) (i2 : Int32) (i3 : Int32) (I : AI) (r : Int32 × AI), f46_b75 kad N Z F a0 i2 i3 I = some r → aGo kad d 46 (75, ([(0, .ref a0), (2, .int i2), (3, .int i3)], [])) (aMem Z I, t) (qI Z t r) := by
  intro F
  induction F with
  | zero => intro a0 ha0 i2 i3 I r h; cases h
  | succ F ih =>
    intro a0 ha0 i2 i3 I r h
    unfold f46_b75 at h
    refine go_ops aMi46 2 _ (f1 := (78, ([(0, .ref a0), (2, .int i2), (3, .int i3)], [.int (8 : Int32), .int i3]))) rfl ?_
    refine gg_br (b := decide ((8 : Int32) ≤ i3)) (tg := 96) (off := 18) aMi46 rfl rfl rfl rfl (fun hb => ?_) (fun hb => ?_)
    · rw [if_pos (of_decide_eq_true hb)] at h
      refine go_ops aMi46 2 _ (f1 := (98, ([(0, .ref a0), (2, .int i2), (3, .int i3)], [.ref a0, .ref a0]))) rfl ?_
      refine gg_gI aMi46 rfl rfl rfl (gI_of (sh3_z ha0)) ?_
      refine go_ops aMi46 2 _ (f1 := (103, ([(0, .ref a0), (2, .int i2), (3, .int i3)], [.int ((I a0 1) + (1 : Int32)), .ref a0]))) rfl ?_
      obtain ⟨I103_1, hxI103_1, h⟩ := Option.bind_eq_some_iff.mp h
      refine gg_pI aMi46 rfl rfl rfl rfl (by decide) (pI_of (sh3_z ha0) hxI103_1) ?_
      refine go_ops aMi46 1 _ (f1 := (107, ([(0, .ref a0), (2, .int i2), (3, .int i3)], [.int i2]))) rfl ?_
      cases h
      exact go_ret aMi46 rfl aRetI ⟨rfl, rfl⟩
    · rw [if_neg (of_decide_eq_false hb)] at h
      refine go_ops aMi46 1 _ (f1 := (82, ([(0, .ref a0), (2, .int i2), (3, .int i3)], [.ref a0]))) rfl ?_
      refine gg_gR (b := (a0 + 1)) aMi46 rfl rfl rfl (gR_of (sh3_z ha0) (sh3_r0 ha0)) ?_
      refine go_ops aMi46 4 _ (f1 := (89, ([(0, .ref a0), (2, .int i2), (3, .int i3)], [.int (0 : Int32), .int ((0 : Int32) + i3), .ref (a0 + 1)]))) rfl ?_
      obtain ⟨j89_3, hxj89_3, h⟩ := Option.bind_eq_some_iff.mp h
      obtain ⟨I89_2, hxI89_2, h⟩ := Option.bind_eq_some_iff.mp h
      refine gg_sI (Or.inl ⟨rfl, rfl⟩) aMi46 rfl (sI_of (sh3_a0 ha0) hxj89_3 hxI89_2) ?_
      refine go_ops aMi46 2 _ (f1 := (75, ([(3, .int (i3 + (1 : Int32))), (0, .ref a0), (2, .int i2)], []))) rfl ?_
      refine go_le (lv1 := [(0, .ref a0), (2, .int i2), (3, .int (i3 + (1 : Int32)))]) (aLe_of (show (List.map (fun q => q.1) ([(0, .ref a0), (2, .int i2), (3, .int (i3 + (1 : Int32)))] : ALv)).Nodup from (by show ([0, 2, 3] : List Nat).Nodup; decide)) (aSubL_cons rfl (aSubL_cons rfl (aSubL_cons rfl aSubL_nil)))) ?_
      exact ih a0 ha0 i2 (i3 + (1 : Int32)) I89_2 _ h
def f46_b73 (kad : Nat → Nat) (N : Nat) (Z : AZ) (a0 : Nat) (i2 : Int32) (I : AI) : Option (Int32 × AI) :=
  f46_b75 kad N Z N a0 i2 (0 : Int32) I
set_option maxRecDepth 20000 in
theorem Tf46_b73 {kad : Nat → Nat} {N : Nat} {Z : AZ} {d : Nat} {t : Option Nat × (Nat × Nat)} (hd : 2 ≤ d) : ∀ (a0 : Nat) (ha0 : sh3 kad Z a0) (i2 : Int32) (I : AI) (r : Int32 × AI), f46_b73 kad N Z a0 i2 I = some r → aGo kad d 46 (73, ([(0, .ref a0), (2, .int i2)], [])) (aMem Z I, t) (qI Z t r) := by
  intro a0 ha0 i2 I r h
  unfold f46_b73 at h
  refine go_ops aMi46 2 _ (f1 := (75, ([(3, .int (0 : Int32)), (0, .ref a0), (2, .int i2)], []))) rfl ?_
  refine go_le (lv1 := [(0, .ref a0), (2, .int i2), (3, .int (0 : Int32))]) (aLe_of (show (List.map (fun q => q.1) ([(0, .ref a0), (2, .int i2), (3, .int (0 : Int32))] : ALv)).Nodup from (by show ([0, 2, 3] : List Nat).Nodup; decide)) (aSubL_cons rfl (aSubL_cons rfl (aSubL_cons rfl aSubL_nil)))) ?_
  exact Tf46_b75 hd N a0 ha0 i2 (0 : Int32) I _ h
def f46_b36 (kad : Nat → Nat) (N : Nat) (Z : AZ) : Nat → Nat → Int32 → Int32 → Int32 → AI → Option (Int32 × AI)
  | 0, _, _, _, _, _ => none
  | F + 1, a0, i1, i2, i3, I =>
    if i1 ≤ i3 then
      f46_b73 kad N Z a0 (i2 + i1) I
    else
      (f43 kad N Z a0 (0 : Int32) ((1 : Int32) + i3) I).bind fun r47_1 =>
      (f44 kad N Z a0 r47_1.1 (a0 + 1) (((1 : Int32) + i3) * (8 : Int32)) r47_1.2).bind fun r60_2 =>
      f46_b36 kad N Z F a0 i1 i2 (i3 + (1 : Int32)) r60_2.2
set_option maxRecDepth 20000 in
theorem Tf46_b36 {kad : Nat → Nat} {N : Nat} {Z : AZ} {d : Nat} {t : Option Nat × (Nat × Nat)} (hd : 2 ≤ d) : ∀ (F : Nat) (a0 : Nat) (ha0 : sh3 kad Z a0) (i1 : Int32) (i2 : Int32) (i3 : Int32) (I : AI) (r : Int32 × AI), f46_b36 kad N Z F a0 i1 i2 i3 I = some r → aGo kad d 46 (36, ([(0, .ref a0), (1, .int i1), (2, .int i2), (3, .int i3)], [])) (aMem Z I, t) (qI Z t r) := by
  intro F
  induction F with
  | zero => intro a0 ha0 i1 i2 i3 I r h; cases h
  | succ F ih =>
    intro a0 ha0 i1 i2 i3 I r h
    unfold f46_b36 at h
    refine go_ops aMi46 2 _ (f1 := (38, ([(0, .ref a0), (1, .int i1), (2, .int i2), (3, .int i3)], [.int i1, .int i3]))) rfl ?_
    refine gg_br (b := decide (i1 ≤ i3)) (tg := 69) (off := 31) aMi46 rfl rfl rfl rfl (fun hb => ?_) (fun hb => ?_)
    · rw [if_pos (of_decide_eq_true hb)] at h
      refine go_ops aMi46 4 _ (f1 := (73, ([(2, .int (i2 + i1)), (0, .ref a0), (1, .int i1), (3, .int i3)], []))) rfl ?_
      refine go_le (lv1 := [(0, .ref a0), (2, .int (i2 + i1))]) (aLe_of (show (List.map (fun q => q.1) ([(0, .ref a0), (2, .int (i2 + i1))] : ALv)).Nodup from (by show ([0, 2] : List Nat).Nodup; decide)) (aSubL_cons rfl (aSubL_cons rfl aSubL_nil))) ?_
      exact Tf46_b73 hd a0 ha0 (i2 + i1) I _ h
    · rw [if_neg (of_decide_eq_false hb)] at h
      refine go_ops aMi46 6 _ (f1 := (47, ([(0, .ref a0), (1, .int i1), (2, .int i2), (3, .int i3)], [.int ((1 : Int32) + i3), .int (0 : Int32), .ref a0, .ref a0]))) rfl ?_
      obtain ⟨r47_1, hxr47_1, h⟩ := Option.bind_eq_some_iff.mp h
      refine gg_cv (as := [.int (0 : Int32), .int ((1 : Int32) + i3)]) (r := [.ref a0]) aMi46 rfl rfl rfl aMi43 (Nat.le_of_ble_eq_true rfl) rfl (Nat.le_of_ble_eq_true rfl) (Nat.le_of_ble_eq_true rfl) (by omega) (isK_of (sh3_z ha0)) (Tf43 (by omega) a0 ha0 (0 : Int32) ((1 : Int32) + i3) I _ hxr47_1) ?_
      show aGo kad d 46 (50, ([(0, .ref a0), (1, .int i1), (2, .int i2), (3, .int i3)], [.int r47_1.1, .ref a0])) (aMem Z r47_1.2, t) _
      refine go_ops aMi46 1 _ (f1 := (51, ([(0, .ref a0), (1, .int i1), (2, .int i2), (3, .int i3)], [.ref a0, .int r47_1.1, .ref a0]))) rfl ?_
      refine gg_gR (b := (a0 + 1)) aMi46 rfl rfl rfl (gR_of (sh3_z ha0) (sh3_r0 ha0)) ?_
      refine go_ops aMi46 5 _ (f1 := (60, ([(0, .ref a0), (1, .int i1), (2, .int i2), (3, .int i3)], [.int (((1 : Int32) + i3) * (8 : Int32)), .ref (a0 + 1), .int r47_1.1, .ref a0]))) rfl ?_
      obtain ⟨r60_2, hxr60_2, h⟩ := Option.bind_eq_some_iff.mp h
      refine gg_cv (as := [.int r47_1.1, .ref (a0 + 1), .int (((1 : Int32) + i3) * (8 : Int32))]) (r := []) aMi46 rfl rfl rfl aMi44 (Nat.le_of_ble_eq_true rfl) rfl (Nat.le_of_ble_eq_true rfl) (Nat.le_of_ble_eq_true rfl) (by omega) (isK_of (sh3_z ha0)) (Tf44 (by omega) a0 ha0 r47_1.1 (a0 + 1) (((1 : Int32) + i3) * (8 : Int32)) r47_1.2 _ hxr60_2) ?_
      show aGo kad d 46 (63, ([(0, .ref a0), (1, .int i1), (2, .int i2), (3, .int i3)], [])) (aMem Z r60_2.2, t) _
      refine go_ops aMi46 2 _ (f1 := (36, ([(3, .int (i3 + (1 : Int32))), (0, .ref a0), (1, .int i1), (2, .int i2)], []))) rfl ?_
      refine go_le (lv1 := [(0, .ref a0), (1, .int i1), (2, .int i2), (3, .int (i3 + (1 : Int32)))]) (aLe_of (show (List.map (fun q => q.1) ([(0, .ref a0), (1, .int i1), (2, .int i2), (3, .int (i3 + (1 : Int32)))] : ALv)).Nodup from (by show ([0, 1, 2, 3] : List Nat).Nodup; decide)) (aSubL_cons rfl (aSubL_cons rfl (aSubL_cons rfl (aSubL_cons rfl aSubL_nil))))) ?_
      exact ih a0 ha0 i1 i2 (i3 + (1 : Int32)) r60_2.2 _ h
def f46 (kad : Nat → Nat) (N : Nat) (Z : AZ) (a0 : Nat) (I : AI) : Option (Int32 × AI) :=
  (f43 kad N Z a0 (0 : Int32) (0 : Int32) I).bind fun r3_1 =>
  if ¬ r3_1.1 = 0 then
    if (3 : Int32) < r3_1.1 then
      f46_b73 kad N Z a0 (1 : Int32) r3_1.2
    else
      (f43 kad N Z a0 (0 : Int32) (4 : Int32) r3_1.2).bind fun r23_2 =>
      (f47 kad N Z a0 r3_1.1 r23_2.2).bind fun r28_3 =>
      if ¬ r23_2.1 = r28_3.1 then
        f46_b73 kad N Z a0 (1 : Int32) r28_3.2
      else
        f46_b36 kad N Z N a0 r3_1.1 (1 : Int32) (0 : Int32) r28_3.2
  else
    some ((0 : Int32), r3_1.2)
set_option maxRecDepth 20000 in
theorem Tf46 {kad : Nat → Nat} {N : Nat} {Z : AZ} {d : Nat} {t : Option Nat × (Nat × Nat)} (hd : 2 ≤ d) : ∀ (a0 : Nat) (ha0 : sh3 kad Z a0) (I : AI) (r : Int32 × AI), f46 kad N Z a0 I = some r → aGo kad d 46 (0, ([(0, .ref a0)], [])) (aMem Z I, t) (qI Z t r) := by
  intro a0 ha0 I r h
  unfold f46 at h
  refine go_ops aMi46 3 _ (f1 := (3, ([(0, .ref a0)], [.int (0 : Int32), .int (0 : Int32), .ref a0]))) rfl ?_
  obtain ⟨r3_1, hxr3_1, h⟩ := Option.bind_eq_some_iff.mp h
  refine gg_cv (as := [.int (0 : Int32), .int (0 : Int32)]) (r := []) aMi46 rfl rfl rfl aMi43 (Nat.le_of_ble_eq_true rfl) rfl (Nat.le_of_ble_eq_true rfl) (Nat.le_of_ble_eq_true rfl) (by omega) (isK_of (sh3_z ha0)) (Tf43 (by omega) a0 ha0 (0 : Int32) (0 : Int32) I _ hxr3_1) ?_
  show aGo kad d 46 (6, ([(0, .ref a0)], [.int r3_1.1])) (aMem Z r3_1.2, t) _
  refine go_ops aMi46 2 _ (f1 := (8, ([(1, .int r3_1.1), (0, .ref a0)], [.int r3_1.1]))) rfl ?_
  refine gg_br (b := decide (¬ r3_1.1 = 0)) (tg := 13) (off := 5) aMi46 rfl rfl rfl rfl (fun hb => ?_) (fun hb => ?_)
  · rw [if_pos (of_decide_eq_true hb)] at h
    refine go_ops aMi46 4 _ (f1 := (17, ([(2, .int (1 : Int32)), (1, .int r3_1.1), (0, .ref a0)], [.int (3 : Int32), .int r3_1.1]))) rfl ?_
    refine gg_br (b := decide ((3 : Int32) < r3_1.1)) (tg := 73) (off := 56) aMi46 rfl rfl rfl rfl (fun hb => ?_) (fun hb => ?_)
    · rw [if_pos (of_decide_eq_true hb)] at h
      refine go_le (lv1 := [(0, .ref a0), (2, .int (1 : Int32))]) (aLe_of (show (List.map (fun q => q.1) ([(0, .ref a0), (2, .int (1 : Int32))] : ALv)).Nodup from (by show ([0, 2] : List Nat).Nodup; decide)) (aSubL_cons rfl (aSubL_cons rfl aSubL_nil))) ?_
      exact Tf46_b73 hd a0 ha0 (1 : Int32) r3_1.2 _ h
    · rw [if_neg (of_decide_eq_false hb)] at h
      refine go_ops aMi46 3 _ (f1 := (23, ([(2, .int (1 : Int32)), (1, .int r3_1.1), (0, .ref a0)], [.int (4 : Int32), .int (0 : Int32), .ref a0]))) rfl ?_
      obtain ⟨r23_2, hxr23_2, h⟩ := Option.bind_eq_some_iff.mp h
      refine gg_cv (as := [.int (0 : Int32), .int (4 : Int32)]) (r := []) aMi46 rfl rfl rfl aMi43 (Nat.le_of_ble_eq_true rfl) rfl (Nat.le_of_ble_eq_true rfl) (Nat.le_of_ble_eq_true rfl) (by omega) (isK_of (sh3_z ha0)) (Tf43 (by omega) a0 ha0 (0 : Int32) (4 : Int32) r3_1.2 _ hxr23_2) ?_
      show aGo kad d 46 (26, ([(2, .int (1 : Int32)), (1, .int r3_1.1), (0, .ref a0)], [.int r23_2.1])) (aMem Z r23_2.2, t) _
      refine go_ops aMi46 2 _ (f1 := (28, ([(2, .int (1 : Int32)), (1, .int r3_1.1), (0, .ref a0)], [.int r3_1.1, .ref a0, .int r23_2.1]))) rfl ?_
      obtain ⟨r28_3, hxr28_3, h⟩ := Option.bind_eq_some_iff.mp h
      refine gg_cv (as := [.int r3_1.1]) (r := [.int r23_2.1]) aMi46 rfl rfl rfl aMi47 (Nat.le_of_ble_eq_true rfl) rfl (Nat.le_of_ble_eq_true rfl) (Nat.le_of_ble_eq_true rfl) (by omega) (isK_of (sh3_z ha0)) (Tf47 (by omega) a0 ha0 r3_1.1 r23_2.2 _ hxr28_3) ?_
      show aGo kad d 46 (31, ([(2, .int (1 : Int32)), (1, .int r3_1.1), (0, .ref a0)], [.int r28_3.1, .int r23_2.1])) (aMem Z r28_3.2, t) _
      refine gg_br (b := decide (¬ r23_2.1 = r28_3.1)) (tg := 73) (off := 42) aMi46 rfl rfl rfl rfl (fun hb => ?_) (fun hb => ?_)
      · rw [if_pos (of_decide_eq_true hb)] at h
        refine go_le (lv1 := [(0, .ref a0), (2, .int (1 : Int32))]) (aLe_of (show (List.map (fun q => q.1) ([(0, .ref a0), (2, .int (1 : Int32))] : ALv)).Nodup from (by show ([0, 2] : List Nat).Nodup; decide)) (aSubL_cons rfl (aSubL_cons rfl aSubL_nil))) ?_
        exact Tf46_b73 hd a0 ha0 (1 : Int32) r28_3.2 _ h
      · rw [if_neg (of_decide_eq_false hb)] at h
        refine go_ops aMi46 2 _ (f1 := (36, ([(3, .int (0 : Int32)), (2, .int (1 : Int32)), (1, .int r3_1.1), (0, .ref a0)], []))) rfl ?_
        refine go_le (lv1 := [(0, .ref a0), (1, .int r3_1.1), (2, .int (1 : Int32)), (3, .int (0 : Int32))]) (aLe_of (show (List.map (fun q => q.1) ([(0, .ref a0), (1, .int r3_1.1), (2, .int (1 : Int32)), (3, .int (0 : Int32))] : ALv)).Nodup from (by show ([0, 1, 2, 3] : List Nat).Nodup; decide)) (aSubL_cons rfl (aSubL_cons rfl (aSubL_cons rfl (aSubL_cons rfl aSubL_nil))))) ?_
        exact Tf46_b36 hd N a0 ha0 r3_1.1 (1 : Int32) (0 : Int32) r28_3.2 _ h
  · rw [if_neg (of_decide_eq_false hb)] at h
    refine go_ops aMi46 1 _ (f1 := (12, ([(1, .int r3_1.1), (0, .ref a0)], [.int (0 : Int32)]))) rfl ?_
    cases h
    exact go_ret aMi46 rfl aRetI ⟨rfl, rfl⟩
-- java/lang/Math.floorMod (II)I
def f49_b18 (kad : Nat → Nat) (N : Nat) (Z : AZ) (i2 : Int32) (I : AI) : Option (Int32 × AI) :=
  some (i2, I)
set_option maxRecDepth 20000 in
theorem Tf49_b18 {kad : Nat → Nat} {N : Nat} {Z : AZ} {d : Nat} {t : Option Nat × (Nat × Nat)} (hd : 0 ≤ d) : ∀ (i2 : Int32) (I : AI) (r : Int32 × AI), f49_b18 kad N Z i2 I = some r → aGo kad d 49 (18, ([(2, .int i2)], [])) (aMem Z I, t) (qI Z t r) := by
  intro i2 I r h
  unfold f49_b18 at h
  refine go_ops aMi49 1 _ (f1 := (19, ([(2, .int i2)], [.int i2]))) rfl ?_
  cases h
  exact go_ret aMi49 rfl aRetI ⟨rfl, rfl⟩
def f49 (kad : Nat → Nat) (N : Nat) (Z : AZ) (i0 : Int32) (i1 : Int32) (I : AI) : Option (Int32 × AI) :=
  if i1 = 0 then none else
  if 0 ≤ (i0 ^^^ i1) then
    f49_b18 kad N Z (i0 - i0 / i1 * i1) I
  else
    if (i0 - i0 / i1 * i1) = 0 then
      f49_b18 kad N Z (i0 - i0 / i1 * i1) I
    else
      some (((i0 - i0 / i1 * i1) + i1), I)
set_option maxRecDepth 20000 in
theorem Tf49 {kad : Nat → Nat} {N : Nat} {Z : AZ} {d : Nat} {t : Option Nat × (Nat × Nat)} (hd : 0 ≤ d) : ∀ (i0 : Int32) (i1 : Int32) (I : AI) (r : Int32 × AI), f49 kad N Z i0 i1 I = some r → aGo kad d 49 (0, ([(0, .int i0), (1, .int i1)], [])) (aMem Z I, t) (qI Z t r) := by
  intro i0 i1 I r h
  unfold f49 at h
  refine go_ops aMi49 2 _ (f1 := (2, ([(0, .int i0), (1, .int i1)], [.int i1, .int i0]))) rfl ?_
  by_cases hz2 : i1 = 0
  · rw [if_pos hz2] at h
    cases h
  rw [if_neg hz2] at h
  refine go_op (f1 := (3, ([(0, .int i0), (1, .int i1)], [.int (i0 - i0 / i1 * i1)]))) aMi49 rfl rfl (by show (if i1 = 0 then none else some _) = some _; rw [if_neg hz2]) ?_
  refine go_ops aMi49 4 _ (f1 := (7, ([(2, .int (i0 - i0 / i1 * i1)), (0, .int i0), (1, .int i1)], [.int (i0 ^^^ i1)]))) rfl ?_
  refine gg_br (b := decide (0 ≤ (i0 ^^^ i1))) (tg := 18) (off := 11) aMi49 rfl rfl rfl rfl (fun hb => ?_) (fun hb => ?_)
  · rw [if_pos (of_decide_eq_true hb)] at h
    refine go_le (lv1 := [(2, .int (i0 - i0 / i1 * i1))]) (aLe_of (show (List.map (fun q => q.1) ([(2, .int (i0 - i0 / i1 * i1))] : ALv)).Nodup from (by show ([2] : List Nat).Nodup; decide)) (aSubL_cons rfl aSubL_nil)) ?_
    exact Tf49_b18 hd (i0 - i0 / i1 * i1) I _ h
  · rw [if_neg (of_decide_eq_false hb)] at h
    refine go_ops aMi49 1 _ (f1 := (11, ([(2, .int (i0 - i0 / i1 * i1)), (0, .int i0), (1, .int i1)], [.int (i0 - i0 / i1 * i1)]))) rfl ?_
    refine gg_br (b := decide ((i0 - i0 / i1 * i1) = 0)) (tg := 18) (off := 7) aMi49 rfl rfl rfl rfl (fun hb => ?_) (fun hb => ?_)
    · rw [if_pos (of_decide_eq_true hb)] at h
      refine go_le (lv1 := [(2, .int (i0 - i0 / i1 * i1))]) (aLe_of (show (List.map (fun q => q.1) ([(2, .int (i0 - i0 / i1 * i1))] : ALv)).Nodup from (by show ([2] : List Nat).Nodup; decide)) (aSubL_cons rfl aSubL_nil)) ?_
      exact Tf49_b18 hd (i0 - i0 / i1 * i1) I _ h
    · rw [if_neg (of_decide_eq_false hb)] at h
      refine go_ops aMi49 3 _ (f1 := (17, ([(2, .int (i0 - i0 / i1 * i1)), (0, .int i0), (1, .int i1)], [.int ((i0 - i0 / i1 * i1) + i1)]))) rfl ?_
      cases h
      exact go_ret aMi49 rfl aRetI ⟨rfl, rfl⟩
-- KernelGym$Disk.countFiles ()I
def f52_b22 (kad : Nat → Nat) (N : Nat) (Z : AZ) (k4 : Nat → Int32 → Int32 → AI → Option (Int32 × AI)) (a0 : Nat) (i1 : Int32) (i2 : Int32) (I : AI) : Option (Int32 × AI) :=
  k4 a0 i1 (i2 + (1 : Int32)) I
set_option maxRecDepth 20000 in
theorem Tf52_b22 {kad : Nat → Nat} {N : Nat} {Z : AZ} {d : Nat} {t : Option Nat × (Nat × Nat)} (hd : 1 ≤ d) (k4 : Nat → Int32 → Int32 → AI → Option (Int32 × AI))  (hk4 : ∀ (a0 : Nat) (ha0 : sh3 kad Z a0) (i1 : Int32) (i2 : Int32) (I : AI) (r : Int32 × AI), k4 a0 i1 i2 I = some r → aGo kad d 52 (4, ([(0, .ref a0), (1, .int i1), (2, .int i2)], [])) (aMem Z I, t) (qI Z t r)) : ∀ (a0 : Nat) (ha0 : sh3 kad Z a0) (i1 : Int32) (i2 : Int32) (I : AI) (r : Int32 × AI), f52_b22 kad N Z k4 a0 i1 i2 I = some r → aGo kad d 52 (22, ([(0, .ref a0), (1, .int i1), (2, .int i2)], [])) (aMem Z I, t) (qI Z t r) := by
  intro a0 ha0 i1 i2 I r h
  unfold f52_b22 at h
  refine go_ops aMi52 2 _ (f1 := (4, ([(2, .int (i2 + (1 : Int32))), (0, .ref a0), (1, .int i1)], []))) rfl ?_
  refine go_le (lv1 := [(0, .ref a0), (1, .int i1), (2, .int (i2 + (1 : Int32)))]) (aLe_of (show (List.map (fun q => q.1) ([(0, .ref a0), (1, .int i1), (2, .int (i2 + (1 : Int32)))] : ALv)).Nodup from (by show ([0, 1, 2] : List Nat).Nodup; decide)) (aSubL_cons rfl (aSubL_cons rfl (aSubL_cons rfl aSubL_nil)))) ?_
  exact hk4 a0 ha0 i1 (i2 + (1 : Int32)) I _ h
def f52_b4 (kad : Nat → Nat) (N : Nat) (Z : AZ) : Nat → Nat → Int32 → Int32 → AI → Option (Int32 × AI)
  | 0, _, _, _, _ => none
  | F + 1, a0, i1, i2, I =>
    if (6 : Int32) ≤ i2 then
      some (i1, I)
    else
      (f50 kad N Z a0 i2 (0 : Int32) I).bind fun r13_1 =>
      if r13_1.1 = 0 then
        f52_b22 kad N Z (fun p0 p1 p2 I => f52_b4 kad N Z F p0 p1 p2 I) a0 i1 i2 r13_1.2
      else
        f52_b22 kad N Z (fun p0 p1 p2 I => f52_b4 kad N Z F p0 p1 p2 I) a0 (i1 + (1 : Int32)) i2 r13_1.2
set_option maxRecDepth 20000 in
theorem Tf52_b4 {kad : Nat → Nat} {N : Nat} {Z : AZ} {d : Nat} {t : Option Nat × (Nat × Nat)} (hd : 1 ≤ d) : ∀ (F : Nat) (a0 : Nat) (ha0 : sh3 kad Z a0) (i1 : Int32) (i2 : Int32) (I : AI) (r : Int32 × AI), f52_b4 kad N Z F a0 i1 i2 I = some r → aGo kad d 52 (4, ([(0, .ref a0), (1, .int i1), (2, .int i2)], [])) (aMem Z I, t) (qI Z t r) := by
  intro F
  induction F with
  | zero => intro a0 ha0 i1 i2 I r h; cases h
  | succ F ih =>
    intro a0 ha0 i1 i2 I r h
    unfold f52_b4 at h
    refine go_ops aMi52 2 _ (f1 := (7, ([(0, .ref a0), (1, .int i1), (2, .int i2)], [.int (6 : Int32), .int i2]))) rfl ?_
    refine gg_br (b := decide ((6 : Int32) ≤ i2)) (tg := 28) (off := 21) aMi52 rfl rfl rfl rfl (fun hb => ?_) (fun hb => ?_)
    · rw [if_pos (of_decide_eq_true hb)] at h
      refine go_ops aMi52 1 _ (f1 := (29, ([(0, .ref a0), (1, .int i1), (2, .int i2)], [.int i1]))) rfl ?_
      cases h
      exact go_ret aMi52 rfl aRetI ⟨rfl, rfl⟩
    · rw [if_neg (of_decide_eq_false hb)] at h
      refine go_ops aMi52 3 _ (f1 := (13, ([(0, .ref a0), (1, .int i1), (2, .int i2)], [.int (0 : Int32), .int i2, .ref a0]))) rfl ?_
      obtain ⟨r13_1, hxr13_1, h⟩ := Option.bind_eq_some_iff.mp h
      refine gg_cv (as := [.int i2, .int (0 : Int32)]) (r := []) aMi52 rfl rfl rfl aMi50 (Nat.le_of_ble_eq_true rfl) rfl (Nat.le_of_ble_eq_true rfl) (Nat.le_of_ble_eq_true rfl) (by omega) (isK_of (sh3_z ha0)) (Tf50 (by omega) a0 ha0 i2 (0 : Int32) I _ hxr13_1) ?_
      show aGo kad d 52 (16, ([(0, .ref a0), (1, .int i1), (2, .int i2)], [.int r13_1.1])) (aMem Z r13_1.2, t) _
      refine gg_br (b := decide (r13_1.1 = 0)) (tg := 22) (off := 6) aMi52 rfl rfl rfl rfl (fun hb => ?_) (fun hb => ?_)
      · rw [if_pos (of_decide_eq_true hb)] at h
        exact Tf52_b22 hd (fun p0 p1 p2 I => f52_b4 kad N Z F p0 p1 p2 I) (fun p0 q0 p1 p2 I r hh => ih p0 q0 p1 p2 I r hh) a0 ha0 i1 i2 r13_1.2 _ h
      · rw [if_neg (of_decide_eq_false hb)] at h
        refine go_ops aMi52 1 _ (f1 := (22, ([(1, .int (i1 + (1 : Int32))), (0, .ref a0), (2, .int i2)], []))) rfl ?_
        refine go_le (lv1 := [(0, .ref a0), (1, .int (i1 + (1 : Int32))), (2, .int i2)]) (aLe_of (show (List.map (fun q => q.1) ([(0, .ref a0), (1, .int (i1 + (1 : Int32))), (2, .int i2)] : ALv)).Nodup from (by show ([0, 1, 2] : List Nat).Nodup; decide)) (aSubL_cons rfl (aSubL_cons rfl (aSubL_cons rfl aSubL_nil)))) ?_
        exact Tf52_b22 hd (fun p0 p1 p2 I => f52_b4 kad N Z F p0 p1 p2 I) (fun p0 q0 p1 p2 I r hh => ih p0 q0 p1 p2 I r hh) a0 ha0 (i1 + (1 : Int32)) i2 r13_1.2 _ h
def f52 (kad : Nat → Nat) (N : Nat) (Z : AZ) (a0 : Nat) (I : AI) : Option (Int32 × AI) :=
  f52_b4 kad N Z N a0 (0 : Int32) (0 : Int32) I
set_option maxRecDepth 20000 in
theorem Tf52 {kad : Nat → Nat} {N : Nat} {Z : AZ} {d : Nat} {t : Option Nat × (Nat × Nat)} (hd : 1 ≤ d) : ∀ (a0 : Nat) (ha0 : sh3 kad Z a0) (I : AI) (r : Int32 × AI), f52 kad N Z a0 I = some r → aGo kad d 52 (0, ([(0, .ref a0)], [])) (aMem Z I, t) (qI Z t r) := by
  intro a0 ha0 I r h
  unfold f52 at h
  refine go_ops aMi52 4 _ (f1 := (4, ([(2, .int (0 : Int32)), (1, .int (0 : Int32)), (0, .ref a0)], []))) rfl ?_
  refine go_le (lv1 := [(0, .ref a0), (1, .int (0 : Int32)), (2, .int (0 : Int32))]) (aLe_of (show (List.map (fun q => q.1) ([(0, .ref a0), (1, .int (0 : Int32)), (2, .int (0 : Int32))] : ALv)).Nodup from (by show ([0, 1, 2] : List Nat).Nodup; decide)) (aSubL_cons rfl (aSubL_cons rfl (aSubL_cons rfl aSubL_nil)))) ?_
  exact Tf52_b4 hd N a0 ha0 (0 : Int32) (0 : Int32) I _ h
-- KernelGym$Disk.countFreeBlocks ()I
def f57_b32 (kad : Nat → Nat) (N : Nat) (Z : AZ) (k11 : Nat → Int64 → Int32 → Int32 → AI → Option (Int32 × AI)) (a0 : Nat) (l1 : Int64) (i3 : Int32) (i4 : Int32) (I : AI) : Option (Int32 × AI) :=
  k11 a0 l1 i3 (i4 + (1 : Int32)) I
set_option maxRecDepth 20000 in
theorem Tf57_b32 {kad : Nat → Nat} {N : Nat} {Z : AZ} {d : Nat} {t : Option Nat × (Nat × Nat)} (hd : 1 ≤ d) (k11 : Nat → Int64 → Int32 → Int32 → AI → Option (Int32 × AI))  (hk11 : ∀ (a0 : Nat) (ha0 : sh3 kad Z a0) (l1 : Int64) (i3 : Int32) (i4 : Int32) (I : AI) (r : Int32 × AI), k11 a0 l1 i3 i4 I = some r → aGo kad d 57 (11, ([(1, .long l1), (3, .int i3), (4, .int i4)], [])) (aMem Z I, t) (qI Z t r)) : ∀ (a0 : Nat) (ha0 : sh3 kad Z a0) (l1 : Int64) (i3 : Int32) (i4 : Int32) (I : AI) (r : Int32 × AI), f57_b32 kad N Z k11 a0 l1 i3 i4 I = some r → aGo kad d 57 (32, ([(1, .long l1), (3, .int i3), (4, .int i4)], [])) (aMem Z I, t) (qI Z t r) := by
  intro a0 ha0 l1 i3 i4 I r h
  unfold f57_b32 at h
  refine go_ops aMi57 2 _ (f1 := (11, ([(4, .int (i4 + (1 : Int32))), (1, .long l1), (3, .int i3)], []))) rfl ?_
  refine go_le (lv1 := [(1, .long l1), (3, .int i3), (4, .int (i4 + (1 : Int32)))]) (aLe_of (show (List.map (fun q => q.1) ([(1, .long l1), (3, .int i3), (4, .int (i4 + (1 : Int32)))] : ALv)).Nodup from (by show ([1, 3, 4] : List Nat).Nodup; decide)) (aSubL_cons rfl (aSubL_cons rfl (aSubL_cons rfl aSubL_nil)))) ?_
  exact hk11 a0 ha0 l1 i3 (i4 + (1 : Int32)) I _ h
def f57_b11 (kad : Nat → Nat) (N : Nat) (Z : AZ) : Nat → Nat → Int64 → Int32 → Int32 → AI → Option (Int32 × AI)
  | 0, _, _, _, _, _ => none
  | F + 1, a0, l1, i3, i4, I =>
    if (32 : Int32) ≤ i4 then
      some (i3, I)
    else
      if ¬ (lg_cmp ((l1 >>> (i4.toInt64 &&& 63)) &&& (1 : Int64)) (0 : Int64)) = 0 then
        f57_b32 kad N Z (fun p0 p1 p2 p3 I => f57_b11 kad N Z F p0 p1 p2 p3 I) a0 l1 i3 i4 I
      else
        f57_b32 kad N Z (fun p0 p1 p2 p3 I => f57_b11 kad N Z F p0 p1 p2 p3 I) a0 l1 (i3 + (1 : Int32)) i4 I
set_option maxRecDepth 20000 in
theorem Tf57_b11 {kad : Nat → Nat} {N : Nat} {Z : AZ} {d : Nat} {t : Option Nat × (Nat × Nat)} (hd : 1 ≤ d) : ∀ (F : Nat) (a0 : Nat) (ha0 : sh3 kad Z a0) (l1 : Int64) (i3 : Int32) (i4 : Int32) (I : AI) (r : Int32 × AI), f57_b11 kad N Z F a0 l1 i3 i4 I = some r → aGo kad d 57 (11, ([(1, .long l1), (3, .int i3), (4, .int i4)], [])) (aMem Z I, t) (qI Z t r) := by
  intro F
  induction F with
  | zero => intro a0 ha0 l1 i3 i4 I r h; cases h
  | succ F ih =>
    intro a0 ha0 l1 i3 i4 I r h
    unfold f57_b11 at h
    refine go_ops aMi57 2 _ (f1 := (15, ([(1, .long l1), (3, .int i3), (4, .int i4)], [.int (32 : Int32), .int i4]))) rfl ?_
    refine gg_br (b := decide ((32 : Int32) ≤ i4)) (tg := 38) (off := 23) aMi57 rfl rfl rfl rfl (fun hb => ?_) (fun hb => ?_)
    · rw [if_pos (of_decide_eq_true hb)] at h
      refine go_ops aMi57 1 _ (f1 := (39, ([(1, .long l1), (3, .int i3), (4, .int i4)], [.int i3]))) rfl ?_
      cases h
      exact go_ret aMi57 rfl aRetI ⟨rfl, rfl⟩
    · rw [if_neg (of_decide_eq_false hb)] at h
      refine go_ops aMi57 7 _ (f1 := (26, ([(1, .long l1), (3, .int i3), (4, .int i4)], [.int (lg_cmp ((l1 >>> (i4.toInt64 &&& 63)) &&& (1 : Int64)) (0 : Int64))]))) rfl ?_
      refine gg_br (b := decide (¬ (lg_cmp ((l1 >>> (i4.toInt64 &&& 63)) &&& (1 : Int64)) (0 : Int64)) = 0)) (tg := 32) (off := 6) aMi57 rfl rfl rfl rfl (fun hb => ?_) (fun hb => ?_)
      · rw [if_pos (of_decide_eq_true hb)] at h
        exact Tf57_b32 hd (fun p0 p1 p2 p3 I => f57_b11 kad N Z F p0 p1 p2 p3 I) (fun p0 q0 p1 p2 p3 I r hh => ih p0 q0 p1 p2 p3 I r hh) a0 ha0 l1 i3 i4 I _ h
      · rw [if_neg (of_decide_eq_false hb)] at h
        refine go_ops aMi57 1 _ (f1 := (32, ([(3, .int (i3 + (1 : Int32))), (1, .long l1), (4, .int i4)], []))) rfl ?_
        refine go_le (lv1 := [(1, .long l1), (3, .int (i3 + (1 : Int32))), (4, .int i4)]) (aLe_of (show (List.map (fun q => q.1) ([(1, .long l1), (3, .int (i3 + (1 : Int32))), (4, .int i4)] : ALv)).Nodup from (by show ([1, 3, 4] : List Nat).Nodup; decide)) (aSubL_cons rfl (aSubL_cons rfl (aSubL_cons rfl aSubL_nil)))) ?_
        exact Tf57_b32 hd (fun p0 p1 p2 p3 I => f57_b11 kad N Z F p0 p1 p2 p3 I) (fun p0 q0 p1 p2 p3 I r hh => ih p0 q0 p1 p2 p3 I r hh) a0 ha0 l1 (i3 + (1 : Int32)) i4 I _ h
def f57 (kad : Nat → Nat) (N : Nat) (Z : AZ) (a0 : Nat) (I : AI) : Option (Int32 × AI) :=
  (f55 kad N Z a0 I).bind fun r1_1 =>
  f57_b11 kad N Z N a0 r1_1.1 (0 : Int32) (8 : Int32) r1_1.2
set_option maxRecDepth 20000 in
theorem Tf57 {kad : Nat → Nat} {N : Nat} {Z : AZ} {d : Nat} {t : Option Nat × (Nat × Nat)} (hd : 1 ≤ d) : ∀ (a0 : Nat) (ha0 : sh3 kad Z a0) (I : AI) (r : Int32 × AI), f57 kad N Z a0 I = some r → aGo kad d 57 (0, ([(0, .ref a0)], [])) (aMem Z I, t) (qI Z t r) := by
  intro a0 ha0 I r h
  unfold f57 at h
  refine go_ops aMi57 1 _ (f1 := (1, ([(0, .ref a0)], [.ref a0]))) rfl ?_
  obtain ⟨r1_1, hxr1_1, h⟩ := Option.bind_eq_some_iff.mp h
  refine gg_cv (as := []) (r := []) aMi57 rfl rfl rfl aMi55 (Nat.le_of_ble_eq_true rfl) rfl (Nat.le_of_ble_eq_true rfl) (Nat.le_of_ble_eq_true rfl) (by omega) (isK_of (sh3_z ha0)) (Tf55 (by omega) a0 ha0 I _ hxr1_1) ?_
  show aGo kad d 57 (4, ([(0, .ref a0)], [.long r1_1.1])) (aMem Z r1_1.2, t) _
  refine go_ops aMi57 5 _ (f1 := (11, ([(4, .int (8 : Int32)), (3, .int (0 : Int32)), (1, .long r1_1.1), (0, .ref a0)], []))) rfl ?_
  refine go_le (lv1 := [(1, .long r1_1.1), (3, .int (0 : Int32)), (4, .int (8 : Int32))]) (aLe_of (show (List.map (fun q => q.1) ([(1, .long r1_1.1), (3, .int (0 : Int32)), (4, .int (8 : Int32))] : ALv)).Nodup from (by show ([1, 3, 4] : List Nat).Nodup; decide)) (aSubL_cons rfl (aSubL_cons rfl (aSubL_cons rfl aSubL_nil)))) ?_
  exact Tf57_b11 hd N a0 ha0 r1_1.1 (0 : Int32) (8 : Int32) r1_1.2 _ h
-- KernelGym$Disk.isSoundEntry (I)Z
def f59_b53 (kad : Nat → Nat) (N : Nat) (Z : AZ) (a0 : Nat) (s0 : Int32) (I : AI) : Option (Int32 × AI) :=
  if s0 = 0 ∨ s0 = 1 then some (s0, I) else none
set_option maxRecDepth 20000 in
theorem Tf59_b53 {kad : Nat → Nat} {N : Nat} {Z : AZ} {d : Nat} {t : Option Nat × (Nat × Nat)} (hd : 2 ≤ d) : ∀ (a0 : Nat) (ha0 : sh3 kad Z a0) (s0 : Int32) (I : AI) (r : Int32 × AI), f59_b53 kad N Z a0 s0 I = some r → aGo kad d 59 (53, ([], [.int s0])) (aMem Z I, t) (qI Z t r) := by
  intro a0 ha0 s0 I r h
  unfold f59_b53 at h
  split at h
  · rename_i hz
    cases h
    exact go_ret aMi59 rfl (aRetZ hz) ⟨rfl, rfl⟩
  · cases h
def f59_b52 (kad : Nat → Nat) (N : Nat) (Z : AZ) (a0 : Nat) (I : AI) : Option (Int32 × AI) :=
  f59_b53 kad N Z a0 (0 : Int32) I
set_option maxRecDepth 20000 in
theorem Tf59_b52 {kad : Nat → Nat} {N : Nat} {Z : AZ} {d : Nat} {t : Option Nat × (Nat × Nat)} (hd : 2 ≤ d) : ∀ (a0 : Nat) (ha0 : sh3 kad Z a0) (I : AI) (r : Int32 × AI), f59_b52 kad N Z a0 I = some r → aGo kad d 59 (52, ([], [])) (aMem Z I, t) (qI Z t r) := by
  intro a0 ha0 I r h
  unfold f59_b52 at h
  refine go_ops aMi59 1 _ (f1 := (53, ([], [.int (0 : Int32)]))) rfl ?_
  exact Tf59_b53 hd a0 ha0 (0 : Int32) I _ h
def f59_b120 (kad : Nat → Nat) (N : Nat) (Z : AZ) (a0 : Nat) (s0 : Int32) (I : AI) : Option (Int32 × AI) :=
  if s0 = 0 ∨ s0 = 1 then some (s0, I) else none
set_option maxRecDepth 20000 in
theorem Tf59_b120 {kad : Nat → Nat} {N : Nat} {Z : AZ} {d : Nat} {t : Option Nat × (Nat × Nat)} (hd : 2 ≤ d) : ∀ (a0 : Nat) (ha0 : sh3 kad Z a0) (s0 : Int32) (I : AI) (r : Int32 × AI), f59_b120 kad N Z a0 s0 I = some r → aGo kad d 59 (120, ([], [.int s0])) (aMem Z I, t) (qI Z t r) := by
  intro a0 ha0 s0 I r h
  unfold f59_b120 at h
  split at h
  · rename_i hz
    cases h
    exact go_ret aMi59 rfl (aRetZ hz) ⟨rfl, rfl⟩
  · cases h
def f59_b119 (kad : Nat → Nat) (N : Nat) (Z : AZ) (a0 : Nat) (I : AI) : Option (Int32 × AI) :=
  f59_b120 kad N Z a0 (0 : Int32) I
set_option maxRecDepth 20000 in
theorem Tf59_b119 {kad : Nat → Nat} {N : Nat} {Z : AZ} {d : Nat} {t : Option Nat × (Nat × Nat)} (hd : 2 ≤ d) : ∀ (a0 : Nat) (ha0 : sh3 kad Z a0) (I : AI) (r : Int32 × AI), f59_b119 kad N Z a0 I = some r → aGo kad d 59 (119, ([], [])) (aMem Z I, t) (qI Z t r) := by
  intro a0 ha0 I r h
  unfold f59_b119 at h
  refine go_ops aMi59 1 _ (f1 := (120, ([], [.int (0 : Int32)]))) rfl ?_
  exact Tf59_b120 hd a0 ha0 (0 : Int32) I _ h
def f59_b112 (kad : Nat → Nat) (N : Nat) (Z : AZ) (a0 : Nat) (s0 : Int32) (s1 : Int32) (I : AI) : Option (Int32 × AI) :=
  if ¬ s1 = s0 then
    f59_b119 kad N Z a0 I
  else
    f59_b120 kad N Z a0 (1 : Int32) I
set_option maxRecDepth 20000 in
theorem Tf59_b112 {kad : Nat → Nat} {N : Nat} {Z : AZ} {d : Nat} {t : Option Nat × (Nat × Nat)} (hd : 2 ≤ d) : ∀ (a0 : Nat) (ha0 : sh3 kad Z a0) (s0 : Int32) (s1 : Int32) (I : AI) (r : Int32 × AI), f59_b112 kad N Z a0 s0 s1 I = some r → aGo kad d 59 (112, ([], [.int s0, .int s1])) (aMem Z I, t) (qI Z t r) := by
  intro a0 ha0 s0 s1 I r h
  unfold f59_b112 at h
  refine gg_br (b := decide (¬ s1 = s0)) (tg := 119) (off := 7) aMi59 rfl rfl rfl rfl (fun hb => ?_) (fun hb => ?_)
  · rw [if_pos (of_decide_eq_true hb)] at h
    exact Tf59_b119 hd a0 ha0 I _ h
  · rw [if_neg (of_decide_eq_false hb)] at h
    refine go_ops aMi59 2 _ (f1 := (120, ([], [.int (1 : Int32)]))) rfl ?_
    exact Tf59_b120 hd a0 ha0 (1 : Int32) I _ h
def f59_b101 (kad : Nat → Nat) (N : Nat) (Z : AZ) (a0 : Nat) (i2 : Int32) (s0 : Int32) (I : AI) : Option (Int32 × AI) :=
  if i2 ≤ (8 : Int32) then
    f59_b112 kad N Z a0 (0 : Int32) s0 I
  else
    f59_b112 kad N Z a0 (1 : Int32) s0 I
set_option maxRecDepth 20000 in
theorem Tf59_b101 {kad : Nat → Nat} {N : Nat} {Z : AZ} {d : Nat} {t : Option Nat × (Nat × Nat)} (hd : 2 ≤ d) : ∀ (a0 : Nat) (ha0 : sh3 kad Z a0) (i2 : Int32) (s0 : Int32) (I : AI) (r : Int32 × AI), f59_b101 kad N Z a0 i2 s0 I = some r → aGo kad d 59 (101, ([(2, .int i2)], [.int s0])) (aMem Z I, t) (qI Z t r) := by
  intro a0 ha0 i2 s0 I r h
  unfold f59_b101 at h
  refine go_ops aMi59 2 _ (f1 := (104, ([(2, .int i2)], [.int (8 : Int32), .int i2, .int s0]))) rfl ?_
  refine gg_br (b := decide (i2 ≤ (8 : Int32))) (tg := 111) (off := 7) aMi59 rfl rfl rfl rfl (fun hb => ?_) (fun hb => ?_)
  · rw [if_pos (of_decide_eq_true hb)] at h
    refine go_ops aMi59 1 _ (f1 := (112, ([(2, .int i2)], [.int (0 : Int32), .int s0]))) rfl ?_
    refine go_le (lv1 := []) (aLe_of (show (List.map (fun q => q.1) ([] : ALv)).Nodup from (by show ([] : List Nat).Nodup; decide)) aSubL_nil) ?_
    exact Tf59_b112 hd a0 ha0 (0 : Int32) s0 I _ h
  · rw [if_neg (of_decide_eq_false hb)] at h
    refine go_ops aMi59 2 _ (f1 := (112, ([(2, .int i2)], [.int (1 : Int32), .int s0]))) rfl ?_
    refine go_le (lv1 := []) (aLe_of (show (List.map (fun q => q.1) ([] : ALv)).Nodup from (by show ([] : List Nat).Nodup; decide)) aSubL_nil) ?_
    exact Tf59_b112 hd a0 ha0 (1 : Int32) s0 I _ h
def f59_b88 (kad : Nat → Nat) (N : Nat) (Z : AZ) (a0 : Nat) (i2 : Int32) (i4 : Int32) (s0 : Int32) (s1 : Int32) (I : AI) : Option (Int32 × AI) :=
  if ¬ s1 = s0 then
    f59_b119 kad N Z a0 I
  else
    if i4 = 0 then
      f59_b101 kad N Z a0 i2 (0 : Int32) I
    else
      f59_b101 kad N Z a0 i2 (1 : Int32) I
set_option maxRecDepth 20000 in
theorem Tf59_b88 {kad : Nat → Nat} {N : Nat} {Z : AZ} {d : Nat} {t : Option Nat × (Nat × Nat)} (hd : 2 ≤ d) : ∀ (a0 : Nat) (ha0 : sh3 kad Z a0) (i2 : Int32) (i4 : Int32) (s0 : Int32) (s1 : Int32) (I : AI) (r : Int32 × AI), f59_b88 kad N Z a0 i2 i4 s0 s1 I = some r → aGo kad d 59 (88, ([(2, .int i2), (4, .int i4)], [.int s0, .int s1])) (aMem Z I, t) (qI Z t r) := by
  intro a0 ha0 i2 i4 s0 s1 I r h
  unfold f59_b88 at h
  refine gg_br (b := decide (¬ s1 = s0)) (tg := 119) (off := 31) aMi59 rfl rfl rfl rfl (fun hb => ?_) (fun hb => ?_)
  · rw [if_pos (of_decide_eq_true hb)] at h
    refine go_le (lv1 := []) (aLe_of (show (List.map (fun q => q.1) ([] : ALv)).Nodup from (by show ([] : List Nat).Nodup; decide)) aSubL_nil) ?_
    exact Tf59_b119 hd a0 ha0 I _ h
  · rw [if_neg (of_decide_eq_false hb)] at h
    refine go_ops aMi59 1 _ (f1 := (93, ([(2, .int i2), (4, .int i4)], [.int i4]))) rfl ?_
    refine gg_br (b := decide (i4 = 0)) (tg := 100) (off := 7) aMi59 rfl rfl rfl rfl (fun hb => ?_) (fun hb => ?_)
    · rw [if_pos (of_decide_eq_true hb)] at h
      refine go_ops aMi59 1 _ (f1 := (101, ([(2, .int i2), (4, .int i4)], [.int (0 : Int32)]))) rfl ?_
      refine go_le (lv1 := [(2, .int i2)]) (aLe_of (show (List.map (fun q => q.1) ([(2, .int i2)] : ALv)).Nodup from (by show ([2] : List Nat).Nodup; decide)) (aSubL_cons rfl aSubL_nil)) ?_
      exact Tf59_b101 hd a0 ha0 i2 (0 : Int32) I _ h
    · rw [if_neg (of_decide_eq_false hb)] at h
      refine go_ops aMi59 2 _ (f1 := (101, ([(2, .int i2), (4, .int i4)], [.int (1 : Int32)]))) rfl ?_
      refine go_le (lv1 := [(2, .int i2)]) (aLe_of (show (List.map (fun q => q.1) ([(2, .int i2)] : ALv)).Nodup from (by show ([2] : List Nat).Nodup; decide)) (aSubL_cons rfl aSubL_nil)) ?_
      exact Tf59_b101 hd a0 ha0 i2 (1 : Int32) I _ h
def f59_b79 (kad : Nat → Nat) (N : Nat) (Z : AZ) (a0 : Nat) (i2 : Int32) (i4 : Int32) (s0 : Int32) (I : AI) : Option (Int32 × AI) :=
  if i2 ≤ 0 then
    f59_b88 kad N Z a0 i2 i4 (0 : Int32) s0 I
  else
    f59_b88 kad N Z a0 i2 i4 (1 : Int32) s0 I
set_option maxRecDepth 20000 in
theorem Tf59_b79 {kad : Nat → Nat} {N : Nat} {Z : AZ} {d : Nat} {t : Option Nat × (Nat × Nat)} (hd : 2 ≤ d) : ∀ (a0 : Nat) (ha0 : sh3 kad Z a0) (i2 : Int32) (i4 : Int32) (s0 : Int32) (I : AI) (r : Int32 × AI), f59_b79 kad N Z a0 i2 i4 s0 I = some r → aGo kad d 59 (79, ([(2, .int i2), (4, .int i4)], [.int s0])) (aMem Z I, t) (qI Z t r) := by
  intro a0 ha0 i2 i4 s0 I r h
  unfold f59_b79 at h
  refine go_ops aMi59 1 _ (f1 := (80, ([(2, .int i2), (4, .int i4)], [.int i2, .int s0]))) rfl ?_
  refine gg_br (b := decide (i2 ≤ 0)) (tg := 87) (off := 7) aMi59 rfl rfl rfl rfl (fun hb => ?_) (fun hb => ?_)
  · rw [if_pos (of_decide_eq_true hb)] at h
    refine go_ops aMi59 1 _ (f1 := (88, ([(2, .int i2), (4, .int i4)], [.int (0 : Int32), .int s0]))) rfl ?_
    exact Tf59_b88 hd a0 ha0 i2 i4 (0 : Int32) s0 I _ h
  · rw [if_neg (of_decide_eq_false hb)] at h
    refine go_ops aMi59 2 _ (f1 := (88, ([(2, .int i2), (4, .int i4)], [.int (1 : Int32), .int s0]))) rfl ?_
    exact Tf59_b88 hd a0 ha0 i2 i4 (1 : Int32) s0 I _ h
def f59 (kad : Nat → Nat) (N : Nat) (Z : AZ) (a0 : Nat) (i1 : Int32) (I : AI) : Option (Int32 × AI) :=
  (f50 kad N Z a0 i1 (1 : Int32) I).bind fun r3_1 =>
  (f50 kad N Z a0 i1 (2 : Int32) r3_1.2).bind fun r10_2 =>
  (f50 kad N Z a0 i1 (3 : Int32) r10_2.2).bind fun r17_3 =>
  (f50 kad N Z a0 i1 (0 : Int32) r17_3.2).bind fun r25_4 =>
  if ¬ r25_4.1 = 0 then
    (f51 kad N Z a0 r25_4.1 r25_4.2).bind fun r57_5 =>
    if ¬ r57_5.1 = i1 then
      f59_b119 kad N Z a0 r57_5.2
    else
      if (16 : Int32) < r3_1.1 then
        f59_b119 kad N Z a0 r57_5.2
      else
        if r10_2.1 = 0 then
          f59_b79 kad N Z a0 r3_1.1 r17_3.1 (0 : Int32) r57_5.2
        else
          f59_b79 kad N Z a0 r3_1.1 r17_3.1 (1 : Int32) r57_5.2
  else
    if ¬ r3_1.1 = 0 then
      f59_b52 kad N Z a0 r25_4.2
    else
      if ¬ r10_2.1 = 0 then
        f59_b52 kad N Z a0 r25_4.2
      else
        if ¬ r17_3.1 = 0 then
          f59_b52 kad N Z a0 r25_4.2
        else
          f59_b53 kad N Z a0 (1 : Int32) r25_4.2
set_option maxRecDepth 20000 in
theorem Tf59 {kad : Nat → Nat} {N : Nat} {Z : AZ} {d : Nat} {t : Option Nat × (Nat × Nat)} (hd : 2 ≤ d) : ∀ (a0 : Nat) (ha0 : sh3 kad Z a0) (i1 : Int32) (I : AI) (r : Int32 × AI), f59 kad N Z a0 i1 I = some r → aGo kad d 59 (0, ([(0, .ref a0), (1, .int i1)], [])) (aMem Z I, t) (qI Z t r) := by
  intro a0 ha0 i1 I r h
  unfold f59 at h
  refine go_ops aMi59 3 _ (f1 := (3, ([(0, .ref a0), (1, .int i1)], [.int (1 : Int32), .int i1, .ref a0]))) rfl ?_
  obtain ⟨r3_1, hxr3_1, h⟩ := Option.bind_eq_some_iff.mp h
  refine gg_cv (as := [.int i1, .int (1 : Int32)]) (r := []) aMi59 rfl rfl rfl aMi50 (Nat.le_of_ble_eq_true rfl) rfl (Nat.le_of_ble_eq_true rfl) (Nat.le_of_ble_eq_true rfl) (by omega) (isK_of (sh3_z ha0)) (Tf50 (by omega) a0 ha0 i1 (1 : Int32) I _ hxr3_1) ?_
  show aGo kad d 59 (6, ([(0, .ref a0), (1, .int i1)], [.int r3_1.1])) (aMem Z r3_1.2, t) _
  refine go_ops aMi59 4 _ (f1 := (10, ([(2, .int r3_1.1), (0, .ref a0), (1, .int i1)], [.int (2 : Int32), .int i1, .ref a0]))) rfl ?_
  obtain ⟨r10_2, hxr10_2, h⟩ := Option.bind_eq_some_iff.mp h
  refine gg_cv (as := [.int i1, .int (2 : Int32)]) (r := []) aMi59 rfl rfl rfl aMi50 (Nat.le_of_ble_eq_true rfl) rfl (Nat.le_of_ble_eq_true rfl) (Nat.le_of_ble_eq_true rfl) (by omega) (isK_of (sh3_z ha0)) (Tf50 (by omega) a0 ha0 i1 (2 : Int32) r3_1.2 _ hxr10_2) ?_
  show aGo kad d 59 (13, ([(2, .int r3_1.1), (0, .ref a0), (1, .int i1)], [.int r10_2.1])) (aMem Z r10_2.2, t) _
  refine go_ops aMi59 4 _ (f1 := (17, ([(3, .int r10_2.1), (2, .int r3_1.1), (0, .ref a0), (1, .int i1)], [.int (3 : Int32), .int i1, .ref a0]))) rfl ?_
  obtain ⟨r17_3, hxr17_3, h⟩ := Option.bind_eq_some_iff.mp h
  refine gg_cv (as := [.int i1, .int (3 : Int32)]) (r := []) aMi59 rfl rfl rfl aMi50 (Nat.le_of_ble_eq_true rfl) rfl (Nat.le_of_ble_eq_true rfl) (Nat.le_of_ble_eq_true rfl) (by omega) (isK_of (sh3_z ha0)) (Tf50 (by omega) a0 ha0 i1 (3 : Int32) r10_2.2 _ hxr17_3) ?_
  show aGo kad d 59 (20, ([(3, .int r10_2.1), (2, .int r3_1.1), (0, .ref a0), (1, .int i1)], [.int r17_3.1])) (aMem Z r17_3.2, t) _
  refine go_ops aMi59 4 _ (f1 := (25, ([(4, .int r17_3.1), (3, .int r10_2.1), (2, .int r3_1.1), (0, .ref a0), (1, .int i1)], [.int (0 : Int32), .int i1, .ref a0]))) rfl ?_
  obtain ⟨r25_4, hxr25_4, h⟩ := Option.bind_eq_some_iff.mp h
  refine gg_cv (as := [.int i1, .int (0 : Int32)]) (r := []) aMi59 rfl rfl rfl aMi50 (Nat.le_of_ble_eq_true rfl) rfl (Nat.le_of_ble_eq_true rfl) (Nat.le_of_ble_eq_true rfl) (by omega) (isK_of (sh3_z ha0)) (Tf50 (by omega) a0 ha0 i1 (0 : Int32) r17_3.2 _ hxr25_4) ?_
  show aGo kad d 59 (28, ([(4, .int r17_3.1), (3, .int r10_2.1), (2, .int r3_1.1), (0, .ref a0), (1, .int i1)], [.int r25_4.1])) (aMem Z r25_4.2, t) _
  refine go_ops aMi59 2 _ (f1 := (32, ([(5, .int r25_4.1), (4, .int r17_3.1), (3, .int r10_2.1), (2, .int r3_1.1), (0, .ref a0), (1, .int i1)], [.int r25_4.1]))) rfl ?_
  refine gg_br (b := decide (¬ r25_4.1 = 0)) (tg := 54) (off := 22) aMi59 rfl rfl rfl rfl (fun hb => ?_) (fun hb => ?_)
  · rw [if_pos (of_decide_eq_true hb)] at h
    refine go_ops aMi59 2 _ (f1 := (57, ([(5, .int r25_4.1), (4, .int r17_3.1), (3, .int r10_2.1), (2, .int r3_1.1), (0, .ref a0), (1, .int i1)], [.int r25_4.1, .ref a0]))) rfl ?_
    obtain ⟨r57_5, hxr57_5, h⟩ := Option.bind_eq_some_iff.mp h
    refine gg_cv (as := [.int r25_4.1]) (r := []) aMi59 rfl rfl rfl aMi51 (Nat.le_of_ble_eq_true rfl) rfl (Nat.le_of_ble_eq_true rfl) (Nat.le_of_ble_eq_true rfl) (by omega) (isK_of (sh3_z ha0)) (Tf51 (by omega) a0 ha0 r25_4.1 r25_4.2 _ hxr57_5) ?_
    show aGo kad d 59 (60, ([(5, .int r25_4.1), (4, .int r17_3.1), (3, .int r10_2.1), (2, .int r3_1.1), (0, .ref a0), (1, .int i1)], [.int r57_5.1])) (aMem Z r57_5.2, t) _
    refine go_ops aMi59 1 _ (f1 := (61, ([(5, .int r25_4.1), (4, .int r17_3.1), (3, .int r10_2.1), (2, .int r3_1.1), (0, .ref a0), (1, .int i1)], [.int i1, .int r57_5.1]))) rfl ?_
    refine gg_br (b := decide (¬ r57_5.1 = i1)) (tg := 119) (off := 58) aMi59 rfl rfl rfl rfl (fun hb => ?_) (fun hb => ?_)
    · rw [if_pos (of_decide_eq_true hb)] at h
      refine go_le (lv1 := []) (aLe_of (show (List.map (fun q => q.1) ([] : ALv)).Nodup from (by show ([] : List Nat).Nodup; decide)) aSubL_nil) ?_
      exact Tf59_b119 hd a0 ha0 r57_5.2 _ h
    · rw [if_neg (of_decide_eq_false hb)] at h
      refine go_ops aMi59 2 _ (f1 := (67, ([(5, .int r25_4.1), (4, .int r17_3.1), (3, .int r10_2.1), (2, .int r3_1.1), (0, .ref a0), (1, .int i1)], [.int (16 : Int32), .int r3_1.1]))) rfl ?_
      refine gg_br (b := decide ((16 : Int32) < r3_1.1)) (tg := 119) (off := 52) aMi59 rfl rfl rfl rfl (fun hb => ?_) (fun hb => ?_)
      · rw [if_pos (of_decide_eq_true hb)] at h
        refine go_le (lv1 := []) (aLe_of (show (List.map (fun q => q.1) ([] : ALv)).Nodup from (by show ([] : List Nat).Nodup; decide)) aSubL_nil) ?_
        exact Tf59_b119 hd a0 ha0 r57_5.2 _ h
      · rw [if_neg (of_decide_eq_false hb)] at h
        refine go_ops aMi59 1 _ (f1 := (71, ([(5, .int r25_4.1), (4, .int r17_3.1), (3, .int r10_2.1), (2, .int r3_1.1), (0, .ref a0), (1, .int i1)], [.int r10_2.1]))) rfl ?_
        refine gg_br (b := decide (r10_2.1 = 0)) (tg := 78) (off := 7) aMi59 rfl rfl rfl rfl (fun hb => ?_) (fun hb => ?_)
        · rw [if_pos (of_decide_eq_true hb)] at h
          refine go_ops aMi59 1 _ (f1 := (79, ([(5, .int r25_4.1), (4, .int r17_3.1), (3, .int r10_2.1), (2, .int r3_1.1), (0, .ref a0), (1, .int i1)], [.int (0 : Int32)]))) rfl ?_
          refine go_le (lv1 := [(2, .int r3_1.1), (4, .int r17_3.1)]) (aLe_of (show (List.map (fun q => q.1) ([(2, .int r3_1.1), (4, .int r17_3.1)] : ALv)).Nodup from (by show ([2, 4] : List Nat).Nodup; decide)) (aSubL_cons rfl (aSubL_cons rfl aSubL_nil))) ?_
          exact Tf59_b79 hd a0 ha0 r3_1.1 r17_3.1 (0 : Int32) r57_5.2 _ h
        · rw [if_neg (of_decide_eq_false hb)] at h
          refine go_ops aMi59 2 _ (f1 := (79, ([(5, .int r25_4.1), (4, .int r17_3.1), (3, .int r10_2.1), (2, .int r3_1.1), (0, .ref a0), (1, .int i1)], [.int (1 : Int32)]))) rfl ?_
          refine go_le (lv1 := [(2, .int r3_1.1), (4, .int r17_3.1)]) (aLe_of (show (List.map (fun q => q.1) ([(2, .int r3_1.1), (4, .int r17_3.1)] : ALv)).Nodup from (by show ([2, 4] : List Nat).Nodup; decide)) (aSubL_cons rfl (aSubL_cons rfl aSubL_nil))) ?_
          exact Tf59_b79 hd a0 ha0 r3_1.1 r17_3.1 (1 : Int32) r57_5.2 _ h
  · rw [if_neg (of_decide_eq_false hb)] at h
    refine go_ops aMi59 1 _ (f1 := (36, ([(5, .int r25_4.1), (4, .int r17_3.1), (3, .int r10_2.1), (2, .int r3_1.1), (0, .ref a0), (1, .int i1)], [.int r3_1.1]))) rfl ?_
    refine gg_br (b := decide (¬ r3_1.1 = 0)) (tg := 52) (off := 16) aMi59 rfl rfl rfl rfl (fun hb => ?_) (fun hb => ?_)
    · rw [if_pos (of_decide_eq_true hb)] at h
      refine go_le (lv1 := []) (aLe_of (show (List.map (fun q => q.1) ([] : ALv)).Nodup from (by show ([] : List Nat).Nodup; decide)) aSubL_nil) ?_
      exact Tf59_b52 hd a0 ha0 r25_4.2 _ h
    · rw [if_neg (of_decide_eq_false hb)] at h
      refine go_ops aMi59 1 _ (f1 := (40, ([(5, .int r25_4.1), (4, .int r17_3.1), (3, .int r10_2.1), (2, .int r3_1.1), (0, .ref a0), (1, .int i1)], [.int r10_2.1]))) rfl ?_
      refine gg_br (b := decide (¬ r10_2.1 = 0)) (tg := 52) (off := 12) aMi59 rfl rfl rfl rfl (fun hb => ?_) (fun hb => ?_)
      · rw [if_pos (of_decide_eq_true hb)] at h
        refine go_le (lv1 := []) (aLe_of (show (List.map (fun q => q.1) ([] : ALv)).Nodup from (by show ([] : List Nat).Nodup; decide)) aSubL_nil) ?_
        exact Tf59_b52 hd a0 ha0 r25_4.2 _ h
      · rw [if_neg (of_decide_eq_false hb)] at h
        refine go_ops aMi59 1 _ (f1 := (45, ([(5, .int r25_4.1), (4, .int r17_3.1), (3, .int r10_2.1), (2, .int r3_1.1), (0, .ref a0), (1, .int i1)], [.int r17_3.1]))) rfl ?_
        refine gg_br (b := decide (¬ r17_3.1 = 0)) (tg := 52) (off := 7) aMi59 rfl rfl rfl rfl (fun hb => ?_) (fun hb => ?_)
        · rw [if_pos (of_decide_eq_true hb)] at h
          refine go_le (lv1 := []) (aLe_of (show (List.map (fun q => q.1) ([] : ALv)).Nodup from (by show ([] : List Nat).Nodup; decide)) aSubL_nil) ?_
          exact Tf59_b52 hd a0 ha0 r25_4.2 _ h
        · rw [if_neg (of_decide_eq_false hb)] at h
          refine go_ops aMi59 2 _ (f1 := (53, ([(5, .int r25_4.1), (4, .int r17_3.1), (3, .int r10_2.1), (2, .int r3_1.1), (0, .ref a0), (1, .int i1)], [.int (1 : Int32)]))) rfl ?_
          refine go_le (lv1 := []) (aLe_of (show (List.map (fun q => q.1) ([] : ALv)).Nodup from (by show ([] : List Nat).Nodup; decide)) aSubL_nil) ?_
          exact Tf59_b53 hd a0 ha0 (1 : Int32) r25_4.2 _ h
-- KernelGym$Disk.isSound ()Z
def f58_b81 (kad : Nat → Nat) (N : Nat) (Z : AZ) (a0 : Nat) (I : AI) : Option (Int32 × AI) :=
  some ((0 : Int32), I)
set_option maxRecDepth 20000 in
theorem Tf58_b81 {kad : Nat → Nat} {N : Nat} {Z : AZ} {d : Nat} {t : Option Nat × (Nat × Nat)} (hd : 3 ≤ d) : ∀ (a0 : Nat) (ha0 : sh3 kad Z a0) (I : AI) (r : Int32 × AI), f58_b81 kad N Z a0 I = some r → aGo kad d 58 (81, ([], [])) (aMem Z I, t) (qI Z t r) := by
  intro a0 ha0 I r h
  unfold f58_b81 at h
  refine go_ops aMi58 1 _ (f1 := (82, ([], [.int (0 : Int32)]))) rfl ?_
  cases h
  exact go_ret aMi58 rfl (aRetZ (Or.inl rfl)) ⟨rfl, rfl⟩
def f58_b97 (kad : Nat → Nat) (N : Nat) (Z : AZ) (k17 : Nat → Int64 → Int32 → AI → Option (Int32 × AI)) (k36 : Nat → Int64 → Int32 → Int32 → AI → Option (Int32 × AI)) (a0 : Nat) (i3 : Int32) (i4 : Int32) (s0 : Int64) (s1 : Int64) (I : AI) : Option (Int32 × AI) :=
  k36 a0 (s1 ||| s0) i3 (i4 + (1 : Int32)) I
set_option maxRecDepth 20000 in
theorem Tf58_b97 {kad : Nat → Nat} {N : Nat} {Z : AZ} {d : Nat} {t : Option Nat × (Nat × Nat)} (hd : 3 ≤ d) (k17 : Nat → Int64 → Int32 → AI → Option (Int32 × AI))  (k36 : Nat → Int64 → Int32 → Int32 → AI → Option (Int32 × AI))  (hk17 : ∀ (a0 : Nat) (ha0 : sh3 kad Z a0) (l1 : Int64) (i3 : Int32) (I : AI) (r : Int32 × AI), k17 a0 l1 i3 I = some r → aGo kad d 58 (17, ([(0, .ref a0), (1, .long l1), (3, .int i3)], [])) (aMem Z I, t) (qI Z t r)) (hk36 : ∀ (a0 : Nat) (ha0 : sh3 kad Z a0) (l1 : Int64) (i3 : Int32) (i4 : Int32) (I : AI) (r : Int32 × AI), k36 a0 l1 i3 i4 I = some r → aGo kad d 58 (36, ([(0, .ref a0), (1, .long l1), (3, .int i3), (4, .int i4)], [])) (aMem Z I, t) (qI Z t r)) : ∀ (a0 : Nat) (ha0 : sh3 kad Z a0) (i3 : Int32) (i4 : Int32) (s0 : Int64) (s1 : Int64) (I : AI) (r : Int32 × AI), f58_b97 kad N Z k17 k36 a0 i3 i4 s0 s1 I = some r → aGo kad d 58 (97, ([(0, .ref a0), (3, .int i3), (4, .int i4)], [.long s0, .long s1])) (aMem Z I, t) (qI Z t r) := by
  intro a0 ha0 i3 i4 s0 s1 I r h
  unfold f58_b97 at h
  refine go_ops aMi58 4 _ (f1 := (36, ([(4, .int (i4 + (1 : Int32))), (1, .long (s1 ||| s0)), (0, .ref a0), (3, .int i3)], []))) rfl ?_
  refine go_le (lv1 := [(0, .ref a0), (1, .long (s1 ||| s0)), (3, .int i3), (4, .int (i4 + (1 : Int32)))]) (aLe_of (show (List.map (fun q => q.1) ([(0, .ref a0), (1, .long (s1 ||| s0)), (3, .int i3), (4, .int (i4 + (1 : Int32)))] : ALv)).Nodup from (by show ([0, 1, 3, 4] : List Nat).Nodup; decide)) (aSubL_cons rfl (aSubL_cons rfl (aSubL_cons rfl (aSubL_cons rfl aSubL_nil))))) ?_
  exact hk36 a0 ha0 (s1 ||| s0) i3 (i4 + (1 : Int32)) I _ h
def f58_b83 (kad : Nat → Nat) (N : Nat) (Z : AZ) (k17 : Nat → Int64 → Int32 → AI → Option (Int32 × AI)) (k36 : Nat → Int64 → Int32 → Int32 → AI → Option (Int32 × AI)) (a0 : Nat) (l1 : Int64) (i3 : Int32) (i4 : Int32) (i5 : Int32) (I : AI) : Option (Int32 × AI) :=
  if ¬ i5 = 0 then
    f58_b97 kad N Z k17 k36 a0 i3 i4 ((1 : Int64) <<< (i5.toInt64 &&& 63)) l1 I
  else
    f58_b97 kad N Z k17 k36 a0 i3 i4 (0 : Int64) l1 I
set_option maxRecDepth 20000 in
theorem Tf58_b83 {kad : Nat → Nat} {N : Nat} {Z : AZ} {d : Nat} {t : Option Nat × (Nat × Nat)} (hd : 3 ≤ d) (k17 : Nat → Int64 → Int32 → AI → Option (Int32 × AI))  (k36 : Nat → Int64 → Int32 → Int32 → AI → Option (Int32 × AI))  (hk17 : ∀ (a0 : Nat) (ha0 : sh3 kad Z a0) (l1 : Int64) (i3 : Int32) (I : AI) (r : Int32 × AI), k17 a0 l1 i3 I = some r → aGo kad d 58 (17, ([(0, .ref a0), (1, .long l1), (3, .int i3)], [])) (aMem Z I, t) (qI Z t r)) (hk36 : ∀ (a0 : Nat) (ha0 : sh3 kad Z a0) (l1 : Int64) (i3 : Int32) (i4 : Int32) (I : AI) (r : Int32 × AI), k36 a0 l1 i3 i4 I = some r → aGo kad d 58 (36, ([(0, .ref a0), (1, .long l1), (3, .int i3), (4, .int i4)], [])) (aMem Z I, t) (qI Z t r)) : ∀ (a0 : Nat) (ha0 : sh3 kad Z a0) (l1 : Int64) (i3 : Int32) (i4 : Int32) (i5 : Int32) (I : AI) (r : Int32 × AI), f58_b83 kad N Z k17 k36 a0 l1 i3 i4 i5 I = some r → aGo kad d 58 (83, ([(0, .ref a0), (1, .long l1), (3, .int i3), (4, .int i4), (5, .int i5)], [])) (aMem Z I, t) (qI Z t r) := by
  intro a0 ha0 l1 i3 i4 i5 I r h
  unfold f58_b83 at h
  refine go_ops aMi58 2 _ (f1 := (86, ([(0, .ref a0), (1, .long l1), (3, .int i3), (4, .int i4), (5, .int i5)], [.int i5, .long l1]))) rfl ?_
  refine gg_br (b := decide (¬ i5 = 0)) (tg := 93) (off := 7) aMi58 rfl rfl rfl rfl (fun hb => ?_) (fun hb => ?_)
  · rw [if_pos (of_decide_eq_true hb)] at h
    refine go_ops aMi58 3 _ (f1 := (97, ([(0, .ref a0), (1, .long l1), (3, .int i3), (4, .int i4), (5, .int i5)], [.long ((1 : Int64) <<< (i5.toInt64 &&& 63)), .long l1]))) rfl ?_
    refine go_le (lv1 := [(0, .ref a0), (3, .int i3), (4, .int i4)]) (aLe_of (show (List.map (fun q => q.1) ([(0, .ref a0), (3, .int i3), (4, .int i4)] : ALv)).Nodup from (by show ([0, 3, 4] : List Nat).Nodup; decide)) (aSubL_cons rfl (aSubL_cons rfl (aSubL_cons rfl aSubL_nil)))) ?_
    exact Tf58_b97 hd k17 k36 hk17 hk36 a0 ha0 i3 i4 ((1 : Int64) <<< (i5.toInt64 &&& 63)) l1 I _ h
  · rw [if_neg (of_decide_eq_false hb)] at h
    refine go_ops aMi58 2 _ (f1 := (97, ([(0, .ref a0), (1, .long l1), (3, .int i3), (4, .int i4), (5, .int i5)], [.long (0 : Int64), .long l1]))) rfl ?_
    refine go_le (lv1 := [(0, .ref a0), (3, .int i3), (4, .int i4)]) (aLe_of (show (List.map (fun q => q.1) ([(0, .ref a0), (3, .int i3), (4, .int i4)] : ALv)).Nodup from (by show ([0, 3, 4] : List Nat).Nodup; decide)) (aSubL_cons rfl (aSubL_cons rfl (aSubL_cons rfl aSubL_nil)))) ?_
    exact Tf58_b97 hd k17 k36 hk17 hk36 a0 ha0 i3 i4 (0 : Int64) l1 I _ h
def f58_b36 (kad : Nat → Nat) (N : Nat) (Z : AZ) (k17 : Nat → Int64 → Int32 → AI → Option (Int32 × AI)) : Nat → Nat → Int64 → Int32 → Int32 → AI → Option (Int32 × AI)
  | 0, _, _, _, _, _ => none
  | F + 1, a0, l1, i3, i4, I =>
    if (3 : Int32) < i4 then
      k17 a0 l1 (i3 + (1 : Int32)) I
    else
      (f50 kad N Z a0 i3 i4 I).bind fun r46_1 =>
      if r46_1.1 = 0 then
        f58_b83 kad N Z k17 (fun p0 p1 p2 p3 I => f58_b36 kad N Z k17 F p0 p1 p2 p3 I) a0 l1 i3 i4 r46_1.1 r46_1.2
      else
        if r46_1.1 < (8 : Int32) then
          f58_b81 kad N Z a0 r46_1.2
        else
          if (32 : Int32) ≤ r46_1.1 then
            f58_b81 kad N Z a0 r46_1.2
          else
            if (lg_cmp ((l1 >>> (r46_1.1.toInt64 &&& 63)) &&& (1 : Int64)) (0 : Int64)) = 0 then
              f58_b83 kad N Z k17 (fun p0 p1 p2 p3 I => f58_b36 kad N Z k17 F p0 p1 p2 p3 I) a0 l1 i3 i4 r46_1.1 r46_1.2
            else
              f58_b81 kad N Z a0 r46_1.2
set_option maxRecDepth 20000 in
theorem Tf58_b36 {kad : Nat → Nat} {N : Nat} {Z : AZ} {d : Nat} {t : Option Nat × (Nat × Nat)} (hd : 3 ≤ d) (k17 : Nat → Int64 → Int32 → AI → Option (Int32 × AI))  (hk17 : ∀ (a0 : Nat) (ha0 : sh3 kad Z a0) (l1 : Int64) (i3 : Int32) (I : AI) (r : Int32 × AI), k17 a0 l1 i3 I = some r → aGo kad d 58 (17, ([(0, .ref a0), (1, .long l1), (3, .int i3)], [])) (aMem Z I, t) (qI Z t r)) : ∀ (F : Nat) (a0 : Nat) (ha0 : sh3 kad Z a0) (l1 : Int64) (i3 : Int32) (i4 : Int32) (I : AI) (r : Int32 × AI), f58_b36 kad N Z k17 F a0 l1 i3 i4 I = some r → aGo kad d 58 (36, ([(0, .ref a0), (1, .long l1), (3, .int i3), (4, .int i4)], [])) (aMem Z I, t) (qI Z t r) := by
  intro F
  induction F with
  | zero => intro a0 ha0 l1 i3 i4 I r h; cases h
  | succ F ih =>
    intro a0 ha0 l1 i3 i4 I r h
    unfold f58_b36 at h
    refine go_ops aMi58 2 _ (f1 := (39, ([(0, .ref a0), (1, .long l1), (3, .int i3), (4, .int i4)], [.int (3 : Int32), .int i4]))) rfl ?_
    refine gg_br (b := decide ((3 : Int32) < i4)) (tg := 105) (off := 66) aMi58 rfl rfl rfl rfl (fun hb => ?_) (fun hb => ?_)
    · rw [if_pos (of_decide_eq_true hb)] at h
      refine go_ops aMi58 2 _ (f1 := (17, ([(3, .int (i3 + (1 : Int32))), (0, .ref a0), (1, .long l1), (4, .int i4)], []))) rfl ?_
      refine go_le (lv1 := [(0, .ref a0), (1, .long l1), (3, .int (i3 + (1 : Int32)))]) (aLe_of (show (List.map (fun q => q.1) ([(0, .ref a0), (1, .long l1), (3, .int (i3 + (1 : Int32)))] : ALv)).Nodup from (by show ([0, 1, 3] : List Nat).Nodup; decide)) (aSubL_cons rfl (aSubL_cons rfl (aSubL_cons rfl aSubL_nil)))) ?_
      exact hk17 a0 ha0 l1 (i3 + (1 : Int32)) I _ h
    · rw [if_neg (of_decide_eq_false hb)] at h
      refine go_ops aMi58 3 _ (f1 := (46, ([(0, .ref a0), (1, .long l1), (3, .int i3), (4, .int i4)], [.int i4, .int i3, .ref a0]))) rfl ?_
      obtain ⟨r46_1, hxr46_1, h⟩ := Option.bind_eq_some_iff.mp h
      refine gg_cv (as := [.int i3, .int i4]) (r := []) aMi58 rfl rfl rfl aMi50 (Nat.le_of_ble_eq_true rfl) rfl (Nat.le_of_ble_eq_true rfl) (Nat.le_of_ble_eq_true rfl) (by omega) (isK_of (sh3_z ha0)) (Tf50 (by omega) a0 ha0 i3 i4 I _ hxr46_1) ?_
      show aGo kad d 58 (49, ([(0, .ref a0), (1, .long l1), (3, .int i3), (4, .int i4)], [.int r46_1.1])) (aMem Z r46_1.2, t) _
      refine go_ops aMi58 2 _ (f1 := (53, ([(5, .int r46_1.1), (0, .ref a0), (1, .long l1), (3, .int i3), (4, .int i4)], [.int r46_1.1]))) rfl ?_
      refine gg_br (b := decide (r46_1.1 = 0)) (tg := 83) (off := 30) aMi58 rfl rfl rfl rfl (fun hb => ?_) (fun hb => ?_)
      · rw [if_pos (of_decide_eq_true hb)] at h
        refine go_le (lv1 := [(0, .ref a0), (1, .long l1), (3, .int i3), (4, .int i4), (5, .int r46_1.1)]) (aLe_of (show (List.map (fun q => q.1) ([(0, .ref a0), (1, .long l1), (3, .int i3), (4, .int i4), (5, .int r46_1.1)] : ALv)).Nodup from (by show ([0, 1, 3, 4, 5] : List Nat).Nodup; decide)) (aSubL_cons rfl (aSubL_cons rfl (aSubL_cons rfl (aSubL_cons rfl (aSubL_cons rfl aSubL_nil)))))) ?_
        exact Tf58_b83 hd k17 (fun p0 p1 p2 p3 I => f58_b36 kad N Z k17 F p0 p1 p2 p3 I) hk17 (fun p0 q0 p1 p2 p3 I r hh => ih p0 q0 p1 p2 p3 I r hh) a0 ha0 l1 i3 i4 r46_1.1 r46_1.2 _ h
      · rw [if_neg (of_decide_eq_false hb)] at h
        refine go_ops aMi58 2 _ (f1 := (60, ([(5, .int r46_1.1), (0, .ref a0), (1, .long l1), (3, .int i3), (4, .int i4)], [.int (8 : Int32), .int r46_1.1]))) rfl ?_
        refine gg_br (b := decide (r46_1.1 < (8 : Int32))) (tg := 81) (off := 21) aMi58 rfl rfl rfl rfl (fun hb => ?_) (fun hb => ?_)
        · rw [if_pos (of_decide_eq_true hb)] at h
          refine go_le (lv1 := []) (aLe_of (show (List.map (fun q => q.1) ([] : ALv)).Nodup from (by show ([] : List Nat).Nodup; decide)) aSubL_nil) ?_
          exact Tf58_b81 hd a0 ha0 r46_1.2 _ h
        · rw [if_neg (of_decide_eq_false hb)] at h
          refine go_ops aMi58 2 _ (f1 := (67, ([(5, .int r46_1.1), (0, .ref a0), (1, .long l1), (3, .int i3), (4, .int i4)], [.int (32 : Int32), .int r46_1.1]))) rfl ?_
          refine gg_br (b := decide ((32 : Int32) ≤ r46_1.1)) (tg := 81) (off := 14) aMi58 rfl rfl rfl rfl (fun hb => ?_) (fun hb => ?_)
          · rw [if_pos (of_decide_eq_true hb)] at h
            refine go_le (lv1 := []) (aLe_of (show (List.map (fun q => q.1) ([] : ALv)).Nodup from (by show ([] : List Nat).Nodup; decide)) aSubL_nil) ?_
            exact Tf58_b81 hd a0 ha0 r46_1.2 _ h
          · rw [if_neg (of_decide_eq_false hb)] at h
            refine go_ops aMi58 7 _ (f1 := (78, ([(5, .int r46_1.1), (0, .ref a0), (1, .long l1), (3, .int i3), (4, .int i4)], [.int (lg_cmp ((l1 >>> (r46_1.1.toInt64 &&& 63)) &&& (1 : Int64)) (0 : Int64))]))) rfl ?_
            refine gg_br (b := decide ((lg_cmp ((l1 >>> (r46_1.1.toInt64 &&& 63)) &&& (1 : Int64)) (0 : Int64)) = 0)) (tg := 83) (off := 5) aMi58 rfl rfl rfl rfl (fun hb => ?_) (fun hb => ?_)
            · rw [if_pos (of_decide_eq_true hb)] at h
              refine go_le (lv1 := [(0, .ref a0), (1, .long l1), (3, .int i3), (4, .int i4), (5, .int r46_1.1)]) (aLe_of (show (List.map (fun q => q.1) ([(0, .ref a0), (1, .long l1), (3, .int i3), (4, .int i4), (5, .int r46_1.1)] : ALv)).Nodup from (by show ([0, 1, 3, 4, 5] : List Nat).Nodup; decide)) (aSubL_cons rfl (aSubL_cons rfl (aSubL_cons rfl (aSubL_cons rfl (aSubL_cons rfl aSubL_nil)))))) ?_
              exact Tf58_b83 hd k17 (fun p0 p1 p2 p3 I => f58_b36 kad N Z k17 F p0 p1 p2 p3 I) hk17 (fun p0 q0 p1 p2 p3 I r hh => ih p0 q0 p1 p2 p3 I r hh) a0 ha0 l1 i3 i4 r46_1.1 r46_1.2 _ h
            · rw [if_neg (of_decide_eq_false hb)] at h
              refine go_le (lv1 := []) (aLe_of (show (List.map (fun q => q.1) ([] : ALv)).Nodup from (by show ([] : List Nat).Nodup; decide)) aSubL_nil) ?_
              exact Tf58_b81 hd a0 ha0 r46_1.2 _ h
def f58_b125 (kad : Nat → Nat) (N : Nat) (Z : AZ) (a0 : Nat) (s0 : Int32) (I : AI) : Option (Int32 × AI) :=
  if s0 = 0 ∨ s0 = 1 then some (s0, I) else none
set_option maxRecDepth 20000 in
theorem Tf58_b125 {kad : Nat → Nat} {N : Nat} {Z : AZ} {d : Nat} {t : Option Nat × (Nat × Nat)} (hd : 3 ≤ d) : ∀ (a0 : Nat) (ha0 : sh3 kad Z a0) (s0 : Int32) (I : AI) (r : Int32 × AI), f58_b125 kad N Z a0 s0 I = some r → aGo kad d 58 (125, ([], [.int s0])) (aMem Z I, t) (qI Z t r) := by
  intro a0 ha0 s0 I r h
  unfold f58_b125 at h
  split at h
  · rename_i hz
    cases h
    exact go_ret aMi58 rfl (aRetZ hz) ⟨rfl, rfl⟩
  · cases h
def f58_b17 (kad : Nat → Nat) (N : Nat) (Z : AZ) : Nat → Nat → Int64 → Int32 → AI → Option (Int32 × AI)
  | 0, _, _, _, _ => none
  | F + 1, a0, l1, i3, I =>
    if (6 : Int32) ≤ i3 then
      (f55 kad N Z a0 I).bind fun r113_1 =>
      if ¬ (lg_cmp l1 r113_1.1) = 0 then
        f58_b125 kad N Z a0 (0 : Int32) r113_1.2
      else
        f58_b125 kad N Z a0 (1 : Int32) r113_1.2
    else
      (f59 kad N Z a0 i3 I).bind fun r25_2 =>
      if ¬ r25_2.1 = 0 then
        f58_b36 kad N Z (fun p0 p1 p2 I => f58_b17 kad N Z F p0 p1 p2 I) N a0 l1 i3 (2 : Int32) r25_2.2
      else
        some ((0 : Int32), r25_2.2)
set_option maxRecDepth 20000 in
theorem Tf58_b17 {kad : Nat → Nat} {N : Nat} {Z : AZ} {d : Nat} {t : Option Nat × (Nat × Nat)} (hd : 3 ≤ d) : ∀ (F : Nat) (a0 : Nat) (ha0 : sh3 kad Z a0) (l1 : Int64) (i3 : Int32) (I : AI) (r : Int32 × AI), f58_b17 kad N Z F a0 l1 i3 I = some r → aGo kad d 58 (17, ([(0, .ref a0), (1, .long l1), (3, .int i3)], [])) (aMem Z I, t) (qI Z t r) := by
  intro F
  induction F with
  | zero => intro a0 ha0 l1 i3 I r h; cases h
  | succ F ih =>
    intro a0 ha0 l1 i3 I r h
    unfold f58_b17 at h
    refine go_ops aMi58 2 _ (f1 := (20, ([(0, .ref a0), (1, .long l1), (3, .int i3)], [.int (6 : Int32), .int i3]))) rfl ?_
    refine gg_br (b := decide ((6 : Int32) ≤ i3)) (tg := 111) (off := 91) aMi58 rfl rfl rfl rfl (fun hb => ?_) (fun hb => ?_)
    · rw [if_pos (of_decide_eq_true hb)] at h
      refine go_ops aMi58 2 _ (f1 := (113, ([(0, .ref a0), (1, .long l1), (3, .int i3)], [.ref a0, .long l1]))) rfl ?_
      obtain ⟨r113_1, hxr113_1, h⟩ := Option.bind_eq_some_iff.mp h
      refine gg_cv (as := []) (r := [.long l1]) aMi58 rfl rfl rfl aMi55 (Nat.le_of_ble_eq_true rfl) rfl (Nat.le_of_ble_eq_true rfl) (Nat.le_of_ble_eq_true rfl) (by omega) (isK_of (sh3_z ha0)) (Tf55 (by omega) a0 ha0 I _ hxr113_1) ?_
      show aGo kad d 58 (116, ([(0, .ref a0), (1, .long l1), (3, .int i3)], [.long r113_1.1, .long l1])) (aMem Z r113_1.2, t) _
      refine go_ops aMi58 1 _ (f1 := (117, ([(0, .ref a0), (1, .long l1), (3, .int i3)], [.int (lg_cmp l1 r113_1.1)]))) rfl ?_
      refine gg_br (b := decide (¬ (lg_cmp l1 r113_1.1) = 0)) (tg := 124) (off := 7) aMi58 rfl rfl rfl rfl (fun hb => ?_) (fun hb => ?_)
      · rw [if_pos (of_decide_eq_true hb)] at h
        refine go_ops aMi58 1 _ (f1 := (125, ([(0, .ref a0), (1, .long l1), (3, .int i3)], [.int (0 : Int32)]))) rfl ?_
        refine go_le (lv1 := []) (aLe_of (show (List.map (fun q => q.1) ([] : ALv)).Nodup from (by show ([] : List Nat).Nodup; decide)) aSubL_nil) ?_
        exact Tf58_b125 hd a0 ha0 (0 : Int32) r113_1.2 _ h
      · rw [if_neg (of_decide_eq_false hb)] at h
        refine go_ops aMi58 2 _ (f1 := (125, ([(0, .ref a0), (1, .long l1), (3, .int i3)], [.int (1 : Int32)]))) rfl ?_
        refine go_le (lv1 := []) (aLe_of (show (List.map (fun q => q.1) ([] : ALv)).Nodup from (by show ([] : List Nat).Nodup; decide)) aSubL_nil) ?_
        exact Tf58_b125 hd a0 ha0 (1 : Int32) r113_1.2 _ h
    · rw [if_neg (of_decide_eq_false hb)] at h
      refine go_ops aMi58 2 _ (f1 := (25, ([(0, .ref a0), (1, .long l1), (3, .int i3)], [.int i3, .ref a0]))) rfl ?_
      obtain ⟨r25_2, hxr25_2, h⟩ := Option.bind_eq_some_iff.mp h
      refine gg_cv (as := [.int i3]) (r := []) aMi58 rfl rfl rfl aMi59 (Nat.le_of_ble_eq_true rfl) rfl (Nat.le_of_ble_eq_true rfl) (Nat.le_of_ble_eq_true rfl) (by omega) (isK_of (sh3_z ha0)) (Tf59 (by omega) a0 ha0 i3 I _ hxr25_2) ?_
      show aGo kad d 58 (28, ([(0, .ref a0), (1, .long l1), (3, .int i3)], [.int r25_2.1])) (aMem Z r25_2.2, t) _
      refine gg_br (b := decide (¬ r25_2.1 = 0)) (tg := 33) (off := 5) aMi58 rfl rfl rfl rfl (fun hb => ?_) (fun hb => ?_)
      · rw [if_pos (of_decide_eq_true hb)] at h
        refine go_ops aMi58 2 _ (f1 := (36, ([(4, .int (2 : Int32)), (0, .ref a0), (1, .long l1), (3, .int i3)], []))) rfl ?_
        refine go_le (lv1 := [(0, .ref a0), (1, .long l1), (3, .int i3), (4, .int (2 : Int32))]) (aLe_of (show (List.map (fun q => q.1) ([(0, .ref a0), (1, .long l1), (3, .int i3), (4, .int (2 : Int32))] : ALv)).Nodup from (by show ([0, 1, 3, 4] : List Nat).Nodup; decide)) (aSubL_cons rfl (aSubL_cons rfl (aSubL_cons rfl (aSubL_cons rfl aSubL_nil))))) ?_
        exact Tf58_b36 hd (fun p0 p1 p2 I => f58_b17 kad N Z F p0 p1 p2 I) (fun p0 q0 p1 p2 I r hh => ih p0 q0 p1 p2 I r hh) N a0 ha0 l1 i3 (2 : Int32) r25_2.2 _ h
      · rw [if_neg (of_decide_eq_false hb)] at h
        refine go_ops aMi58 1 _ (f1 := (32, ([(0, .ref a0), (1, .long l1), (3, .int i3)], [.int (0 : Int32)]))) rfl ?_
        cases h
        exact go_ret aMi58 rfl (aRetZ (Or.inl rfl)) ⟨rfl, rfl⟩
def f58 (kad : Nat → Nat) (N : Nat) (Z : AZ) (a0 : Nat) (I : AI) : Option (Int32 × AI) :=
  (f43 kad N Z a0 (0 : Int32) (0 : Int32) I).bind fun r3_1 =>
  if r3_1.1 = 0 then
    f58_b17 kad N Z N a0 (255 : Int64) (0 : Int32) r3_1.2
  else
    some ((0 : Int32), r3_1.2)
set_option maxRecDepth 20000 in
theorem Tf58 {kad : Nat → Nat} {N : Nat} {Z : AZ} {d : Nat} {t : Option Nat × (Nat × Nat)} (hd : 3 ≤ d) : ∀ (a0 : Nat) (ha0 : sh3 kad Z a0) (I : AI) (r : Int32 × AI), f58 kad N Z a0 I = some r → aGo kad d 58 (0, ([(0, .ref a0)], [])) (aMem Z I, t) (qI Z t r) := by
  intro a0 ha0 I r h
  unfold f58 at h
  refine go_ops aMi58 3 _ (f1 := (3, ([(0, .ref a0)], [.int (0 : Int32), .int (0 : Int32), .ref a0]))) rfl ?_
  obtain ⟨r3_1, hxr3_1, h⟩ := Option.bind_eq_some_iff.mp h
  refine gg_cv (as := [.int (0 : Int32), .int (0 : Int32)]) (r := []) aMi58 rfl rfl rfl aMi43 (Nat.le_of_ble_eq_true rfl) rfl (Nat.le_of_ble_eq_true rfl) (Nat.le_of_ble_eq_true rfl) (by omega) (isK_of (sh3_z ha0)) (Tf43 (by omega) a0 ha0 (0 : Int32) (0 : Int32) I _ hxr3_1) ?_
  show aGo kad d 58 (6, ([(0, .ref a0)], [.int r3_1.1])) (aMem Z r3_1.2, t) _
  refine gg_br (b := decide (r3_1.1 = 0)) (tg := 11) (off := 5) aMi58 rfl rfl rfl rfl (fun hb => ?_) (fun hb => ?_)
  · rw [if_pos (of_decide_eq_true hb)] at h
    refine gg_kL aMi58 rfl rfl ?_
    refine go_ops aMi58 3 _ (f1 := (17, ([(3, .int (0 : Int32)), (1, .long (255 : Int64)), (0, .ref a0)], []))) rfl ?_
    refine go_le (lv1 := [(0, .ref a0), (1, .long (255 : Int64)), (3, .int (0 : Int32))]) (aLe_of (show (List.map (fun q => q.1) ([(0, .ref a0), (1, .long (255 : Int64)), (3, .int (0 : Int32))] : ALv)).Nodup from (by show ([0, 1, 3] : List Nat).Nodup; decide)) (aSubL_cons rfl (aSubL_cons rfl (aSubL_cons rfl aSubL_nil)))) ?_
    exact Tf58_b17 hd N a0 ha0 (255 : Int64) (0 : Int32) r3_1.2 _ h
  · rw [if_neg (of_decide_eq_false hb)] at h
    refine go_ops aMi58 1 _ (f1 := (10, ([(0, .ref a0)], [.int (0 : Int32)]))) rfl ?_
    cases h
    exact go_ret aMi58 rfl (aRetZ (Or.inl rfl)) ⟨rfl, rfl⟩
-- KernelGym$FileCall.left ()I
def f63_b24 (kad : Nat → Nat) (N : Nat) (Z : AZ) (a0 : Nat) (s0 : Int32) (I : AI) : Option (Int32 × AI) :=
  some (s0, I)
set_option maxRecDepth 20000 in
theorem Tf63_b24 {kad : Nat → Nat} {N : Nat} {Z : AZ} {d : Nat} {t : Option Nat × (Nat × Nat)} (hd : 0 ≤ d) : ∀ (a0 : Nat) (ha0 : sh4 kad Z a0) (s0 : Int32) (I : AI) (r : Int32 × AI), f63_b24 kad N Z a0 s0 I = some r → aGo kad d 63 (24, ([], [.int s0])) (aMem Z I, t) (qI Z t r) := by
  intro a0 ha0 s0 I r h
  unfold f63_b24 at h
  cases h
  exact go_ret aMi63 rfl aRetI ⟨rfl, rfl⟩
def f63 (kad : Nat → Nat) (N : Nat) (Z : AZ) (a0 : Nat) (I : AI) : Option (Int32 × AI) :=
  if ¬ (I a0 0) = 0 then
    f63_b24 kad N Z a0 ((((2 : Int32) * (I a0 0)) + (2 : Int32)) - (I a0 1)) I
  else
    f63_b24 kad N Z a0 (0 : Int32) I
set_option maxRecDepth 20000 in
theorem Tf63 {kad : Nat → Nat} {N : Nat} {Z : AZ} {d : Nat} {t : Option Nat × (Nat × Nat)} (hd : 0 ≤ d) : ∀ (a0 : Nat) (ha0 : sh4 kad Z a0) (I : AI) (r : Int32 × AI), f63 kad N Z a0 I = some r → aGo kad d 63 (0, ([(0, .ref a0)], [])) (aMem Z I, t) (qI Z t r) := by
  intro a0 ha0 I r h
  unfold f63 at h
  refine go_ops aMi63 1 _ (f1 := (1, ([(0, .ref a0)], [.ref a0]))) rfl ?_
  refine gg_gI aMi63 rfl rfl rfl (gI_of (sh4_z ha0)) ?_
  refine gg_br (b := decide (¬ (I a0 0) = 0)) (tg := 11) (off := 7) aMi63 rfl rfl rfl rfl (fun hb => ?_) (fun hb => ?_)
  · rw [if_pos (of_decide_eq_true hb)] at h
    refine go_ops aMi63 2 _ (f1 := (13, ([(0, .ref a0)], [.ref a0, .int (2 : Int32)]))) rfl ?_
    refine gg_gI aMi63 rfl rfl rfl (gI_of (sh4_z ha0)) ?_
    refine go_ops aMi63 4 _ (f1 := (20, ([(0, .ref a0)], [.ref a0, .int (((2 : Int32) * (I a0 0)) + (2 : Int32))]))) rfl ?_
    refine gg_gI aMi63 rfl rfl rfl (gI_of (sh4_z ha0)) ?_
    refine go_ops aMi63 1 _ (f1 := (24, ([(0, .ref a0)], [.int ((((2 : Int32) * (I a0 0)) + (2 : Int32)) - (I a0 1))]))) rfl ?_
    refine go_le (lv1 := []) (aLe_of (show (List.map (fun q => q.1) ([] : ALv)).Nodup from (by show ([] : List Nat).Nodup; decide)) aSubL_nil) ?_
    exact Tf63_b24 hd a0 ha0 ((((2 : Int32) * (I a0 0)) + (2 : Int32)) - (I a0 1)) I _ h
  · rw [if_neg (of_decide_eq_false hb)] at h
    refine go_ops aMi63 2 _ (f1 := (24, ([(0, .ref a0)], [.int (0 : Int32)]))) rfl ?_
    refine go_le (lv1 := []) (aLe_of (show (List.map (fun q => q.1) ([] : ALv)).Nodup from (by show ([] : List Nat).Nodup; decide)) aSubL_nil) ?_
    exact Tf63_b24 hd a0 ha0 (0 : Int32) I _ h
-- KernelGym$FileCall.fillHead ([I)V
def f65_b103 (kad : Nat → Nat) (N : Nat) (Z : AZ) (a0 : Nat) (b1 : Nat) (i2 : Int32) (I : AI) : Option (Unit × AI) :=
  (sI Z I 100 b1 (4 : Int32) (i2 &&& (65535 : Int32))).bind fun I109_1 =>
  some ((), I109_1)
set_option maxRecDepth 20000 in
theorem Tf65_b103 {kad : Nat → Nat} {N : Nat} {Z : AZ} {d : Nat} {t : Option Nat × (Nat × Nat)} (hd : 1 ≤ d) : ∀ (a0 : Nat) (ha0 : sh4 kad Z a0) (b1 : Nat) (i2 : Int32) (I : AI) (r : Unit × AI), f65_b103 kad N Z a0 b1 i2 I = some r → aGo kad d 65 (103, ([(1, .ref b1), (2, .int i2)], [])) (aMem Z I, t) (qV Z t r) := by
  intro a0 ha0 b1 i2 I r h
  unfold f65_b103 at h
  refine go_ops aMi65 3 _ (f1 := (106, ([(1, .ref b1), (2, .int i2)], [.int i2, .int (4 : Int32), .ref b1]))) rfl ?_
  refine gg_kI (Or.inl ⟨rfl, rfl⟩) aMi65 rfl rfl ?_
  refine go_ops aMi65 1 _ (f1 := (109, ([(1, .ref b1), (2, .int i2)], [.int (i2 &&& (65535 : Int32)), .int (4 : Int32), .ref b1]))) rfl ?_
  obtain ⟨I109_1, hxI109_1, h⟩ := Option.bind_eq_some_iff.mp h
  refine gg_sI (Or.inl ⟨rfl, rfl⟩) aMi65 rfl hxI109_1 ?_
  cases h
  exact go_ret aMi65 rfl rfl ⟨rfl, rfl⟩
def f65_b68 (kad : Nat → Nat) (N : Nat) (Z : AZ) : Nat → Nat → Nat → Int32 → Int32 → AI → Option (Unit × AI)
  | 0, _, _, _, _, _ => none
  | F + 1, a0, b1, i2, i3, I =>
    if ((I a0 0) * (8 : Int32)) ≤ i3 then
      f65_b103 kad N Z a0 b1 i2 I
    else
      if (24 : Int32) ≤ i3 then
        f65_b103 kad N Z a0 b1 i2 I
      else
        (ixA 24 i3).bind fun j94_1 =>
        f65_b68 kad N Z F a0 b1 (i2 + (I (a0 + 2) j94_1)) (i3 + (1 : Int32)) I
set_option maxRecDepth 20000 in
theorem Tf65_b68 {kad : Nat → Nat} {N : Nat} {Z : AZ} {d : Nat} {t : Option Nat × (Nat × Nat)} (hd : 1 ≤ d) : ∀ (F : Nat) (a0 : Nat) (ha0 : sh4 kad Z a0) (b1 : Nat) (i2 : Int32) (i3 : Int32) (I : AI) (r : Unit × AI), f65_b68 kad N Z F a0 b1 i2 i3 I = some r → aGo kad d 65 (68, ([(0, .ref a0), (1, .ref b1), (2, .int i2), (3, .int i3)], [])) (aMem Z I, t) (qV Z t r) := by
  intro F
  induction F with
  | zero => intro a0 ha0 b1 i2 i3 I r h; cases h
  | succ F ih =>
    intro a0 ha0 b1 i2 i3 I r h
    unfold f65_b68 at h
    refine go_ops aMi65 2 _ (f1 := (70, ([(0, .ref a0), (1, .ref b1), (2, .int i2), (3, .int i3)], [.ref a0, .int i3]))) rfl ?_
    refine gg_gI aMi65 rfl rfl rfl (gI_of (sh4_z ha0)) ?_
    refine go_ops aMi65 2 _ (f1 := (76, ([(0, .ref a0), (1, .ref b1), (2, .int i2), (3, .int i3)], [.int ((I a0 0) * (8 : Int32)), .int i3]))) rfl ?_
    refine gg_br (b := decide (((I a0 0) * (8 : Int32)) ≤ i3)) (tg := 103) (off := 27) aMi65 rfl rfl rfl rfl (fun hb => ?_) (fun hb => ?_)
    · rw [if_pos (of_decide_eq_true hb)] at h
      refine go_le (lv1 := [(1, .ref b1), (2, .int i2)]) (aLe_of (show (List.map (fun q => q.1) ([(1, .ref b1), (2, .int i2)] : ALv)).Nodup from (by show ([1, 2] : List Nat).Nodup; decide)) (aSubL_cons rfl (aSubL_cons rfl aSubL_nil))) ?_
      exact Tf65_b103 hd a0 ha0 b1 i2 I _ h
    · rw [if_neg (of_decide_eq_false hb)] at h
      refine go_ops aMi65 2 _ (f1 := (81, ([(0, .ref a0), (1, .ref b1), (2, .int i2), (3, .int i3)], [.ref a0, .int i3]))) rfl ?_
      refine gg_gR (b := (a0 + 2)) aMi65 rfl rfl rfl (gR_of (sh4_z ha0) (sh4_r3 ha0)) ?_
      refine gg_len aMi65 rfl (nL_of (sh4_a3 ha0) (by decide)) ?_
      refine gg_br (b := decide ((24 : Int32) ≤ i3)) (tg := 103) (off := 18) aMi65 rfl rfl rfl rfl (fun hb => ?_) (fun hb => ?_)
      · rw [if_pos (of_decide_eq_true hb)] at h
        refine go_le (lv1 := [(1, .ref b1), (2, .int i2)]) (aLe_of (show (List.map (fun q => q.1) ([(1, .ref b1), (2, .int i2)] : ALv)).Nodup from (by show ([1, 2] : List Nat).Nodup; decide)) (aSubL_cons rfl (aSubL_cons rfl aSubL_nil))) ?_
        exact Tf65_b103 hd a0 ha0 b1 i2 I _ h
      · rw [if_neg (of_decide_eq_false hb)] at h
        refine go_ops aMi65 2 _ (f1 := (90, ([(0, .ref a0), (1, .ref b1), (2, .int i2), (3, .int i3)], [.ref a0, .int i2]))) rfl ?_
        refine gg_gR (b := (a0 + 2)) aMi65 rfl rfl rfl (gR_of (sh4_z ha0) (sh4_r3 ha0)) ?_
        refine go_ops aMi65 1 _ (f1 := (94, ([(0, .ref a0), (1, .ref b1), (2, .int i2), (3, .int i3)], [.int i3, .ref (a0 + 2), .int i2]))) rfl ?_
        obtain ⟨j94_1, hxj94_1, h⟩ := Option.bind_eq_some_iff.mp h
        refine gg_lI (Or.inl ⟨rfl, rfl⟩) aMi65 rfl (lI_of (sh4_a3 ha0) hxj94_1) ?_
        refine go_ops aMi65 4 _ (f1 := (68, ([(3, .int (i3 + (1 : Int32))), (2, .int (i2 + (I (a0 + 2) j94_1))), (0, .ref a0), (1, .ref b1)], []))) rfl ?_
        refine go_le (lv1 := [(0, .ref a0), (1, .ref b1), (2, .int (i2 + (I (a0 + 2) j94_1))), (3, .int (i3 + (1 : Int32)))]) (aLe_of (show (List.map (fun q => q.1) ([(0, .ref a0), (1, .ref b1), (2, .int (i2 + (I (a0 + 2) j94_1))), (3, .int (i3 + (1 : Int32)))] : ALv)).Nodup from (by show ([0, 1, 2, 3] : List Nat).Nodup; decide)) (aSubL_cons rfl (aSubL_cons rfl (aSubL_cons rfl (aSubL_cons rfl aSubL_nil))))) ?_
        exact ih a0 ha0 b1 (i2 + (I (a0 + 2) j94_1)) (i3 + (1 : Int32)) I _ h
def f65_b66 (kad : Nat → Nat) (N : Nat) (Z : AZ) (a0 : Nat) (b1 : Nat) (i2 : Int32) (I : AI) : Option (Unit × AI) :=
  f65_b68 kad N Z N a0 b1 i2 (0 : Int32) I
set_option maxRecDepth 20000 in
theorem Tf65_b66 {kad : Nat → Nat} {N : Nat} {Z : AZ} {d : Nat} {t : Option Nat × (Nat × Nat)} (hd : 1 ≤ d) : ∀ (a0 : Nat) (ha0 : sh4 kad Z a0) (b1 : Nat) (i2 : Int32) (I : AI) (r : Unit × AI), f65_b66 kad N Z a0 b1 i2 I = some r → aGo kad d 65 (66, ([(0, .ref a0), (1, .ref b1), (2, .int i2)], [])) (aMem Z I, t) (qV Z t r) := by
  intro a0 ha0 b1 i2 I r h
  unfold f65_b66 at h
  refine go_ops aMi65 2 _ (f1 := (68, ([(3, .int (0 : Int32)), (0, .ref a0), (1, .ref b1), (2, .int i2)], []))) rfl ?_
  refine go_le (lv1 := [(0, .ref a0), (1, .ref b1), (2, .int i2), (3, .int (0 : Int32))]) (aLe_of (show (List.map (fun q => q.1) ([(0, .ref a0), (1, .ref b1), (2, .int i2), (3, .int (0 : Int32))] : ALv)).Nodup from (by show ([0, 1, 2, 3] : List Nat).Nodup; decide)) (aSubL_cons rfl (aSubL_cons rfl (aSubL_cons rfl (aSubL_cons rfl aSubL_nil))))) ?_
  exact Tf65_b68 hd N a0 ha0 b1 i2 (0 : Int32) I _ h
def f65_b27 (kad : Nat → Nat) (N : Nat) (Z : AZ) : Nat → Nat → Nat → Int32 → Int32 → AI → Option (Unit × AI)
  | 0, _, _, _, _, _ => none
  | F + 1, a0, b1, i2, i3, I =>
    if (I a0 0) ≤ i3 then
      f65_b66 kad N Z a0 b1 i2 I
    else
      if (3 : Int32) ≤ i3 then
        f65_b66 kad N Z a0 b1 i2 I
      else
        (ixA 3 i3).bind fun j49_1 =>
        (sI Z I 100 b1 ((1 : Int32) + i3) (I (a0 + 1) j49_1)).bind fun I50_2 =>
        (ixA 3 i3).bind fun j57_3 =>
        f65_b27 kad N Z F a0 b1 (i2 + (I50_2 (a0 + 1) j57_3)) (i3 + (1 : Int32)) I50_2
set_option maxRecDepth 20000 in
theorem Tf65_b27 {kad : Nat → Nat} {N : Nat} {Z : AZ} {d : Nat} {t : Option Nat × (Nat × Nat)} (hd : 1 ≤ d) : ∀ (F : Nat) (a0 : Nat) (ha0 : sh4 kad Z a0) (b1 : Nat) (i2 : Int32) (i3 : Int32) (I : AI) (r : Unit × AI), f65_b27 kad N Z F a0 b1 i2 i3 I = some r → aGo kad d 65 (27, ([(0, .ref a0), (1, .ref b1), (2, .int i2), (3, .int i3)], [])) (aMem Z I, t) (qV Z t r) := by
  intro F
  induction F with
  | zero => intro a0 ha0 b1 i2 i3 I r h; cases h
  | succ F ih =>
    intro a0 ha0 b1 i2 i3 I r h
    unfold f65_b27 at h
    refine go_ops aMi65 2 _ (f1 := (29, ([(0, .ref a0), (1, .ref b1), (2, .int i2), (3, .int i3)], [.ref a0, .int i3]))) rfl ?_
    refine gg_gI aMi65 rfl rfl rfl (gI_of (sh4_z ha0)) ?_
    refine gg_br (b := decide ((I a0 0) ≤ i3)) (tg := 66) (off := 34) aMi65 rfl rfl rfl rfl (fun hb => ?_) (fun hb => ?_)
    · rw [if_pos (of_decide_eq_true hb)] at h
      refine go_le (lv1 := [(0, .ref a0), (1, .ref b1), (2, .int i2)]) (aLe_of (show (List.map (fun q => q.1) ([(0, .ref a0), (1, .ref b1), (2, .int i2)] : ALv)).Nodup from (by show ([0, 1, 2] : List Nat).Nodup; decide)) (aSubL_cons rfl (aSubL_cons rfl (aSubL_cons rfl aSubL_nil)))) ?_
      exact Tf65_b66 hd a0 ha0 b1 i2 I _ h
    · rw [if_neg (of_decide_eq_false hb)] at h
      refine go_ops aMi65 2 _ (f1 := (37, ([(0, .ref a0), (1, .ref b1), (2, .int i2), (3, .int i3)], [.int (3 : Int32), .int i3]))) rfl ?_
      refine gg_br (b := decide ((3 : Int32) ≤ i3)) (tg := 66) (off := 29) aMi65 rfl rfl rfl rfl (fun hb => ?_) (fun hb => ?_)
      · rw [if_pos (of_decide_eq_true hb)] at h
        refine go_le (lv1 := [(0, .ref a0), (1, .ref b1), (2, .int i2)]) (aLe_of (show (List.map (fun q => q.1) ([(0, .ref a0), (1, .ref b1), (2, .int i2)] : ALv)).Nodup from (by show ([0, 1, 2] : List Nat).Nodup; decide)) (aSubL_cons rfl (aSubL_cons rfl (aSubL_cons rfl aSubL_nil)))) ?_
        exact Tf65_b66 hd a0 ha0 b1 i2 I _ h
      · rw [if_neg (of_decide_eq_false hb)] at h
        refine go_ops aMi65 5 _ (f1 := (45, ([(0, .ref a0), (1, .ref b1), (2, .int i2), (3, .int i3)], [.ref a0, .int ((1 : Int32) + i3), .ref b1]))) rfl ?_
        refine gg_gR (b := (a0 + 1)) aMi65 rfl rfl rfl (gR_of (sh4_z ha0) (sh4_r2 ha0)) ?_
        refine go_ops aMi65 1 _ (f1 := (49, ([(0, .ref a0), (1, .ref b1), (2, .int i2), (3, .int i3)], [.int i3, .ref (a0 + 1), .int ((1 : Int32) + i3), .ref b1]))) rfl ?_
        obtain ⟨j49_1, hxj49_1, h⟩ := Option.bind_eq_some_iff.mp h
        refine gg_lI (Or.inl ⟨rfl, rfl⟩) aMi65 rfl (lI_of (sh4_a2 ha0) hxj49_1) ?_
        obtain ⟨I50_2, hxI50_2, h⟩ := Option.bind_eq_some_iff.mp h
        refine gg_sI (Or.inl ⟨rfl, rfl⟩) aMi65 rfl hxI50_2 ?_
        refine go_ops aMi65 2 _ (f1 := (53, ([(0, .ref a0), (1, .ref b1), (2, .int i2), (3, .int i3)], [.ref a0, .int i2]))) rfl ?_
        refine gg_gR (b := (a0 + 1)) aMi65 rfl rfl rfl (gR_of (sh4_z ha0) (sh4_r2 ha0)) ?_
        refine go_ops aMi65 1 _ (f1 := (57, ([(0, .ref a0), (1, .ref b1), (2, .int i2), (3, .int i3)], [.int i3, .ref (a0 + 1), .int i2]))) rfl ?_
        obtain ⟨j57_3, hxj57_3, h⟩ := Option.bind_eq_some_iff.mp h
        refine gg_lI (Or.inl ⟨rfl, rfl⟩) aMi65 rfl (lI_of (sh4_a2 ha0) hxj57_3) ?_
        refine go_ops aMi65 4 _ (f1 := (27, ([(3, .int (i3 + (1 : Int32))), (2, .int (i2 + (I50_2 (a0 + 1) j57_3))), (0, .ref a0), (1, .ref b1)], []))) rfl ?_
        refine go_le (lv1 := [(0, .ref a0), (1, .ref b1), (2, .int (i2 + (I50_2 (a0 + 1) j57_3))), (3, .int (i3 + (1 : Int32)))]) (aLe_of (show (List.map (fun q => q.1) ([(0, .ref a0), (1, .ref b1), (2, .int (i2 + (I50_2 (a0 + 1) j57_3))), (3, .int (i3 + (1 : Int32)))] : ALv)).Nodup from (by show ([0, 1, 2, 3] : List Nat).Nodup; decide)) (aSubL_cons rfl (aSubL_cons rfl (aSubL_cons rfl (aSubL_cons rfl aSubL_nil))))) ?_
        exact ih a0 ha0 b1 (i2 + (I50_2 (a0 + 1) j57_3)) (i3 + (1 : Int32)) I50_2 _ h
def f65 (kad : Nat → Nat) (N : Nat) (Z : AZ) (a0 : Nat) (b1 : Nat) (I : AI) : Option (Unit × AI) :=
  (nL Z b1).bind fun x1_1 =>
  if x1_1 = (8 : Int32) then
    (f53 kad N Z b1 (0 : Int32) I).bind fun r10_2 =>
    (sI Z r10_2.2 100 b1 (0 : Int32) ((r10_2.2) a0 0)).bind fun I19_3 =>
    f65_b27 kad N Z N a0 b1 (I19_3 a0 0) (0 : Int32) I19_3
  else
    some ((), I)
set_option maxRecDepth 20000 in
theorem Tf65 {kad : Nat → Nat} {N : Nat} {Z : AZ} {d : Nat} {t : Option Nat × (Nat × Nat)} (hd : 1 ≤ d) : ∀ (a0 : Nat) (ha0 : sh4 kad Z a0) (b1 : Nat) (I : AI) (r : Unit × AI), f65 kad N Z a0 b1 I = some r → aGo kad d 65 (0, ([(0, .ref a0), (1, .ref b1)], [])) (aMem Z I, t) (qV Z t r) := by
  intro a0 ha0 b1 I r h
  unfold f65 at h
  refine go_ops aMi65 1 _ (f1 := (1, ([(0, .ref a0), (1, .ref b1)], [.ref b1]))) rfl ?_
  obtain ⟨x1_1, hxx1_1, h⟩ := Option.bind_eq_some_iff.mp h
  refine gg_len aMi65 rfl hxx1_1 ?_
  refine go_ops aMi65 1 _ (f1 := (4, ([(0, .ref a0), (1, .ref b1)], [.int (8 : Int32), .int x1_1]))) rfl ?_
  refine gg_br (b := decide (x1_1 = (8 : Int32))) (tg := 8) (off := 4) aMi65 rfl rfl rfl rfl (fun hb => ?_) (fun hb => ?_)
  · rw [if_pos (of_decide_eq_true hb)] at h
    refine go_ops aMi65 2 _ (f1 := (10, ([(0, .ref a0), (1, .ref b1)], [.int (0 : Int32), .ref b1]))) rfl ?_
    obtain ⟨r10_2, hxr10_2, h⟩ := Option.bind_eq_some_iff.mp h
    refine gg_cs (as := [.ref b1, .int (0 : Int32)]) (r := []) aMi65 rfl rfl rfl aMi53 rfl (Nat.le_of_ble_eq_true rfl) (Nat.le_of_ble_eq_true rfl) (by omega) (Tf53 (by omega) b1 (0 : Int32) I _ hxr10_2) ?_
    show aGo kad d 65 (13, ([(0, .ref a0), (1, .ref b1)], [])) (aMem Z r10_2.2, t) _
    refine go_ops aMi65 3 _ (f1 := (16, ([(0, .ref a0), (1, .ref b1)], [.ref a0, .int (0 : Int32), .ref b1]))) rfl ?_
    refine gg_gI aMi65 rfl rfl rfl (gI_of (sh4_z ha0)) ?_
    obtain ⟨I19_3, hxI19_3, h⟩ := Option.bind_eq_some_iff.mp h
    refine gg_sI (Or.inl ⟨rfl, rfl⟩) aMi65 rfl hxI19_3 ?_
    refine go_ops aMi65 1 _ (f1 := (21, ([(0, .ref a0), (1, .ref b1)], [.ref a0]))) rfl ?_
    refine gg_gI aMi65 rfl rfl rfl (gI_of (sh4_z ha0)) ?_
    refine go_ops aMi65 3 _ (f1 := (27, ([(3, .int (0 : Int32)), (2, .int (I19_3 a0 0)), (0, .ref a0), (1, .ref b1)], []))) rfl ?_
    refine go_le (lv1 := [(0, .ref a0), (1, .ref b1), (2, .int (I19_3 a0 0)), (3, .int (0 : Int32))]) (aLe_of (show (List.map (fun q => q.1) ([(0, .ref a0), (1, .ref b1), (2, .int (I19_3 a0 0)), (3, .int (0 : Int32))] : ALv)).Nodup from (by show ([0, 1, 2, 3] : List Nat).Nodup; decide)) (aSubL_cons rfl (aSubL_cons rfl (aSubL_cons rfl (aSubL_cons rfl aSubL_nil))))) ?_
    exact Tf65_b27 hd N a0 ha0 b1 (I19_3 a0 0) (0 : Int32) I19_3 _ h
  · rw [if_neg (of_decide_eq_false hb)] at h
    cases h
    exact go_ret aMi65 rfl rfl ⟨rfl, rfl⟩
