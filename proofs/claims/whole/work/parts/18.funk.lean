-- KernelGymModel.calls (I)V
def f242_b142 (kad : Nat → Nat) (N : Nat) (Z : AZ) (a0 : Nat) (i3 : Int32) (I : AI) : Option (Unit × AI) :=
  (ixA 4 (3 : Int32)).bind fun j148_2 =>
  (wI I (a0 + 16) j148_2 i3).bind fun I148_1 =>
  (wI I148_1 a0 27 ((I148_1 a0 27) + (2 : Int32))).bind fun I156_3 =>
  some ((), I156_3)
set_option maxRecDepth 20000 in
theorem Tf242_b142 {kad : Nat → Nat} {N : Nat} {Z : AZ} {d : Nat} {t : Option Nat × (Nat × Nat)} (hd : 3 ≤ d) : ∀ (a0 : Nat) (ha0 : sh11 kad Z a0) (i3 : Int32) (I : AI) (r : Unit × AI), f242_b142 kad N Z a0 i3 I = some r → aGo kad d 242 (142, ([(0, .ref a0), (3, .int i3)], [])) (aMem Z I, t) (qV Z t r) := by
  intro a0 ha0 i3 I r h
  unfold f242_b142 at h
  refine go_ops aMi242 1 _ (f1 := (143, ([(0, .ref a0), (3, .int i3)], [.ref a0]))) rfl ?_
  refine gg_gR (b := (a0 + 16)) aMi242 rfl rfl rfl (gR_of (sh11_z ha0) (sh11_r26 ha0)) ?_
  refine go_ops aMi242 2 _ (f1 := (148, ([(0, .ref a0), (3, .int i3)], [.int i3, .int (3 : Int32), .ref (a0 + 16)]))) rfl ?_
  obtain ⟨j148_2, hxj148_2, h⟩ := Option.bind_eq_some_iff.mp h
  obtain ⟨I148_1, hxI148_1, h⟩ := Option.bind_eq_some_iff.mp h
  refine gg_sI (Or.inl ⟨rfl, rfl⟩) aMi242 rfl (sI_of (sh11_a26 ha0) hxj148_2 hxI148_1) ?_
  refine go_ops aMi242 2 _ (f1 := (151, ([(0, .ref a0), (3, .int i3)], [.ref a0, .ref a0]))) rfl ?_
  refine gg_gI aMi242 rfl rfl rfl (gI_of (sh11_z ha0)) ?_
  refine go_ops aMi242 2 _ (f1 := (156, ([(0, .ref a0), (3, .int i3)], [.int ((I148_1 a0 27) + (2 : Int32)), .ref a0]))) rfl ?_
  obtain ⟨I156_3, hxI156_3, h⟩ := Option.bind_eq_some_iff.mp h
  refine gg_pI aMi242 rfl rfl rfl rfl (by decide) (pI_of (sh11_z ha0) hxI156_3) ?_
  cases h
  exact go_ret aMi242 rfl rfl ⟨rfl, rfl⟩
def f242_b116 (kad : Nat → Nat) (N : Nat) (Z : AZ) (a0 : Nat) (i1 : Int32) (i2 : Int32) (i3 : Int32) (I : AI) : Option (Unit × AI) :=
  if ¬ i3 = 0 then
    f242_b142 kad N Z a0 i3 I
  else
    if ¬ i1 = (4 : Int32) then
      f242_b142 kad N Z a0 i3 I
    else
      (f235 kad N Z i2 I).bind fun r135_1 =>
      (ixA 256 (r135_1.1 + (1 : Int32))).bind fun j140_2 =>
      (ixA 4 (1 : Int32)).bind fun j141_4 =>
      (wI r135_1.2 (a0 + 16) j141_4 (r135_1.2 (a0 + 24) j140_2)).bind fun I141_3 =>
      f242_b142 kad N Z a0 i3 I141_3
set_option maxRecDepth 20000 in
theorem Tf242_b116 {kad : Nat → Nat} {N : Nat} {Z : AZ} {d : Nat} {t : Option Nat × (Nat × Nat)} (hd : 3 ≤ d) : ∀ (a0 : Nat) (ha0 : sh11 kad Z a0) (i1 : Int32) (i2 : Int32) (i3 : Int32) (I : AI) (r : Unit × AI), f242_b116 kad N Z a0 i1 i2 i3 I = some r → aGo kad d 242 (116, ([(0, .ref a0), (1, .int i1), (2, .int i2), (3, .int i3)], [])) (aMem Z I, t) (qV Z t r) := by
  intro a0 ha0 i1 i2 i3 I r h
  unfold f242_b116 at h
  refine go_ops aMi242 1 _ (f1 := (117, ([(0, .ref a0), (1, .int i1), (2, .int i2), (3, .int i3)], [.int i3]))) rfl ?_
  refine gg_br (b := decide (¬ i3 = 0)) (tg := 142) (off := 25) aMi242 rfl rfl rfl rfl (fun hb => ?_) (fun hb => ?_)
  · rw [if_pos (of_decide_eq_true hb)] at h
    refine go_le (lv1 := [(0, .ref a0), (3, .int i3)]) (aLe_of (show (List.map (fun q => q.1) ([(0, .ref a0), (3, .int i3)] : ALv)).Nodup from (by show ([0, 3] : List Nat).Nodup; decide)) (aSubL_cons rfl (aSubL_cons rfl aSubL_nil))) ?_
    exact Tf242_b142 hd a0 ha0 i3 I _ h
  · rw [if_neg (of_decide_eq_false hb)] at h
    refine go_ops aMi242 2 _ (f1 := (122, ([(0, .ref a0), (1, .int i1), (2, .int i2), (3, .int i3)], [.int (4 : Int32), .int i1]))) rfl ?_
    refine gg_br (b := decide (¬ i1 = (4 : Int32))) (tg := 142) (off := 20) aMi242 rfl rfl rfl rfl (fun hb => ?_) (fun hb => ?_)
    · rw [if_pos (of_decide_eq_true hb)] at h
      refine go_le (lv1 := [(0, .ref a0), (3, .int i3)]) (aLe_of (show (List.map (fun q => q.1) ([(0, .ref a0), (3, .int i3)] : ALv)).Nodup from (by show ([0, 3] : List Nat).Nodup; decide)) (aSubL_cons rfl (aSubL_cons rfl aSubL_nil))) ?_
      exact Tf242_b142 hd a0 ha0 i3 I _ h
    · rw [if_neg (of_decide_eq_false hb)] at h
      refine go_ops aMi242 1 _ (f1 := (126, ([(0, .ref a0), (1, .int i1), (2, .int i2), (3, .int i3)], [.ref a0]))) rfl ?_
      refine gg_gR (b := (a0 + 16)) aMi242 rfl rfl rfl (gR_of (sh11_z ha0) (sh11_r26 ha0)) ?_
      refine go_ops aMi242 2 _ (f1 := (131, ([(0, .ref a0), (1, .int i1), (2, .int i2), (3, .int i3)], [.ref a0, .int (1 : Int32), .ref (a0 + 16)]))) rfl ?_
      refine gg_gR (b := (a0 + 24)) aMi242 rfl rfl rfl (gR_of (sh11_z ha0) (sh11_r50 ha0)) ?_
      refine go_ops aMi242 1 _ (f1 := (135, ([(0, .ref a0), (1, .int i1), (2, .int i2), (3, .int i3)], [.int i2, .ref (a0 + 24), .int (1 : Int32), .ref (a0 + 16)]))) rfl ?_
      obtain ⟨r135_1, hxr135_1, h⟩ := Option.bind_eq_some_iff.mp h
      refine gg_cs (as := [.int i2]) (r := [.ref (a0 + 24), .int (1 : Int32), .ref (a0 + 16)]) aMi242 rfl rfl rfl aMi235 rfl (Nat.le_of_ble_eq_true rfl) (Nat.le_of_ble_eq_true rfl) (by omega) (Tf235 (by omega) i2 I _ hxr135_1) ?_
      show aGo kad d 242 (138, ([(0, .ref a0), (1, .int i1), (2, .int i2), (3, .int i3)], [.int r135_1.1, .ref (a0 + 24), .int (1 : Int32), .ref (a0 + 16)])) (aMem Z r135_1.2, t) _
      refine go_ops aMi242 2 _ (f1 := (140, ([(0, .ref a0), (1, .int i1), (2, .int i2), (3, .int i3)], [.int (r135_1.1 + (1 : Int32)), .ref (a0 + 24), .int (1 : Int32), .ref (a0 + 16)]))) rfl ?_
      obtain ⟨j140_2, hxj140_2, h⟩ := Option.bind_eq_some_iff.mp h
      refine gg_lI (Or.inl ⟨rfl, rfl⟩) aMi242 rfl (lI_of (sh11_a50 ha0) hxj140_2) ?_
      obtain ⟨j141_4, hxj141_4, h⟩ := Option.bind_eq_some_iff.mp h
      obtain ⟨I141_3, hxI141_3, h⟩ := Option.bind_eq_some_iff.mp h
      refine gg_sI (Or.inl ⟨rfl, rfl⟩) aMi242 rfl (sI_of (sh11_a26 ha0) hxj141_4 hxI141_3) ?_
      refine go_le (lv1 := [(0, .ref a0), (3, .int i3)]) (aLe_of (show (List.map (fun q => q.1) ([(0, .ref a0), (3, .int i3)] : ALv)).Nodup from (by show ([0, 3] : List Nat).Nodup; decide)) (aSubL_cons rfl (aSubL_cons rfl aSubL_nil))) ?_
      exact Tf242_b142 hd a0 ha0 i3 I141_3 _ h
def f242_b246 (kad : Nat → Nat) (N : Nat) (Z : AZ) (a0 : Nat) (s0 : Int32) (I : AI) : Option (Unit × AI) :=
  (f249 kad N Z a0 s0 I).bind fun r251_1 =>
  some ((), r251_1.2)
set_option maxRecDepth 20000 in
theorem Tf242_b246 {kad : Nat → Nat} {N : Nat} {Z : AZ} {d : Nat} {t : Option Nat × (Nat × Nat)} (hd : 3 ≤ d) : ∀ (a0 : Nat) (ha0 : sh11 kad Z a0) (s0 : Int32) (I : AI) (r : Unit × AI), f242_b246 kad N Z a0 s0 I = some r → aGo kad d 242 (246, ([(0, .ref a0)], [.int s0])) (aMem Z I, t) (qV Z t r) := by
  intro a0 ha0 s0 I r h
  unfold f242_b246 at h
  refine go_ops aMi242 3 _ (f1 := (251, ([(5, .int s0), (0, .ref a0)], [.int s0, .ref a0]))) rfl ?_
  obtain ⟨r251_1, hxr251_1, h⟩ := Option.bind_eq_some_iff.mp h
  refine gg_cv (as := [.int s0]) (r := []) aMi242 rfl rfl rfl aMi249 (Nat.le_of_ble_eq_true rfl) rfl (Nat.le_of_ble_eq_true rfl) (Nat.le_of_ble_eq_true rfl) (by omega) (isK_of (sh11_z ha0)) (Tf249 (by omega) a0 ha0 s0 I _ hxr251_1) ?_
  show aGo kad d 242 (254, ([(5, .int s0), (0, .ref a0)], [])) (aMem Z r251_1.2, t) _
  cases h
  exact go_ret aMi242 rfl rfl ⟨rfl, rfl⟩
def f242_b163 (kad : Nat → Nat) (N : Nat) (Z : AZ) : Nat → Nat → Int32 → Int32 → Int32 → AI → Option (Unit × AI)
  | 0, _, _, _, _, _ => none
  | F + 1, a0, i1, i2, i5, I =>
    if (256 : Int32) ≤ i5 then
      if ¬ i1 = 0 then
        if ¬ i1 = (1 : Int32) then
          if ¬ i1 = (2 : Int32) then
            if ¬ i1 = (5 : Int32) then
              (f248 kad N Z a0 i2 I).bind fun r243_1 =>
              f242_b246 kad N Z a0 r243_1.1 r243_1.2
            else
              (f247 kad N Z a0 i2 I).bind fun r235_2 =>
              f242_b246 kad N Z a0 r235_2.1 r235_2.2
          else
            (f246 kad N Z a0 i2 I).bind fun r222_3 =>
            f242_b246 kad N Z a0 r222_3.1 r222_3.2
        else
          (f245 kad N Z a0 i2 I).bind fun r209_4 =>
          f242_b246 kad N Z a0 r209_4.1 r209_4.2
      else
        (f244 kad N Z a0 I).bind fun r196_5 =>
        f242_b246 kad N Z a0 r196_5.1 r196_5.2
    else
      (ixA 256 i5).bind fun j183_6 =>
      (ixA 256 i5).bind fun j184_8 =>
      (wI I (a0 + 25) j184_8 (I (a0 + 24) j183_6)).bind fun I184_7 =>
      f242_b163 kad N Z F a0 i1 i2 (i5 + (1 : Int32)) I184_7
set_option maxRecDepth 20000 in
theorem Tf242_b163 {kad : Nat → Nat} {N : Nat} {Z : AZ} {d : Nat} {t : Option Nat × (Nat × Nat)} (hd : 3 ≤ d) : ∀ (F : Nat) (a0 : Nat) (ha0 : sh11 kad Z a0) (i1 : Int32) (i2 : Int32) (i5 : Int32) (I : AI) (r : Unit × AI), f242_b163 kad N Z F a0 i1 i2 i5 I = some r → aGo kad d 242 (163, ([(0, .ref a0), (1, .int i1), (2, .int i2), (5, .int i5)], [])) (aMem Z I, t) (qV Z t r) := by
  intro F
  induction F with
  | zero => intro a0 ha0 i1 i2 i5 I r h; cases h
  | succ F ih =>
    intro a0 ha0 i1 i2 i5 I r h
    unfold f242_b163 at h
    refine go_ops aMi242 2 _ (f1 := (168, ([(0, .ref a0), (1, .int i1), (2, .int i2), (5, .int i5)], [.int (256 : Int32), .int i5]))) rfl ?_
    refine gg_br (b := decide ((256 : Int32) ≤ i5)) (tg := 191) (off := 23) aMi242 rfl rfl rfl rfl (fun hb => ?_) (fun hb => ?_)
    · rw [if_pos (of_decide_eq_true hb)] at h
      refine go_ops aMi242 1 _ (f1 := (192, ([(0, .ref a0), (1, .int i1), (2, .int i2), (5, .int i5)], [.int i1]))) rfl ?_
      refine gg_br (b := decide (¬ i1 = 0)) (tg := 202) (off := 10) aMi242 rfl rfl rfl rfl (fun hb => ?_) (fun hb => ?_)
      · rw [if_pos (of_decide_eq_true hb)] at h
        refine go_ops aMi242 2 _ (f1 := (204, ([(0, .ref a0), (1, .int i1), (2, .int i2), (5, .int i5)], [.int (1 : Int32), .int i1]))) rfl ?_
        refine gg_br (b := decide (¬ i1 = (1 : Int32))) (tg := 215) (off := 11) aMi242 rfl rfl rfl rfl (fun hb => ?_) (fun hb => ?_)
        · rw [if_pos (of_decide_eq_true hb)] at h
          refine go_ops aMi242 2 _ (f1 := (217, ([(0, .ref a0), (1, .int i1), (2, .int i2), (5, .int i5)], [.int (2 : Int32), .int i1]))) rfl ?_
          refine gg_br (b := decide (¬ i1 = (2 : Int32))) (tg := 228) (off := 11) aMi242 rfl rfl rfl rfl (fun hb => ?_) (fun hb => ?_)
          · rw [if_pos (of_decide_eq_true hb)] at h
            refine go_ops aMi242 2 _ (f1 := (230, ([(0, .ref a0), (1, .int i1), (2, .int i2), (5, .int i5)], [.int (5 : Int32), .int i1]))) rfl ?_
            refine gg_br (b := decide (¬ i1 = (5 : Int32))) (tg := 241) (off := 11) aMi242 rfl rfl rfl rfl (fun hb => ?_) (fun hb => ?_)
            · rw [if_pos (of_decide_eq_true hb)] at h
              refine go_ops aMi242 2 _ (f1 := (243, ([(0, .ref a0), (1, .int i1), (2, .int i2), (5, .int i5)], [.int i2, .ref a0]))) rfl ?_
              obtain ⟨r243_1, hxr243_1, h⟩ := Option.bind_eq_some_iff.mp h
              refine gg_cv (as := [.int i2]) (r := []) aMi242 rfl rfl rfl aMi248 (Nat.le_of_ble_eq_true rfl) rfl (Nat.le_of_ble_eq_true rfl) (Nat.le_of_ble_eq_true rfl) (by omega) (isK_of (sh11_z ha0)) (Tf248 (by omega) a0 ha0 i2 I _ hxr243_1) ?_
              show aGo kad d 242 (246, ([(0, .ref a0), (1, .int i1), (2, .int i2), (5, .int i5)], [.int r243_1.1])) (aMem Z r243_1.2, t) _
              refine go_le (lv1 := [(0, .ref a0)]) (aLe_of (show (List.map (fun q => q.1) ([(0, .ref a0)] : ALv)).Nodup from (by show ([0] : List Nat).Nodup; decide)) (aSubL_cons rfl aSubL_nil)) ?_
              exact Tf242_b246 hd a0 ha0 r243_1.1 r243_1.2 _ h
            · rw [if_neg (of_decide_eq_false hb)] at h
              refine go_ops aMi242 2 _ (f1 := (235, ([(0, .ref a0), (1, .int i1), (2, .int i2), (5, .int i5)], [.int i2, .ref a0]))) rfl ?_
              obtain ⟨r235_2, hxr235_2, h⟩ := Option.bind_eq_some_iff.mp h
              refine gg_cv (as := [.int i2]) (r := []) aMi242 rfl rfl rfl aMi247 (Nat.le_of_ble_eq_true rfl) rfl (Nat.le_of_ble_eq_true rfl) (Nat.le_of_ble_eq_true rfl) (by omega) (isK_of (sh11_z ha0)) (Tf247 (by omega) a0 ha0 i2 I _ hxr235_2) ?_
              show aGo kad d 242 (238, ([(0, .ref a0), (1, .int i1), (2, .int i2), (5, .int i5)], [.int r235_2.1])) (aMem Z r235_2.2, t) _
              refine go_ops aMi242 1 _ (f1 := (246, ([(0, .ref a0), (1, .int i1), (2, .int i2), (5, .int i5)], [.int r235_2.1]))) rfl ?_
              refine go_le (lv1 := [(0, .ref a0)]) (aLe_of (show (List.map (fun q => q.1) ([(0, .ref a0)] : ALv)).Nodup from (by show ([0] : List Nat).Nodup; decide)) (aSubL_cons rfl aSubL_nil)) ?_
              exact Tf242_b246 hd a0 ha0 r235_2.1 r235_2.2 _ h
          · rw [if_neg (of_decide_eq_false hb)] at h
            refine go_ops aMi242 2 _ (f1 := (222, ([(0, .ref a0), (1, .int i1), (2, .int i2), (5, .int i5)], [.int i2, .ref a0]))) rfl ?_
            obtain ⟨r222_3, hxr222_3, h⟩ := Option.bind_eq_some_iff.mp h
            refine gg_cv (as := [.int i2]) (r := []) aMi242 rfl rfl rfl aMi246 (Nat.le_of_ble_eq_true rfl) rfl (Nat.le_of_ble_eq_true rfl) (Nat.le_of_ble_eq_true rfl) (by omega) (isK_of (sh11_z ha0)) (Tf246 (by omega) a0 ha0 i2 I _ hxr222_3) ?_
            show aGo kad d 242 (225, ([(0, .ref a0), (1, .int i1), (2, .int i2), (5, .int i5)], [.int r222_3.1])) (aMem Z r222_3.2, t) _
            refine go_ops aMi242 1 _ (f1 := (246, ([(0, .ref a0), (1, .int i1), (2, .int i2), (5, .int i5)], [.int r222_3.1]))) rfl ?_
            refine go_le (lv1 := [(0, .ref a0)]) (aLe_of (show (List.map (fun q => q.1) ([(0, .ref a0)] : ALv)).Nodup from (by show ([0] : List Nat).Nodup; decide)) (aSubL_cons rfl aSubL_nil)) ?_
            exact Tf242_b246 hd a0 ha0 r222_3.1 r222_3.2 _ h
        · rw [if_neg (of_decide_eq_false hb)] at h
          refine go_ops aMi242 2 _ (f1 := (209, ([(0, .ref a0), (1, .int i1), (2, .int i2), (5, .int i5)], [.int i2, .ref a0]))) rfl ?_
          obtain ⟨r209_4, hxr209_4, h⟩ := Option.bind_eq_some_iff.mp h
          refine gg_cv (as := [.int i2]) (r := []) aMi242 rfl rfl rfl aMi245 (Nat.le_of_ble_eq_true rfl) rfl (Nat.le_of_ble_eq_true rfl) (Nat.le_of_ble_eq_true rfl) (by omega) (isK_of (sh11_z ha0)) (Tf245 (by omega) a0 ha0 i2 I _ hxr209_4) ?_
          show aGo kad d 242 (212, ([(0, .ref a0), (1, .int i1), (2, .int i2), (5, .int i5)], [.int r209_4.1])) (aMem Z r209_4.2, t) _
          refine go_ops aMi242 1 _ (f1 := (246, ([(0, .ref a0), (1, .int i1), (2, .int i2), (5, .int i5)], [.int r209_4.1]))) rfl ?_
          refine go_le (lv1 := [(0, .ref a0)]) (aLe_of (show (List.map (fun q => q.1) ([(0, .ref a0)] : ALv)).Nodup from (by show ([0] : List Nat).Nodup; decide)) (aSubL_cons rfl aSubL_nil)) ?_
          exact Tf242_b246 hd a0 ha0 r209_4.1 r209_4.2 _ h
      · rw [if_neg (of_decide_eq_false hb)] at h
        refine go_ops aMi242 1 _ (f1 := (196, ([(0, .ref a0), (1, .int i1), (2, .int i2), (5, .int i5)], [.ref a0]))) rfl ?_
        obtain ⟨r196_5, hxr196_5, h⟩ := Option.bind_eq_some_iff.mp h
        refine gg_cv (as := []) (r := []) aMi242 rfl rfl rfl aMi244 (Nat.le_of_ble_eq_true rfl) rfl (Nat.le_of_ble_eq_true rfl) (Nat.le_of_ble_eq_true rfl) (by omega) (isK_of (sh11_z ha0)) (Tf244 (by omega) a0 ha0 I _ hxr196_5) ?_
        show aGo kad d 242 (199, ([(0, .ref a0), (1, .int i1), (2, .int i2), (5, .int i5)], [.int r196_5.1])) (aMem Z r196_5.2, t) _
        refine go_ops aMi242 1 _ (f1 := (246, ([(0, .ref a0), (1, .int i1), (2, .int i2), (5, .int i5)], [.int r196_5.1]))) rfl ?_
        refine go_le (lv1 := [(0, .ref a0)]) (aLe_of (show (List.map (fun q => q.1) ([(0, .ref a0)] : ALv)).Nodup from (by show ([0] : List Nat).Nodup; decide)) (aSubL_cons rfl aSubL_nil)) ?_
        exact Tf242_b246 hd a0 ha0 r196_5.1 r196_5.2 _ h
    · rw [if_neg (of_decide_eq_false hb)] at h
      refine go_ops aMi242 1 _ (f1 := (172, ([(0, .ref a0), (1, .int i1), (2, .int i2), (5, .int i5)], [.ref a0]))) rfl ?_
      refine gg_gR (b := (a0 + 25)) aMi242 rfl rfl rfl (gR_of (sh11_z ha0) (sh11_r51 ha0)) ?_
      refine go_ops aMi242 2 _ (f1 := (178, ([(0, .ref a0), (1, .int i1), (2, .int i2), (5, .int i5)], [.ref a0, .int i5, .ref (a0 + 25)]))) rfl ?_
      refine gg_gR (b := (a0 + 24)) aMi242 rfl rfl rfl (gR_of (sh11_z ha0) (sh11_r50 ha0)) ?_
      refine go_ops aMi242 1 _ (f1 := (183, ([(0, .ref a0), (1, .int i1), (2, .int i2), (5, .int i5)], [.int i5, .ref (a0 + 24), .int i5, .ref (a0 + 25)]))) rfl ?_
      obtain ⟨j183_6, hxj183_6, h⟩ := Option.bind_eq_some_iff.mp h
      refine gg_lI (Or.inl ⟨rfl, rfl⟩) aMi242 rfl (lI_of (sh11_a50 ha0) hxj183_6) ?_
      obtain ⟨j184_8, hxj184_8, h⟩ := Option.bind_eq_some_iff.mp h
      obtain ⟨I184_7, hxI184_7, h⟩ := Option.bind_eq_some_iff.mp h
      refine gg_sI (Or.inl ⟨rfl, rfl⟩) aMi242 rfl (sI_of (sh11_a51 ha0) hxj184_8 hxI184_7) ?_
      refine go_ops aMi242 2 _ (f1 := (163, ([(5, .int (i5 + (1 : Int32))), (0, .ref a0), (1, .int i1), (2, .int i2)], []))) rfl ?_
      refine go_le (lv1 := [(0, .ref a0), (1, .int i1), (2, .int i2), (5, .int (i5 + (1 : Int32)))]) (aLe_of (show (List.map (fun q => q.1) ([(0, .ref a0), (1, .int i1), (2, .int i2), (5, .int (i5 + (1 : Int32)))] : ALv)).Nodup from (by show ([0, 1, 2, 5] : List Nat).Nodup; decide)) (aSubL_cons rfl (aSubL_cons rfl (aSubL_cons rfl (aSubL_cons rfl aSubL_nil))))) ?_
      exact ih a0 ha0 i1 i2 (i5 + (1 : Int32)) I184_7 _ h
def f242_b61 (kad : Nat → Nat) (N : Nat) (Z : AZ) (a0 : Nat) (i1 : Int32) (i2 : Int32) (i3 : Int32) (s0 : Int32) (I : AI) : Option (Unit × AI) :=
  if s0 = 0 then
    f242_b163 kad N Z N a0 i1 i2 (0 : Int32) I
  else
    if ¬ i3 = 0 then
      f242_b116 kad N Z a0 i1 i2 i3 I
    else
      if ¬ i1 = (3 : Int32) then
        f242_b116 kad N Z a0 i1 i2 i3 I
      else
        (ixA 4 (1 : Int32)).bind fun j99_1 =>
        (f241 kad N Z a0 (a0 + 24) i2 (I (a0 + 16) j99_1) I).bind fun r100_2 =>
        (ixA 4 (1 : Int32)).bind fun j109_3 =>
        (ixA 256 (((8 : Int32) * r100_2.1) + ((r100_2.2 (a0 + 16) j109_3) - (r100_2.2 (a0 + 16) j109_3) / (8 : Int32) * (8 : Int32)))).bind fun j114_4 =>
        (ixA 4 (2 : Int32)).bind fun j115_6 =>
        (wI r100_2.2 (a0 + 16) j115_6 (r100_2.2 (a0 + 24) j114_4)).bind fun I115_5 =>
        f242_b116 kad N Z a0 i1 i2 i3 I115_5
set_option maxRecDepth 20000 in
theorem Tf242_b61 {kad : Nat → Nat} {N : Nat} {Z : AZ} {d : Nat} {t : Option Nat × (Nat × Nat)} (hd : 3 ≤ d) : ∀ (a0 : Nat) (ha0 : sh11 kad Z a0) (i1 : Int32) (i2 : Int32) (i3 : Int32) (s0 : Int32) (I : AI) (r : Unit × AI), f242_b61 kad N Z a0 i1 i2 i3 s0 I = some r → aGo kad d 242 (61, ([(0, .ref a0), (1, .int i1), (2, .int i2), (3, .int i3)], [.int s0])) (aMem Z I, t) (qV Z t r) := by
  intro a0 ha0 i1 i2 i3 s0 I r h
  unfold f242_b61 at h
  refine go_ops aMi242 2 _ (f1 := (65, ([(4, .int s0), (0, .ref a0), (1, .int i1), (2, .int i2), (3, .int i3)], [.int s0]))) rfl ?_
  refine gg_br (b := decide (s0 = 0)) (tg := 160) (off := 95) aMi242 rfl rfl rfl rfl (fun hb => ?_) (fun hb => ?_)
  · rw [if_pos (of_decide_eq_true hb)] at h
    refine go_ops aMi242 2 _ (f1 := (163, ([(5, .int (0 : Int32)), (4, .int s0), (0, .ref a0), (1, .int i1), (2, .int i2), (3, .int i3)], []))) rfl ?_
    refine go_le (lv1 := [(0, .ref a0), (1, .int i1), (2, .int i2), (5, .int (0 : Int32))]) (aLe_of (show (List.map (fun q => q.1) ([(0, .ref a0), (1, .int i1), (2, .int i2), (5, .int (0 : Int32))] : ALv)).Nodup from (by show ([0, 1, 2, 5] : List Nat).Nodup; decide)) (aSubL_cons rfl (aSubL_cons rfl (aSubL_cons rfl (aSubL_cons rfl aSubL_nil))))) ?_
    exact Tf242_b163 hd N a0 ha0 i1 i2 (0 : Int32) I _ h
  · rw [if_neg (of_decide_eq_false hb)] at h
    refine go_ops aMi242 1 _ (f1 := (69, ([(4, .int s0), (0, .ref a0), (1, .int i1), (2, .int i2), (3, .int i3)], [.int i3]))) rfl ?_
    refine gg_br (b := decide (¬ i3 = 0)) (tg := 116) (off := 47) aMi242 rfl rfl rfl rfl (fun hb => ?_) (fun hb => ?_)
    · rw [if_pos (of_decide_eq_true hb)] at h
      refine go_le (lv1 := [(0, .ref a0), (1, .int i1), (2, .int i2), (3, .int i3)]) (aLe_of (show (List.map (fun q => q.1) ([(0, .ref a0), (1, .int i1), (2, .int i2), (3, .int i3)] : ALv)).Nodup from (by show ([0, 1, 2, 3] : List Nat).Nodup; decide)) (aSubL_cons rfl (aSubL_cons rfl (aSubL_cons rfl (aSubL_cons rfl aSubL_nil))))) ?_
      exact Tf242_b116 hd a0 ha0 i1 i2 i3 I _ h
    · rw [if_neg (of_decide_eq_false hb)] at h
      refine go_ops aMi242 2 _ (f1 := (74, ([(4, .int s0), (0, .ref a0), (1, .int i1), (2, .int i2), (3, .int i3)], [.int (3 : Int32), .int i1]))) rfl ?_
      refine gg_br (b := decide (¬ i1 = (3 : Int32))) (tg := 116) (off := 42) aMi242 rfl rfl rfl rfl (fun hb => ?_) (fun hb => ?_)
      · rw [if_pos (of_decide_eq_true hb)] at h
        refine go_le (lv1 := [(0, .ref a0), (1, .int i1), (2, .int i2), (3, .int i3)]) (aLe_of (show (List.map (fun q => q.1) ([(0, .ref a0), (1, .int i1), (2, .int i2), (3, .int i3)] : ALv)).Nodup from (by show ([0, 1, 2, 3] : List Nat).Nodup; decide)) (aSubL_cons rfl (aSubL_cons rfl (aSubL_cons rfl (aSubL_cons rfl aSubL_nil))))) ?_
        exact Tf242_b116 hd a0 ha0 i1 i2 i3 I _ h
      · rw [if_neg (of_decide_eq_false hb)] at h
        refine go_ops aMi242 1 _ (f1 := (78, ([(4, .int s0), (0, .ref a0), (1, .int i1), (2, .int i2), (3, .int i3)], [.ref a0]))) rfl ?_
        refine gg_gR (b := (a0 + 16)) aMi242 rfl rfl rfl (gR_of (sh11_z ha0) (sh11_r26 ha0)) ?_
        refine go_ops aMi242 2 _ (f1 := (83, ([(4, .int s0), (0, .ref a0), (1, .int i1), (2, .int i2), (3, .int i3)], [.ref a0, .int (2 : Int32), .ref (a0 + 16)]))) rfl ?_
        refine gg_gR (b := (a0 + 24)) aMi242 rfl rfl rfl (gR_of (sh11_z ha0) (sh11_r50 ha0)) ?_
        refine go_ops aMi242 3 _ (f1 := (90, ([(4, .int s0), (0, .ref a0), (1, .int i1), (2, .int i2), (3, .int i3)], [.ref a0, .ref a0, .int (8 : Int32), .ref (a0 + 24), .int (2 : Int32), .ref (a0 + 16)]))) rfl ?_
        refine gg_gR (b := (a0 + 24)) aMi242 rfl rfl rfl (gR_of (sh11_z ha0) (sh11_r50 ha0)) ?_
        refine go_ops aMi242 2 _ (f1 := (95, ([(4, .int s0), (0, .ref a0), (1, .int i1), (2, .int i2), (3, .int i3)], [.ref a0, .int i2, .ref (a0 + 24), .ref a0, .int (8 : Int32), .ref (a0 + 24), .int (2 : Int32), .ref (a0 + 16)]))) rfl ?_
        refine gg_gR (b := (a0 + 16)) aMi242 rfl rfl rfl (gR_of (sh11_z ha0) (sh11_r26 ha0)) ?_
        refine go_ops aMi242 1 _ (f1 := (99, ([(4, .int s0), (0, .ref a0), (1, .int i1), (2, .int i2), (3, .int i3)], [.int (1 : Int32), .ref (a0 + 16), .int i2, .ref (a0 + 24), .ref a0, .int (8 : Int32), .ref (a0 + 24), .int (2 : Int32), .ref (a0 + 16)]))) rfl ?_
        obtain ⟨j99_1, hxj99_1, h⟩ := Option.bind_eq_some_iff.mp h
        refine gg_lI (Or.inl ⟨rfl, rfl⟩) aMi242 rfl (lI_of (sh11_a26 ha0) hxj99_1) ?_
        obtain ⟨r100_2, hxr100_2, h⟩ := Option.bind_eq_some_iff.mp h
        refine gg_cv (as := [.ref (a0 + 24), .int i2, .int (I (a0 + 16) j99_1)]) (r := [.int (8 : Int32), .ref (a0 + 24), .int (2 : Int32), .ref (a0 + 16)]) aMi242 rfl rfl rfl aMi241 (Nat.le_of_ble_eq_true rfl) rfl (Nat.le_of_ble_eq_true rfl) (Nat.le_of_ble_eq_true rfl) (by omega) (isK_of (sh11_z ha0)) (Tf241 (by omega) a0 ha0 (a0 + 24) i2 (I (a0 + 16) j99_1) I _ hxr100_2) ?_
        show aGo kad d 242 (103, ([(4, .int s0), (0, .ref a0), (1, .int i1), (2, .int i2), (3, .int i3)], [.int r100_2.1, .int (8 : Int32), .ref (a0 + 24), .int (2 : Int32), .ref (a0 + 16)])) (aMem Z r100_2.2, t) _
        refine go_ops aMi242 2 _ (f1 := (105, ([(4, .int s0), (0, .ref a0), (1, .int i1), (2, .int i2), (3, .int i3)], [.ref a0, .int ((8 : Int32) * r100_2.1), .ref (a0 + 24), .int (2 : Int32), .ref (a0 + 16)]))) rfl ?_
        refine gg_gR (b := (a0 + 16)) aMi242 rfl rfl rfl (gR_of (sh11_z ha0) (sh11_r26 ha0)) ?_
        refine go_ops aMi242 1 _ (f1 := (109, ([(4, .int s0), (0, .ref a0), (1, .int i1), (2, .int i2), (3, .int i3)], [.int (1 : Int32), .ref (a0 + 16), .int ((8 : Int32) * r100_2.1), .ref (a0 + 24), .int (2 : Int32), .ref (a0 + 16)]))) rfl ?_
        obtain ⟨j109_3, hxj109_3, h⟩ := Option.bind_eq_some_iff.mp h
        refine gg_lI (Or.inl ⟨rfl, rfl⟩) aMi242 rfl (lI_of (sh11_a26 ha0) hxj109_3) ?_
        refine go_ops aMi242 3 _ (f1 := (114, ([(4, .int s0), (0, .ref a0), (1, .int i1), (2, .int i2), (3, .int i3)], [.int (((8 : Int32) * r100_2.1) + ((r100_2.2 (a0 + 16) j109_3) - (r100_2.2 (a0 + 16) j109_3) / (8 : Int32) * (8 : Int32))), .ref (a0 + 24), .int (2 : Int32), .ref (a0 + 16)]))) rfl ?_
        obtain ⟨j114_4, hxj114_4, h⟩ := Option.bind_eq_some_iff.mp h
        refine gg_lI (Or.inl ⟨rfl, rfl⟩) aMi242 rfl (lI_of (sh11_a50 ha0) hxj114_4) ?_
        obtain ⟨j115_6, hxj115_6, h⟩ := Option.bind_eq_some_iff.mp h
        obtain ⟨I115_5, hxI115_5, h⟩ := Option.bind_eq_some_iff.mp h
        refine gg_sI (Or.inl ⟨rfl, rfl⟩) aMi242 rfl (sI_of (sh11_a26 ha0) hxj115_6 hxI115_5) ?_
        refine go_le (lv1 := [(0, .ref a0), (1, .int i1), (2, .int i2), (3, .int i3)]) (aLe_of (show (List.map (fun q => q.1) ([(0, .ref a0), (1, .int i1), (2, .int i2), (3, .int i3)] : ALv)).Nodup from (by show ([0, 1, 2, 3] : List Nat).Nodup; decide)) (aSubL_cons rfl (aSubL_cons rfl (aSubL_cons rfl (aSubL_cons rfl aSubL_nil))))) ?_
        exact Tf242_b116 hd a0 ha0 i1 i2 i3 I115_5 _ h
def f242_b56 (kad : Nat → Nat) (N : Nat) (Z : AZ) (a0 : Nat) (i1 : Int32) (i2 : Int32) (i3 : Int32) (I : AI) : Option (Unit × AI) :=
  f242_b61 kad N Z a0 i1 i2 i3 (1 : Int32) I
set_option maxRecDepth 20000 in
theorem Tf242_b56 {kad : Nat → Nat} {N : Nat} {Z : AZ} {d : Nat} {t : Option Nat × (Nat × Nat)} (hd : 3 ≤ d) : ∀ (a0 : Nat) (ha0 : sh11 kad Z a0) (i1 : Int32) (i2 : Int32) (i3 : Int32) (I : AI) (r : Unit × AI), f242_b56 kad N Z a0 i1 i2 i3 I = some r → aGo kad d 242 (56, ([(0, .ref a0), (1, .int i1), (2, .int i2), (3, .int i3)], [])) (aMem Z I, t) (qV Z t r) := by
  intro a0 ha0 i1 i2 i3 I r h
  unfold f242_b56 at h
  refine go_ops aMi242 2 _ (f1 := (61, ([(0, .ref a0), (1, .int i1), (2, .int i2), (3, .int i3)], [.int (1 : Int32)]))) rfl ?_
  exact Tf242_b61 hd a0 ha0 i1 i2 i3 (1 : Int32) I _ h
def f242_b60 (kad : Nat → Nat) (N : Nat) (Z : AZ) (a0 : Nat) (i1 : Int32) (i2 : Int32) (i3 : Int32) (I : AI) : Option (Unit × AI) :=
  f242_b61 kad N Z a0 i1 i2 i3 (0 : Int32) I
set_option maxRecDepth 20000 in
theorem Tf242_b60 {kad : Nat → Nat} {N : Nat} {Z : AZ} {d : Nat} {t : Option Nat × (Nat × Nat)} (hd : 3 ≤ d) : ∀ (a0 : Nat) (ha0 : sh11 kad Z a0) (i1 : Int32) (i2 : Int32) (i3 : Int32) (I : AI) (r : Unit × AI), f242_b60 kad N Z a0 i1 i2 i3 I = some r → aGo kad d 242 (60, ([(0, .ref a0), (1, .int i1), (2, .int i2), (3, .int i3)], [])) (aMem Z I, t) (qV Z t r) := by
  intro a0 ha0 i1 i2 i3 I r h
  unfold f242_b60 at h
  refine go_ops aMi242 1 _ (f1 := (61, ([(0, .ref a0), (1, .int i1), (2, .int i2), (3, .int i3)], [.int (0 : Int32)]))) rfl ?_
  exact Tf242_b61 hd a0 ha0 i1 i2 i3 (0 : Int32) I _ h
def f242 (kad : Nat → Nat) (N : Nat) (Z : AZ) (a0 : Nat) (i1 : Int32) (I : AI) : Option (Unit × AI) :=
  (ixA 4 (0 : Int32)).bind fun j9_1 =>
  (f236 kad N Z (a0 + 24) (I (a0 + 16) j9_1) I).bind fun r10_2 =>
  (f240 kad N Z a0 i1 r10_2.1 r10_2.2).bind fun r17_3 =>
  if ¬ r17_3.1 = 0 then
    f242_b56 kad N Z a0 i1 r10_2.1 r17_3.1 r17_3.2
  else
    if i1 = (3 : Int32) then
      f242_b56 kad N Z a0 i1 r10_2.1 r17_3.1 r17_3.2
    else
      if i1 = (4 : Int32) then
        f242_b56 kad N Z a0 i1 r10_2.1 r17_3.1 r17_3.2
      else
        if ¬ i1 = (6 : Int32) then
          f242_b60 kad N Z a0 i1 r10_2.1 r17_3.1 r17_3.2
        else
          (ixA 4 (0 : Int32)).bind fun j46_4 =>
          (ixA 4 (1 : Int32)).bind fun j52_5 =>
          if ¬ (r17_3.2 (a0 + 16) j46_4) = (r17_3.2 (a0 + 16) j52_5) then
            f242_b60 kad N Z a0 i1 r10_2.1 r17_3.1 r17_3.2
          else
            f242_b56 kad N Z a0 i1 r10_2.1 r17_3.1 r17_3.2
set_option maxRecDepth 20000 in
theorem Tf242 {kad : Nat → Nat} {N : Nat} {Z : AZ} {d : Nat} {t : Option Nat × (Nat × Nat)} (hd : 3 ≤ d) : ∀ (a0 : Nat) (ha0 : sh11 kad Z a0) (i1 : Int32) (I : AI) (r : Unit × AI), f242 kad N Z a0 i1 I = some r → aGo kad d 242 (0, ([(0, .ref a0), (1, .int i1)], [])) (aMem Z I, t) (qV Z t r) := by
  intro a0 ha0 i1 I r h
  unfold f242 at h
  refine go_ops aMi242 1 _ (f1 := (1, ([(0, .ref a0), (1, .int i1)], [.ref a0]))) rfl ?_
  refine gg_gR (b := (a0 + 24)) aMi242 rfl rfl rfl (gR_of (sh11_z ha0) (sh11_r50 ha0)) ?_
  refine go_ops aMi242 1 _ (f1 := (5, ([(0, .ref a0), (1, .int i1)], [.ref a0, .ref (a0 + 24)]))) rfl ?_
  refine gg_gR (b := (a0 + 16)) aMi242 rfl rfl rfl (gR_of (sh11_z ha0) (sh11_r26 ha0)) ?_
  refine go_ops aMi242 1 _ (f1 := (9, ([(0, .ref a0), (1, .int i1)], [.int (0 : Int32), .ref (a0 + 16), .ref (a0 + 24)]))) rfl ?_
  obtain ⟨j9_1, hxj9_1, h⟩ := Option.bind_eq_some_iff.mp h
  refine gg_lI (Or.inl ⟨rfl, rfl⟩) aMi242 rfl (lI_of (sh11_a26 ha0) hxj9_1) ?_
  obtain ⟨r10_2, hxr10_2, h⟩ := Option.bind_eq_some_iff.mp h
  refine gg_cs (as := [.ref (a0 + 24), .int (I (a0 + 16) j9_1)]) (r := []) aMi242 rfl rfl rfl aMi236 rfl (Nat.le_of_ble_eq_true rfl) (Nat.le_of_ble_eq_true rfl) (by omega) (Tf236 (by omega) (a0 + 24) (I (a0 + 16) j9_1) I _ hxr10_2) ?_
  show aGo kad d 242 (13, ([(0, .ref a0), (1, .int i1)], [.int r10_2.1])) (aMem Z r10_2.2, t) _
  refine go_ops aMi242 4 _ (f1 := (17, ([(2, .int r10_2.1), (0, .ref a0), (1, .int i1)], [.int r10_2.1, .int i1, .ref a0]))) rfl ?_
  obtain ⟨r17_3, hxr17_3, h⟩ := Option.bind_eq_some_iff.mp h
  refine gg_cv (as := [.int i1, .int r10_2.1]) (r := []) aMi242 rfl rfl rfl aMi240 (Nat.le_of_ble_eq_true rfl) rfl (Nat.le_of_ble_eq_true rfl) (Nat.le_of_ble_eq_true rfl) (by omega) (isK_of (sh11_z ha0)) (Tf240 (by omega) a0 ha0 i1 r10_2.1 r10_2.2 _ hxr17_3) ?_
  show aGo kad d 242 (20, ([(2, .int r10_2.1), (0, .ref a0), (1, .int i1)], [.int r17_3.1])) (aMem Z r17_3.2, t) _
  refine go_ops aMi242 2 _ (f1 := (22, ([(3, .int r17_3.1), (2, .int r10_2.1), (0, .ref a0), (1, .int i1)], [.int r17_3.1]))) rfl ?_
  refine gg_br (b := decide (¬ r17_3.1 = 0)) (tg := 56) (off := 34) aMi242 rfl rfl rfl rfl (fun hb => ?_) (fun hb => ?_)
  · rw [if_pos (of_decide_eq_true hb)] at h
    refine go_le (lv1 := [(0, .ref a0), (1, .int i1), (2, .int r10_2.1), (3, .int r17_3.1)]) (aLe_of (show (List.map (fun q => q.1) ([(0, .ref a0), (1, .int i1), (2, .int r10_2.1), (3, .int r17_3.1)] : ALv)).Nodup from (by show ([0, 1, 2, 3] : List Nat).Nodup; decide)) (aSubL_cons rfl (aSubL_cons rfl (aSubL_cons rfl (aSubL_cons rfl aSubL_nil))))) ?_
    exact Tf242_b56 hd a0 ha0 i1 r10_2.1 r17_3.1 r17_3.2 _ h
  · rw [if_neg (of_decide_eq_false hb)] at h
    refine go_ops aMi242 2 _ (f1 := (27, ([(3, .int r17_3.1), (2, .int r10_2.1), (0, .ref a0), (1, .int i1)], [.int (3 : Int32), .int i1]))) rfl ?_
    refine gg_br (b := decide (i1 = (3 : Int32))) (tg := 56) (off := 29) aMi242 rfl rfl rfl rfl (fun hb => ?_) (fun hb => ?_)
    · rw [if_pos (of_decide_eq_true hb)] at h
      refine go_le (lv1 := [(0, .ref a0), (1, .int i1), (2, .int r10_2.1), (3, .int r17_3.1)]) (aLe_of (show (List.map (fun q => q.1) ([(0, .ref a0), (1, .int i1), (2, .int r10_2.1), (3, .int r17_3.1)] : ALv)).Nodup from (by show ([0, 1, 2, 3] : List Nat).Nodup; decide)) (aSubL_cons rfl (aSubL_cons rfl (aSubL_cons rfl (aSubL_cons rfl aSubL_nil))))) ?_
      exact Tf242_b56 hd a0 ha0 i1 r10_2.1 r17_3.1 r17_3.2 _ h
    · rw [if_neg (of_decide_eq_false hb)] at h
      refine go_ops aMi242 2 _ (f1 := (32, ([(3, .int r17_3.1), (2, .int r10_2.1), (0, .ref a0), (1, .int i1)], [.int (4 : Int32), .int i1]))) rfl ?_
      refine gg_br (b := decide (i1 = (4 : Int32))) (tg := 56) (off := 24) aMi242 rfl rfl rfl rfl (fun hb => ?_) (fun hb => ?_)
      · rw [if_pos (of_decide_eq_true hb)] at h
        refine go_le (lv1 := [(0, .ref a0), (1, .int i1), (2, .int r10_2.1), (3, .int r17_3.1)]) (aLe_of (show (List.map (fun q => q.1) ([(0, .ref a0), (1, .int i1), (2, .int r10_2.1), (3, .int r17_3.1)] : ALv)).Nodup from (by show ([0, 1, 2, 3] : List Nat).Nodup; decide)) (aSubL_cons rfl (aSubL_cons rfl (aSubL_cons rfl (aSubL_cons rfl aSubL_nil))))) ?_
        exact Tf242_b56 hd a0 ha0 i1 r10_2.1 r17_3.1 r17_3.2 _ h
      · rw [if_neg (of_decide_eq_false hb)] at h
        refine go_ops aMi242 2 _ (f1 := (38, ([(3, .int r17_3.1), (2, .int r10_2.1), (0, .ref a0), (1, .int i1)], [.int (6 : Int32), .int i1]))) rfl ?_
        refine gg_br (b := decide (¬ i1 = (6 : Int32))) (tg := 60) (off := 22) aMi242 rfl rfl rfl rfl (fun hb => ?_) (fun hb => ?_)
        · rw [if_pos (of_decide_eq_true hb)] at h
          refine go_le (lv1 := [(0, .ref a0), (1, .int i1), (2, .int r10_2.1), (3, .int r17_3.1)]) (aLe_of (show (List.map (fun q => q.1) ([(0, .ref a0), (1, .int i1), (2, .int r10_2.1), (3, .int r17_3.1)] : ALv)).Nodup from (by show ([0, 1, 2, 3] : List Nat).Nodup; decide)) (aSubL_cons rfl (aSubL_cons rfl (aSubL_cons rfl (aSubL_cons rfl aSubL_nil))))) ?_
          exact Tf242_b60 hd a0 ha0 i1 r10_2.1 r17_3.1 r17_3.2 _ h
        · rw [if_neg (of_decide_eq_false hb)] at h
          refine go_ops aMi242 1 _ (f1 := (42, ([(3, .int r17_3.1), (2, .int r10_2.1), (0, .ref a0), (1, .int i1)], [.ref a0]))) rfl ?_
          refine gg_gR (b := (a0 + 16)) aMi242 rfl rfl rfl (gR_of (sh11_z ha0) (sh11_r26 ha0)) ?_
          refine go_ops aMi242 1 _ (f1 := (46, ([(3, .int r17_3.1), (2, .int r10_2.1), (0, .ref a0), (1, .int i1)], [.int (0 : Int32), .ref (a0 + 16)]))) rfl ?_
          obtain ⟨j46_4, hxj46_4, h⟩ := Option.bind_eq_some_iff.mp h
          refine gg_lI (Or.inl ⟨rfl, rfl⟩) aMi242 rfl (lI_of (sh11_a26 ha0) hxj46_4) ?_
          refine go_ops aMi242 1 _ (f1 := (48, ([(3, .int r17_3.1), (2, .int r10_2.1), (0, .ref a0), (1, .int i1)], [.ref a0, .int (r17_3.2 (a0 + 16) j46_4)]))) rfl ?_
          refine gg_gR (b := (a0 + 16)) aMi242 rfl rfl rfl (gR_of (sh11_z ha0) (sh11_r26 ha0)) ?_
          refine go_ops aMi242 1 _ (f1 := (52, ([(3, .int r17_3.1), (2, .int r10_2.1), (0, .ref a0), (1, .int i1)], [.int (1 : Int32), .ref (a0 + 16), .int (r17_3.2 (a0 + 16) j46_4)]))) rfl ?_
          obtain ⟨j52_5, hxj52_5, h⟩ := Option.bind_eq_some_iff.mp h
          refine gg_lI (Or.inl ⟨rfl, rfl⟩) aMi242 rfl (lI_of (sh11_a26 ha0) hxj52_5) ?_
          refine gg_br (b := decide (¬ (r17_3.2 (a0 + 16) j46_4) = (r17_3.2 (a0 + 16) j52_5))) (tg := 60) (off := 7) aMi242 rfl rfl rfl rfl (fun hb => ?_) (fun hb => ?_)
          · rw [if_pos (of_decide_eq_true hb)] at h
            refine go_le (lv1 := [(0, .ref a0), (1, .int i1), (2, .int r10_2.1), (3, .int r17_3.1)]) (aLe_of (show (List.map (fun q => q.1) ([(0, .ref a0), (1, .int i1), (2, .int r10_2.1), (3, .int r17_3.1)] : ALv)).Nodup from (by show ([0, 1, 2, 3] : List Nat).Nodup; decide)) (aSubL_cons rfl (aSubL_cons rfl (aSubL_cons rfl (aSubL_cons rfl aSubL_nil))))) ?_
            exact Tf242_b60 hd a0 ha0 i1 r10_2.1 r17_3.1 r17_3.2 _ h
          · rw [if_neg (of_decide_eq_false hb)] at h
            refine go_le (lv1 := [(0, .ref a0), (1, .int i1), (2, .int r10_2.1), (3, .int r17_3.1)]) (aLe_of (show (List.map (fun q => q.1) ([(0, .ref a0), (1, .int i1), (2, .int r10_2.1), (3, .int r17_3.1)] : ALv)).Nodup from (by show ([0, 1, 2, 3] : List Nat).Nodup; decide)) (aSubL_cons rfl (aSubL_cons rfl (aSubL_cons rfl (aSubL_cons rfl aSubL_nil))))) ?_
            exact Tf242_b56 hd a0 ha0 i1 r10_2.1 r17_3.1 r17_3.2 _ h
-- KernelGymModel.others (III)V
def f233_b45 (kad : Nat → Nat) (N : Nat) (Z : AZ) (a0 : Nat) (s0 : Int32) (I : AI) : Option (Unit × AI) :=
  (wB I a0 30 s0).bind fun I45_1 =>
  (f220 kad N Z a0 I45_1).bind fun r50_2 =>
  (wI r50_2.2 a0 27 r50_2.1).bind fun I53_3 =>
  (wI I53_3 a0 31 (1 : Int32)).bind fun I58_4 =>
  some ((), I58_4)
set_option maxRecDepth 20000 in
theorem Tf233_b45 {kad : Nat → Nat} {N : Nat} {Z : AZ} {d : Nat} {t : Option Nat × (Nat × Nat)} (hd : 4 ≤ d) : ∀ (a0 : Nat) (ha0 : sh11 kad Z a0) (s0 : Int32) (I : AI) (r : Unit × AI), f233_b45 kad N Z a0 s0 I = some r → aGo kad d 233 (45, ([(0, .ref a0)], [.int s0, .ref a0])) (aMem Z I, t) (qV Z t r) := by
  intro a0 ha0 s0 I r h
  unfold f233_b45 at h
  obtain ⟨I45_1, hxI45_1, h⟩ := Option.bind_eq_some_iff.mp h
  refine gg_pB aMi233 rfl rfl rfl rfl (by decide) (pB_of (sh11_z ha0) hxI45_1) ?_
  refine go_ops aMi233 2 _ (f1 := (50, ([(0, .ref a0)], [.ref a0, .ref a0]))) rfl ?_
  obtain ⟨r50_2, hxr50_2, h⟩ := Option.bind_eq_some_iff.mp h
  refine gg_cv (as := []) (r := [.ref a0]) aMi233 rfl rfl rfl aMi220 (Nat.le_of_ble_eq_true rfl) rfl (Nat.le_of_ble_eq_true rfl) (Nat.le_of_ble_eq_true rfl) (by omega) (isK_of (sh11_z ha0)) (Tf220 (by omega) a0 ha0 I45_1 _ hxr50_2) ?_
  show aGo kad d 233 (53, ([(0, .ref a0)], [.int r50_2.1, .ref a0])) (aMem Z r50_2.2, t) _
  obtain ⟨I53_3, hxI53_3, h⟩ := Option.bind_eq_some_iff.mp h
  refine gg_pI aMi233 rfl rfl rfl rfl (by decide) (pI_of (sh11_z ha0) hxI53_3) ?_
  refine go_ops aMi233 2 _ (f1 := (58, ([(0, .ref a0)], [.int (1 : Int32), .ref a0]))) rfl ?_
  obtain ⟨I58_4, hxI58_4, h⟩ := Option.bind_eq_some_iff.mp h
  refine gg_pB aMi233 rfl rfl rfl rfl (by decide) (pB_lit (sh11_z ha0) (Or.inr rfl) hxI58_4) ?_
  cases h
  exact go_ret aMi233 rfl rfl ⟨rfl, rfl⟩
def f233_b26 (kad : Nat → Nat) (N : Nat) (Z : AZ) (a0 : Nat) (i4 : Int32) (s0 : Int32) (I : AI) : Option (Unit × AI) :=
  (wB I a0 29 s0).bind fun I26_1 =>
  if ¬ ((i4 / (2 : Int32)) - (i4 / (2 : Int32)) / (2 : Int32) * (2 : Int32)) = (1 : Int32) then
    f233_b45 kad N Z a0 (0 : Int32) I26_1
  else
    f233_b45 kad N Z a0 (1 : Int32) I26_1
set_option maxRecDepth 20000 in
theorem Tf233_b26 {kad : Nat → Nat} {N : Nat} {Z : AZ} {d : Nat} {t : Option Nat × (Nat × Nat)} (hd : 4 ≤ d) : ∀ (a0 : Nat) (ha0 : sh11 kad Z a0) (i4 : Int32) (s0 : Int32) (I : AI) (r : Unit × AI), f233_b26 kad N Z a0 i4 s0 I = some r → aGo kad d 233 (26, ([(0, .ref a0), (4, .int i4)], [.int s0, .ref a0])) (aMem Z I, t) (qV Z t r) := by
  intro a0 ha0 i4 s0 I r h
  unfold f233_b26 at h
  obtain ⟨I26_1, hxI26_1, h⟩ := Option.bind_eq_some_iff.mp h
  refine gg_pB aMi233 rfl rfl rfl rfl (by decide) (pB_of (sh11_z ha0) hxI26_1) ?_
  refine go_ops aMi233 7 _ (f1 := (37, ([(0, .ref a0), (4, .int i4)], [.int (1 : Int32), .int ((i4 / (2 : Int32)) - (i4 / (2 : Int32)) / (2 : Int32) * (2 : Int32)), .ref a0]))) rfl ?_
  refine gg_br (b := decide (¬ ((i4 / (2 : Int32)) - (i4 / (2 : Int32)) / (2 : Int32) * (2 : Int32)) = (1 : Int32))) (tg := 44) (off := 7) aMi233 rfl rfl rfl rfl (fun hb => ?_) (fun hb => ?_)
  · rw [if_pos (of_decide_eq_true hb)] at h
    refine go_ops aMi233 1 _ (f1 := (45, ([(0, .ref a0), (4, .int i4)], [.int (0 : Int32), .ref a0]))) rfl ?_
    refine go_le (lv1 := [(0, .ref a0)]) (aLe_of (show (List.map (fun q => q.1) ([(0, .ref a0)] : ALv)).Nodup from (by show ([0] : List Nat).Nodup; decide)) (aSubL_cons rfl aSubL_nil)) ?_
    exact Tf233_b45 hd a0 ha0 (0 : Int32) I26_1 _ h
  · rw [if_neg (of_decide_eq_false hb)] at h
    refine go_ops aMi233 2 _ (f1 := (45, ([(0, .ref a0), (4, .int i4)], [.int (1 : Int32), .ref a0]))) rfl ?_
    refine go_le (lv1 := [(0, .ref a0)]) (aLe_of (show (List.map (fun q => q.1) ([(0, .ref a0)] : ALv)).Nodup from (by show ([0] : List Nat).Nodup; decide)) (aSubL_cons rfl aSubL_nil)) ?_
    exact Tf233_b45 hd a0 ha0 (1 : Int32) I26_1 _ h
def f233_b246 (kad : Nat → Nat) (N : Nat) (Z : AZ) (a0 : Nat) (I : AI) : Option (Unit × AI) :=
  some ((), I)
set_option maxRecDepth 20000 in
theorem Tf233_b246 {kad : Nat → Nat} {N : Nat} {Z : AZ} {d : Nat} {t : Option Nat × (Nat × Nat)} (hd : 4 ≤ d) : ∀ (a0 : Nat) (ha0 : sh11 kad Z a0) (I : AI) (r : Unit × AI), f233_b246 kad N Z a0 I = some r → aGo kad d 233 (246, ([], [])) (aMem Z I, t) (qV Z t r) := by
  intro a0 ha0 I r h
  unfold f233_b246 at h
  cases h
  exact go_ret aMi233 rfl rfl ⟨rfl, rfl⟩
def f233_b220 (kad : Nat → Nat) (N : Nat) (Z : AZ) (a0 : Nat) (i1 : Int32) (i3 : Int32) (I : AI) : Option (Unit × AI) :=
  if ¬ i1 = (25 : Int32) then
    f233_b246 kad N Z a0 I
  else
    (ixA 60 (I a0 37)).bind fun j235_2 =>
    (wI I (a0 + 17) j235_2 i3).bind fun I235_1 =>
    (wI I235_1 a0 37 ((I235_1 a0 37) + (1 : Int32))).bind fun I243_3 =>
    f233_b246 kad N Z a0 I243_3
set_option maxRecDepth 20000 in
theorem Tf233_b220 {kad : Nat → Nat} {N : Nat} {Z : AZ} {d : Nat} {t : Option Nat × (Nat × Nat)} (hd : 4 ≤ d) : ∀ (a0 : Nat) (ha0 : sh11 kad Z a0) (i1 : Int32) (i3 : Int32) (I : AI) (r : Unit × AI), f233_b220 kad N Z a0 i1 i3 I = some r → aGo kad d 233 (220, ([(0, .ref a0), (1, .int i1), (3, .int i3)], [])) (aMem Z I, t) (qV Z t r) := by
  intro a0 ha0 i1 i3 I r h
  unfold f233_b220 at h
  refine go_ops aMi233 2 _ (f1 := (223, ([(0, .ref a0), (1, .int i1), (3, .int i3)], [.int (25 : Int32), .int i1]))) rfl ?_
  refine gg_br (b := decide (¬ i1 = (25 : Int32))) (tg := 246) (off := 23) aMi233 rfl rfl rfl rfl (fun hb => ?_) (fun hb => ?_)
  · rw [if_pos (of_decide_eq_true hb)] at h
    refine go_le (lv1 := []) (aLe_of (show (List.map (fun q => q.1) ([] : ALv)).Nodup from (by show ([] : List Nat).Nodup; decide)) aSubL_nil) ?_
    exact Tf233_b246 hd a0 ha0 I _ h
  · rw [if_neg (of_decide_eq_false hb)] at h
    refine go_ops aMi233 1 _ (f1 := (227, ([(0, .ref a0), (1, .int i1), (3, .int i3)], [.ref a0]))) rfl ?_
    refine gg_gR (b := (a0 + 17)) aMi233 rfl rfl rfl (gR_of (sh11_z ha0) (sh11_r36 ha0)) ?_
    refine go_ops aMi233 1 _ (f1 := (231, ([(0, .ref a0), (1, .int i1), (3, .int i3)], [.ref a0, .ref (a0 + 17)]))) rfl ?_
    refine gg_gI aMi233 rfl rfl rfl (gI_of (sh11_z ha0)) ?_
    refine go_ops aMi233 1 _ (f1 := (235, ([(0, .ref a0), (1, .int i1), (3, .int i3)], [.int i3, .int (I a0 37), .ref (a0 + 17)]))) rfl ?_
    obtain ⟨j235_2, hxj235_2, h⟩ := Option.bind_eq_some_iff.mp h
    obtain ⟨I235_1, hxI235_1, h⟩ := Option.bind_eq_some_iff.mp h
    refine gg_sI (Or.inl ⟨rfl, rfl⟩) aMi233 rfl (sI_of (sh11_a36 ha0) hxj235_2 hxI235_1) ?_
    refine go_ops aMi233 2 _ (f1 := (238, ([(0, .ref a0), (1, .int i1), (3, .int i3)], [.ref a0, .ref a0]))) rfl ?_
    refine gg_gI aMi233 rfl rfl rfl (gI_of (sh11_z ha0)) ?_
    refine go_ops aMi233 2 _ (f1 := (243, ([(0, .ref a0), (1, .int i1), (3, .int i3)], [.int ((I235_1 a0 37) + (1 : Int32)), .ref a0]))) rfl ?_
    obtain ⟨I243_3, hxI243_3, h⟩ := Option.bind_eq_some_iff.mp h
    refine gg_pI aMi233 rfl rfl rfl rfl (by decide) (pI_of (sh11_z ha0) hxI243_3) ?_
    refine go_le (lv1 := []) (aLe_of (show (List.map (fun q => q.1) ([] : ALv)).Nodup from (by show ([] : List Nat).Nodup; decide)) aSubL_nil) ?_
    exact Tf233_b246 hd a0 ha0 I243_3 _ h
def f233_b216 (kad : Nat → Nat) (N : Nat) (Z : AZ) (a0 : Nat) (i1 : Int32) (i3 : Int32) (s0 : Int32) (s1 : Int32) (I : AI) : Option (Unit × AI) :=
  (wI I a0 39 (s1 + s0)).bind fun I217_1 =>
  f233_b220 kad N Z a0 i1 i3 I217_1
set_option maxRecDepth 20000 in
theorem Tf233_b216 {kad : Nat → Nat} {N : Nat} {Z : AZ} {d : Nat} {t : Option Nat × (Nat × Nat)} (hd : 4 ≤ d) : ∀ (a0 : Nat) (ha0 : sh11 kad Z a0) (i1 : Int32) (i3 : Int32) (s0 : Int32) (s1 : Int32) (I : AI) (r : Unit × AI), f233_b216 kad N Z a0 i1 i3 s0 s1 I = some r → aGo kad d 233 (216, ([(0, .ref a0), (1, .int i1), (3, .int i3)], [.int s0, .int s1, .ref a0])) (aMem Z I, t) (qV Z t r) := by
  intro a0 ha0 i1 i3 s0 s1 I r h
  unfold f233_b216 at h
  refine go_ops aMi233 1 _ (f1 := (217, ([(0, .ref a0), (1, .int i1), (3, .int i3)], [.int (s1 + s0), .ref a0]))) rfl ?_
  obtain ⟨I217_1, hxI217_1, h⟩ := Option.bind_eq_some_iff.mp h
  refine gg_pI aMi233 rfl rfl rfl rfl (by decide) (pI_of (sh11_z ha0) hxI217_1) ?_
  exact Tf233_b220 hd a0 ha0 i1 i3 I217_1 _ h
def f233_b200 (kad : Nat → Nat) (N : Nat) (Z : AZ) (a0 : Nat) (i1 : Int32) (i3 : Int32) (i4 : Int32) (s0 : Int32) (s1 : Int32) (I : AI) : Option (Unit × AI) :=
  (ixA 4 s1).bind fun j200_2 =>
  (wI I (a0 + 16) j200_2 s0).bind fun I200_1 =>
  if i4 = 0 then
    f233_b216 kad N Z a0 i1 i3 (0 : Int32) (I200_1 a0 39) I200_1
  else
    f233_b216 kad N Z a0 i1 i3 (1 : Int32) (I200_1 a0 39) I200_1
set_option maxRecDepth 20000 in
theorem Tf233_b200 {kad : Nat → Nat} {N : Nat} {Z : AZ} {d : Nat} {t : Option Nat × (Nat × Nat)} (hd : 4 ≤ d) : ∀ (a0 : Nat) (ha0 : sh11 kad Z a0) (i1 : Int32) (i3 : Int32) (i4 : Int32) (s0 : Int32) (s1 : Int32) (I : AI) (r : Unit × AI), f233_b200 kad N Z a0 i1 i3 i4 s0 s1 I = some r → aGo kad d 233 (200, ([(0, .ref a0), (1, .int i1), (3, .int i3), (4, .int i4)], [.int s0, .int s1, .ref (a0 + 16)])) (aMem Z I, t) (qV Z t r) := by
  intro a0 ha0 i1 i3 i4 s0 s1 I r h
  unfold f233_b200 at h
  obtain ⟨j200_2, hxj200_2, h⟩ := Option.bind_eq_some_iff.mp h
  obtain ⟨I200_1, hxI200_1, h⟩ := Option.bind_eq_some_iff.mp h
  refine gg_sI (Or.inl ⟨rfl, rfl⟩) aMi233 rfl (sI_of (sh11_a26 ha0) hxj200_2 hxI200_1) ?_
  refine go_ops aMi233 2 _ (f1 := (203, ([(0, .ref a0), (1, .int i1), (3, .int i3), (4, .int i4)], [.ref a0, .ref a0]))) rfl ?_
  refine gg_gI aMi233 rfl rfl rfl (gI_of (sh11_z ha0)) ?_
  refine go_ops aMi233 1 _ (f1 := (208, ([(0, .ref a0), (1, .int i1), (3, .int i3), (4, .int i4)], [.int i4, .int (I200_1 a0 39), .ref a0]))) rfl ?_
  refine gg_br (b := decide (i4 = 0)) (tg := 215) (off := 7) aMi233 rfl rfl rfl rfl (fun hb => ?_) (fun hb => ?_)
  · rw [if_pos (of_decide_eq_true hb)] at h
    refine go_ops aMi233 1 _ (f1 := (216, ([(0, .ref a0), (1, .int i1), (3, .int i3), (4, .int i4)], [.int (0 : Int32), .int (I200_1 a0 39), .ref a0]))) rfl ?_
    refine go_le (lv1 := [(0, .ref a0), (1, .int i1), (3, .int i3)]) (aLe_of (show (List.map (fun q => q.1) ([(0, .ref a0), (1, .int i1), (3, .int i3)] : ALv)).Nodup from (by show ([0, 1, 3] : List Nat).Nodup; decide)) (aSubL_cons rfl (aSubL_cons rfl (aSubL_cons rfl aSubL_nil)))) ?_
    exact Tf233_b216 hd a0 ha0 i1 i3 (0 : Int32) (I200_1 a0 39) I200_1 _ h
  · rw [if_neg (of_decide_eq_false hb)] at h
    refine go_ops aMi233 2 _ (f1 := (216, ([(0, .ref a0), (1, .int i1), (3, .int i3), (4, .int i4)], [.int (1 : Int32), .int (I200_1 a0 39), .ref a0]))) rfl ?_
    refine go_le (lv1 := [(0, .ref a0), (1, .int i1), (3, .int i3)]) (aLe_of (show (List.map (fun q => q.1) ([(0, .ref a0), (1, .int i1), (3, .int i3)] : ALv)).Nodup from (by show ([0, 1, 3] : List Nat).Nodup; decide)) (aSubL_cons rfl (aSubL_cons rfl (aSubL_cons rfl aSubL_nil)))) ?_
    exact Tf233_b216 hd a0 ha0 i1 i3 (1 : Int32) (I200_1 a0 39) I200_1 _ h
def f233_b174 (kad : Nat → Nat) (N : Nat) (Z : AZ) (a0 : Nat) (i1 : Int32) (i2 : Int32) (i3 : Int32) (s0 : Int32) (I : AI) : Option (Unit × AI) :=
  if s0 = 0 then
    f233_b200 kad N Z a0 i1 i3 s0 (65535 : Int32) i2 I
  else
    (ixA 20 (I a0 39)).bind fun j194_1 =>
    f233_b200 kad N Z a0 i1 i3 s0 (I (a0 + 19) j194_1) i2 I
set_option maxRecDepth 20000 in
theorem Tf233_b174 {kad : Nat → Nat} {N : Nat} {Z : AZ} {d : Nat} {t : Option Nat × (Nat × Nat)} (hd : 4 ≤ d) : ∀ (a0 : Nat) (ha0 : sh11 kad Z a0) (i1 : Int32) (i2 : Int32) (i3 : Int32) (s0 : Int32) (I : AI) (r : Unit × AI), f233_b174 kad N Z a0 i1 i2 i3 s0 I = some r → aGo kad d 233 (174, ([(0, .ref a0), (1, .int i1), (2, .int i2), (3, .int i3)], [.int s0])) (aMem Z I, t) (qV Z t r) := by
  intro a0 ha0 i1 i2 i3 s0 I r h
  unfold f233_b174 at h
  refine go_ops aMi233 2 _ (f1 := (177, ([(4, .int s0), (0, .ref a0), (1, .int i1), (2, .int i2), (3, .int i3)], [.ref a0]))) rfl ?_
  refine gg_gR (b := (a0 + 16)) aMi233 rfl rfl rfl (gR_of (sh11_z ha0) (sh11_r26 ha0)) ?_
  refine go_ops aMi233 2 _ (f1 := (183, ([(4, .int s0), (0, .ref a0), (1, .int i1), (2, .int i2), (3, .int i3)], [.int s0, .int i2, .ref (a0 + 16)]))) rfl ?_
  refine gg_br (b := decide (s0 = 0)) (tg := 198) (off := 15) aMi233 rfl rfl rfl rfl (fun hb => ?_) (fun hb => ?_)
  · rw [if_pos (of_decide_eq_true hb)] at h
    refine gg_kI (Or.inl ⟨rfl, rfl⟩) aMi233 rfl rfl ?_
    refine go_le (lv1 := [(0, .ref a0), (1, .int i1), (3, .int i3), (4, .int s0)]) (aLe_of (show (List.map (fun q => q.1) ([(0, .ref a0), (1, .int i1), (3, .int i3), (4, .int s0)] : ALv)).Nodup from (by show ([0, 1, 3, 4] : List Nat).Nodup; decide)) (aSubL_cons rfl (aSubL_cons rfl (aSubL_cons rfl (aSubL_cons rfl aSubL_nil))))) ?_
    exact Tf233_b200 hd a0 ha0 i1 i3 s0 (65535 : Int32) i2 I _ h
  · rw [if_neg (of_decide_eq_false hb)] at h
    refine go_ops aMi233 1 _ (f1 := (187, ([(4, .int s0), (0, .ref a0), (1, .int i1), (2, .int i2), (3, .int i3)], [.ref a0, .int i2, .ref (a0 + 16)]))) rfl ?_
    refine gg_gR (b := (a0 + 19)) aMi233 rfl rfl rfl (gR_of (sh11_z ha0) (sh11_r42 ha0)) ?_
    refine go_ops aMi233 1 _ (f1 := (191, ([(4, .int s0), (0, .ref a0), (1, .int i1), (2, .int i2), (3, .int i3)], [.ref a0, .ref (a0 + 19), .int i2, .ref (a0 + 16)]))) rfl ?_
    refine gg_gI aMi233 rfl rfl rfl (gI_of (sh11_z ha0)) ?_
    obtain ⟨j194_1, hxj194_1, h⟩ := Option.bind_eq_some_iff.mp h
    refine gg_lI (Or.inl ⟨rfl, rfl⟩) aMi233 rfl (lI_of (sh11_a42 ha0) hxj194_1) ?_
    refine go_ops aMi233 1 _ (f1 := (200, ([(4, .int s0), (0, .ref a0), (1, .int i1), (2, .int i2), (3, .int i3)], [.int (I (a0 + 19) j194_1), .int i2, .ref (a0 + 16)]))) rfl ?_
    refine go_le (lv1 := [(0, .ref a0), (1, .int i1), (3, .int i3), (4, .int s0)]) (aLe_of (show (List.map (fun q => q.1) ([(0, .ref a0), (1, .int i1), (3, .int i3), (4, .int s0)] : ALv)).Nodup from (by show ([0, 1, 3, 4] : List Nat).Nodup; decide)) (aSubL_cons rfl (aSubL_cons rfl (aSubL_cons rfl (aSubL_cons rfl aSubL_nil))))) ?_
    exact Tf233_b200 hd a0 ha0 i1 i3 s0 (I (a0 + 19) j194_1) i2 I _ h
def f233_b152 (kad : Nat → Nat) (N : Nat) (Z : AZ) (a0 : Nat) (i1 : Int32) (i2 : Int32) (i3 : Int32) (I : AI) : Option (Unit × AI) :=
  if ¬ i1 = (24 : Int32) then
    f233_b220 kad N Z a0 i1 i3 I
  else
    (f225 kad N Z a0 I).bind fun r163_1 =>
    if r163_1.1 ≤ (I a0 39) then
      f233_b174 kad N Z a0 i1 i2 i3 (0 : Int32) r163_1.2
    else
      f233_b174 kad N Z a0 i1 i2 i3 (1 : Int32) r163_1.2
set_option maxRecDepth 20000 in
theorem Tf233_b152 {kad : Nat → Nat} {N : Nat} {Z : AZ} {d : Nat} {t : Option Nat × (Nat × Nat)} (hd : 4 ≤ d) : ∀ (a0 : Nat) (ha0 : sh11 kad Z a0) (i1 : Int32) (i2 : Int32) (i3 : Int32) (I : AI) (r : Unit × AI), f233_b152 kad N Z a0 i1 i2 i3 I = some r → aGo kad d 233 (152, ([(0, .ref a0), (1, .int i1), (2, .int i2), (3, .int i3)], [])) (aMem Z I, t) (qV Z t r) := by
  intro a0 ha0 i1 i2 i3 I r h
  unfold f233_b152 at h
  refine go_ops aMi233 2 _ (f1 := (155, ([(0, .ref a0), (1, .int i1), (2, .int i2), (3, .int i3)], [.int (24 : Int32), .int i1]))) rfl ?_
  refine gg_br (b := decide (¬ i1 = (24 : Int32))) (tg := 220) (off := 65) aMi233 rfl rfl rfl rfl (fun hb => ?_) (fun hb => ?_)
  · rw [if_pos (of_decide_eq_true hb)] at h
    refine go_le (lv1 := [(0, .ref a0), (1, .int i1), (3, .int i3)]) (aLe_of (show (List.map (fun q => q.1) ([(0, .ref a0), (1, .int i1), (3, .int i3)] : ALv)).Nodup from (by show ([0, 1, 3] : List Nat).Nodup; decide)) (aSubL_cons rfl (aSubL_cons rfl (aSubL_cons rfl aSubL_nil)))) ?_
    exact Tf233_b220 hd a0 ha0 i1 i3 I _ h
  · rw [if_neg (of_decide_eq_false hb)] at h
    refine go_ops aMi233 1 _ (f1 := (159, ([(0, .ref a0), (1, .int i1), (2, .int i2), (3, .int i3)], [.ref a0]))) rfl ?_
    refine gg_gI aMi233 rfl rfl rfl (gI_of (sh11_z ha0)) ?_
    refine go_ops aMi233 1 _ (f1 := (163, ([(0, .ref a0), (1, .int i1), (2, .int i2), (3, .int i3)], [.ref a0, .int (I a0 39)]))) rfl ?_
    obtain ⟨r163_1, hxr163_1, h⟩ := Option.bind_eq_some_iff.mp h
    refine gg_cv (as := []) (r := [.int (I a0 39)]) aMi233 rfl rfl rfl aMi225 (Nat.le_of_ble_eq_true rfl) rfl (Nat.le_of_ble_eq_true rfl) (Nat.le_of_ble_eq_true rfl) (by omega) (isK_of (sh11_z ha0)) (Tf225 (by omega) a0 ha0 I _ hxr163_1) ?_
    show aGo kad d 233 (166, ([(0, .ref a0), (1, .int i1), (2, .int i2), (3, .int i3)], [.int r163_1.1, .int (I a0 39)])) (aMem Z r163_1.2, t) _
    refine gg_br (b := decide (r163_1.1 ≤ (I a0 39))) (tg := 173) (off := 7) aMi233 rfl rfl rfl rfl (fun hb => ?_) (fun hb => ?_)
    · rw [if_pos (of_decide_eq_true hb)] at h
      refine go_ops aMi233 1 _ (f1 := (174, ([(0, .ref a0), (1, .int i1), (2, .int i2), (3, .int i3)], [.int (0 : Int32)]))) rfl ?_
      exact Tf233_b174 hd a0 ha0 i1 i2 i3 (0 : Int32) r163_1.2 _ h
    · rw [if_neg (of_decide_eq_false hb)] at h
      refine go_ops aMi233 2 _ (f1 := (174, ([(0, .ref a0), (1, .int i1), (2, .int i2), (3, .int i3)], [.int (1 : Int32)]))) rfl ?_
      exact Tf233_b174 hd a0 ha0 i1 i2 i3 (1 : Int32) r163_1.2 _ h
def f233_b133 (kad : Nat → Nat) (N : Nat) (Z : AZ) (a0 : Nat) (i1 : Int32) (i2 : Int32) (i3 : Int32) (s0 : Int32) (I : AI) : Option (Unit × AI) :=
  (wB I a0 31 s0).bind fun I133_1 =>
  if ¬ i1 = (23 : Int32) then
    f233_b152 kad N Z a0 i1 i2 i3 I133_1
  else
    (wI I133_1 a0 34 i3).bind fun I144_2 =>
    (wI I144_2 a0 35 (0 : Int32)).bind fun I149_3 =>
    f233_b152 kad N Z a0 i1 i2 i3 I149_3
set_option maxRecDepth 20000 in
theorem Tf233_b133 {kad : Nat → Nat} {N : Nat} {Z : AZ} {d : Nat} {t : Option Nat × (Nat × Nat)} (hd : 4 ≤ d) : ∀ (a0 : Nat) (ha0 : sh11 kad Z a0) (i1 : Int32) (i2 : Int32) (i3 : Int32) (s0 : Int32) (I : AI) (r : Unit × AI), f233_b133 kad N Z a0 i1 i2 i3 s0 I = some r → aGo kad d 233 (133, ([(0, .ref a0), (1, .int i1), (2, .int i2), (3, .int i3)], [.int s0, .ref a0])) (aMem Z I, t) (qV Z t r) := by
  intro a0 ha0 i1 i2 i3 s0 I r h
  unfold f233_b133 at h
  obtain ⟨I133_1, hxI133_1, h⟩ := Option.bind_eq_some_iff.mp h
  refine gg_pB aMi233 rfl rfl rfl rfl (by decide) (pB_of (sh11_z ha0) hxI133_1) ?_
  refine go_ops aMi233 2 _ (f1 := (139, ([(0, .ref a0), (1, .int i1), (2, .int i2), (3, .int i3)], [.int (23 : Int32), .int i1]))) rfl ?_
  refine gg_br (b := decide (¬ i1 = (23 : Int32))) (tg := 152) (off := 13) aMi233 rfl rfl rfl rfl (fun hb => ?_) (fun hb => ?_)
  · rw [if_pos (of_decide_eq_true hb)] at h
    exact Tf233_b152 hd a0 ha0 i1 i2 i3 I133_1 _ h
  · rw [if_neg (of_decide_eq_false hb)] at h
    refine go_ops aMi233 2 _ (f1 := (144, ([(0, .ref a0), (1, .int i1), (2, .int i2), (3, .int i3)], [.int i3, .ref a0]))) rfl ?_
    obtain ⟨I144_2, hxI144_2, h⟩ := Option.bind_eq_some_iff.mp h
    refine gg_pI aMi233 rfl rfl rfl rfl (by decide) (pI_of (sh11_z ha0) hxI144_2) ?_
    refine go_ops aMi233 2 _ (f1 := (149, ([(0, .ref a0), (1, .int i1), (2, .int i2), (3, .int i3)], [.int (0 : Int32), .ref a0]))) rfl ?_
    obtain ⟨I149_3, hxI149_3, h⟩ := Option.bind_eq_some_iff.mp h
    refine gg_pI aMi233 rfl rfl rfl rfl (by decide) (pI_of (sh11_z ha0) hxI149_3) ?_
    exact Tf233_b152 hd a0 ha0 i1 i2 i3 I149_3 _ h
def f233_b128 (kad : Nat → Nat) (N : Nat) (Z : AZ) (a0 : Nat) (i1 : Int32) (i2 : Int32) (i3 : Int32) (I : AI) : Option (Unit × AI) :=
  f233_b133 kad N Z a0 i1 i2 i3 (1 : Int32) I
set_option maxRecDepth 20000 in
theorem Tf233_b128 {kad : Nat → Nat} {N : Nat} {Z : AZ} {d : Nat} {t : Option Nat × (Nat × Nat)} (hd : 4 ≤ d) : ∀ (a0 : Nat) (ha0 : sh11 kad Z a0) (i1 : Int32) (i2 : Int32) (i3 : Int32) (I : AI) (r : Unit × AI), f233_b128 kad N Z a0 i1 i2 i3 I = some r → aGo kad d 233 (128, ([(0, .ref a0), (1, .int i1), (2, .int i2), (3, .int i3)], [.ref a0])) (aMem Z I, t) (qV Z t r) := by
  intro a0 ha0 i1 i2 i3 I r h
  unfold f233_b128 at h
  refine go_ops aMi233 2 _ (f1 := (133, ([(0, .ref a0), (1, .int i1), (2, .int i2), (3, .int i3)], [.int (1 : Int32), .ref a0]))) rfl ?_
  exact Tf233_b133 hd a0 ha0 i1 i2 i3 (1 : Int32) I _ h
def f233_b132 (kad : Nat → Nat) (N : Nat) (Z : AZ) (a0 : Nat) (i1 : Int32) (i2 : Int32) (i3 : Int32) (I : AI) : Option (Unit × AI) :=
  f233_b133 kad N Z a0 i1 i2 i3 (0 : Int32) I
set_option maxRecDepth 20000 in
theorem Tf233_b132 {kad : Nat → Nat} {N : Nat} {Z : AZ} {d : Nat} {t : Option Nat × (Nat × Nat)} (hd : 4 ≤ d) : ∀ (a0 : Nat) (ha0 : sh11 kad Z a0) (i1 : Int32) (i2 : Int32) (i3 : Int32) (I : AI) (r : Unit × AI), f233_b132 kad N Z a0 i1 i2 i3 I = some r → aGo kad d 233 (132, ([(0, .ref a0), (1, .int i1), (2, .int i2), (3, .int i3)], [.ref a0])) (aMem Z I, t) (qV Z t r) := by
  intro a0 ha0 i1 i2 i3 I r h
  unfold f233_b132 at h
  refine go_ops aMi233 1 _ (f1 := (133, ([(0, .ref a0), (1, .int i1), (2, .int i2), (3, .int i3)], [.int (0 : Int32), .ref a0]))) rfl ?_
  exact Tf233_b133 hd a0 ha0 i1 i2 i3 (0 : Int32) I _ h
def f233_b104 (kad : Nat → Nat) (N : Nat) (Z : AZ) (a0 : Nat) (i1 : Int32) (i2 : Int32) (i3 : Int32) (s0 : Int32) (s1 : Int32) (I : AI) : Option (Unit × AI) :=
  (wI I a0 27 (s1 + s0)).bind fun I105_1 =>
  if i1 = (19 : Int32) then
    f233_b128 kad N Z a0 i1 i2 i3 I105_1
  else
    if i1 = (20 : Int32) then
      f233_b132 kad N Z a0 i1 i2 i3 I105_1
    else
      if (I105_1 a0 31) = 0 then
        f233_b132 kad N Z a0 i1 i2 i3 I105_1
      else
        f233_b128 kad N Z a0 i1 i2 i3 I105_1
set_option maxRecDepth 20000 in
theorem Tf233_b104 {kad : Nat → Nat} {N : Nat} {Z : AZ} {d : Nat} {t : Option Nat × (Nat × Nat)} (hd : 4 ≤ d) : ∀ (a0 : Nat) (ha0 : sh11 kad Z a0) (i1 : Int32) (i2 : Int32) (i3 : Int32) (s0 : Int32) (s1 : Int32) (I : AI) (r : Unit × AI), f233_b104 kad N Z a0 i1 i2 i3 s0 s1 I = some r → aGo kad d 233 (104, ([(0, .ref a0), (1, .int i1), (2, .int i2), (3, .int i3)], [.int s0, .int s1, .ref a0])) (aMem Z I, t) (qV Z t r) := by
  intro a0 ha0 i1 i2 i3 s0 s1 I r h
  unfold f233_b104 at h
  refine go_ops aMi233 1 _ (f1 := (105, ([(0, .ref a0), (1, .int i1), (2, .int i2), (3, .int i3)], [.int (s1 + s0), .ref a0]))) rfl ?_
  obtain ⟨I105_1, hxI105_1, h⟩ := Option.bind_eq_some_iff.mp h
  refine gg_pI aMi233 rfl rfl rfl rfl (by decide) (pI_of (sh11_z ha0) hxI105_1) ?_
  refine go_ops aMi233 3 _ (f1 := (112, ([(0, .ref a0), (1, .int i1), (2, .int i2), (3, .int i3)], [.int (19 : Int32), .int i1, .ref a0]))) rfl ?_
  refine gg_br (b := decide (i1 = (19 : Int32))) (tg := 128) (off := 16) aMi233 rfl rfl rfl rfl (fun hb => ?_) (fun hb => ?_)
  · rw [if_pos (of_decide_eq_true hb)] at h
    exact Tf233_b128 hd a0 ha0 i1 i2 i3 I105_1 _ h
  · rw [if_neg (of_decide_eq_false hb)] at h
    refine go_ops aMi233 2 _ (f1 := (118, ([(0, .ref a0), (1, .int i1), (2, .int i2), (3, .int i3)], [.int (20 : Int32), .int i1, .ref a0]))) rfl ?_
    refine gg_br (b := decide (i1 = (20 : Int32))) (tg := 132) (off := 14) aMi233 rfl rfl rfl rfl (fun hb => ?_) (fun hb => ?_)
    · rw [if_pos (of_decide_eq_true hb)] at h
      exact Tf233_b132 hd a0 ha0 i1 i2 i3 I105_1 _ h
    · rw [if_neg (of_decide_eq_false hb)] at h
      refine go_ops aMi233 1 _ (f1 := (122, ([(0, .ref a0), (1, .int i1), (2, .int i2), (3, .int i3)], [.ref a0, .ref a0]))) rfl ?_
      refine gg_gI aMi233 rfl rfl rfl (gI_of (sh11_z ha0)) ?_
      refine gg_br (b := decide ((I105_1 a0 31) = 0)) (tg := 132) (off := 7) aMi233 rfl rfl rfl rfl (fun hb => ?_) (fun hb => ?_)
      · rw [if_pos (of_decide_eq_true hb)] at h
        exact Tf233_b132 hd a0 ha0 i1 i2 i3 I105_1 _ h
      · rw [if_neg (of_decide_eq_false hb)] at h
        exact Tf233_b128 hd a0 ha0 i1 i2 i3 I105_1 _ h
def f233_b103 (kad : Nat → Nat) (N : Nat) (Z : AZ) (a0 : Nat) (i1 : Int32) (i2 : Int32) (i3 : Int32) (s0 : Int32) (I : AI) : Option (Unit × AI) :=
  f233_b104 kad N Z a0 i1 i2 i3 (2 : Int32) s0 I
set_option maxRecDepth 20000 in
theorem Tf233_b103 {kad : Nat → Nat} {N : Nat} {Z : AZ} {d : Nat} {t : Option Nat × (Nat × Nat)} (hd : 4 ≤ d) : ∀ (a0 : Nat) (ha0 : sh11 kad Z a0) (i1 : Int32) (i2 : Int32) (i3 : Int32) (s0 : Int32) (I : AI) (r : Unit × AI), f233_b103 kad N Z a0 i1 i2 i3 s0 I = some r → aGo kad d 233 (103, ([(0, .ref a0), (1, .int i1), (2, .int i2), (3, .int i3)], [.int s0, .ref a0])) (aMem Z I, t) (qV Z t r) := by
  intro a0 ha0 i1 i2 i3 s0 I r h
  unfold f233_b103 at h
  refine go_ops aMi233 1 _ (f1 := (104, ([(0, .ref a0), (1, .int i1), (2, .int i2), (3, .int i3)], [.int (2 : Int32), .int s0, .ref a0]))) rfl ?_
  exact Tf233_b104 hd a0 ha0 i1 i2 i3 (2 : Int32) s0 I _ h
def f233 (kad : Nat → Nat) (N : Nat) (Z : AZ) (a0 : Nat) (i1 : Int32) (i2 : Int32) (i3 : Int32) (I : AI) : Option (Unit × AI) :=
  if ¬ i1 = (21 : Int32) then
    if ¬ i1 = (26 : Int32) then
      if ¬ i1 = (22 : Int32) then
        f233_b103 kad N Z a0 i1 i2 i3 (I a0 27) I
      else
        if ¬ (I a0 32) = 0 then
          f233_b103 kad N Z a0 i1 i2 i3 (I a0 27) I
        else
          if ¬ (I a0 33) = 0 then
            f233_b103 kad N Z a0 i1 i2 i3 (I a0 27) I
          else
            f233_b104 kad N Z a0 i1 i2 i3 (0 : Int32) (I a0 27) I
    else
      (f242 kad N Z a0 i3 I).bind fun r70_1 =>
      some ((), r70_1.2)
  else
    (f220 kad N Z a0 I).bind fun r7_2 =>
    if ¬ (r7_2.1 - r7_2.1 / (2 : Int32) * (2 : Int32)) = (1 : Int32) then
      f233_b26 kad N Z a0 r7_2.1 (0 : Int32) r7_2.2
    else
      f233_b26 kad N Z a0 r7_2.1 (1 : Int32) r7_2.2
set_option maxRecDepth 20000 in
theorem Tf233 {kad : Nat → Nat} {N : Nat} {Z : AZ} {d : Nat} {t : Option Nat × (Nat × Nat)} (hd : 4 ≤ d) : ∀ (a0 : Nat) (ha0 : sh11 kad Z a0) (i1 : Int32) (i2 : Int32) (i3 : Int32) (I : AI) (r : Unit × AI), f233 kad N Z a0 i1 i2 i3 I = some r → aGo kad d 233 (0, ([(0, .ref a0), (1, .int i1), (2, .int i2), (3, .int i3)], [])) (aMem Z I, t) (qV Z t r) := by
  intro a0 ha0 i1 i2 i3 I r h
  unfold f233 at h
  refine go_ops aMi233 2 _ (f1 := (3, ([(0, .ref a0), (1, .int i1), (2, .int i2), (3, .int i3)], [.int (21 : Int32), .int i1]))) rfl ?_
  refine gg_br (b := decide (¬ i1 = (21 : Int32))) (tg := 62) (off := 59) aMi233 rfl rfl rfl rfl (fun hb => ?_) (fun hb => ?_)
  · rw [if_pos (of_decide_eq_true hb)] at h
    refine go_ops aMi233 2 _ (f1 := (65, ([(0, .ref a0), (1, .int i1), (2, .int i2), (3, .int i3)], [.int (26 : Int32), .int i1]))) rfl ?_
    refine gg_br (b := decide (¬ i1 = (26 : Int32))) (tg := 74) (off := 9) aMi233 rfl rfl rfl rfl (fun hb => ?_) (fun hb => ?_)
    · rw [if_pos (of_decide_eq_true hb)] at h
      refine go_ops aMi233 2 _ (f1 := (76, ([(0, .ref a0), (1, .int i1), (2, .int i2), (3, .int i3)], [.ref a0, .ref a0]))) rfl ?_
      refine gg_gI aMi233 rfl rfl rfl (gI_of (sh11_z ha0)) ?_
      refine go_ops aMi233 2 _ (f1 := (82, ([(0, .ref a0), (1, .int i1), (2, .int i2), (3, .int i3)], [.int (22 : Int32), .int i1, .int (I a0 27), .ref a0]))) rfl ?_
      refine gg_br (b := decide (¬ i1 = (22 : Int32))) (tg := 103) (off := 21) aMi233 rfl rfl rfl rfl (fun hb => ?_) (fun hb => ?_)
      · rw [if_pos (of_decide_eq_true hb)] at h
        exact Tf233_b103 hd a0 ha0 i1 i2 i3 (I a0 27) I _ h
      · rw [if_neg (of_decide_eq_false hb)] at h
        refine go_ops aMi233 1 _ (f1 := (86, ([(0, .ref a0), (1, .int i1), (2, .int i2), (3, .int i3)], [.ref a0, .int (I a0 27), .ref a0]))) rfl ?_
        refine gg_gI aMi233 rfl rfl rfl (gI_of (sh11_z ha0)) ?_
        refine gg_br (b := decide (¬ (I a0 32) = 0)) (tg := 103) (off := 14) aMi233 rfl rfl rfl rfl (fun hb => ?_) (fun hb => ?_)
        · rw [if_pos (of_decide_eq_true hb)] at h
          exact Tf233_b103 hd a0 ha0 i1 i2 i3 (I a0 27) I _ h
        · rw [if_neg (of_decide_eq_false hb)] at h
          refine go_ops aMi233 1 _ (f1 := (93, ([(0, .ref a0), (1, .int i1), (2, .int i2), (3, .int i3)], [.ref a0, .int (I a0 27), .ref a0]))) rfl ?_
          refine gg_gI aMi233 rfl rfl rfl (gI_of (sh11_z ha0)) ?_
          refine gg_br (b := decide (¬ (I a0 33) = 0)) (tg := 103) (off := 7) aMi233 rfl rfl rfl rfl (fun hb => ?_) (fun hb => ?_)
          · rw [if_pos (of_decide_eq_true hb)] at h
            exact Tf233_b103 hd a0 ha0 i1 i2 i3 (I a0 27) I _ h
          · rw [if_neg (of_decide_eq_false hb)] at h
            refine go_ops aMi233 2 _ (f1 := (104, ([(0, .ref a0), (1, .int i1), (2, .int i2), (3, .int i3)], [.int (0 : Int32), .int (I a0 27), .ref a0]))) rfl ?_
            exact Tf233_b104 hd a0 ha0 i1 i2 i3 (0 : Int32) (I a0 27) I _ h
    · rw [if_neg (of_decide_eq_false hb)] at h
      refine go_ops aMi233 2 _ (f1 := (70, ([(0, .ref a0), (1, .int i1), (2, .int i2), (3, .int i3)], [.int i3, .ref a0]))) rfl ?_
      obtain ⟨r70_1, hxr70_1, h⟩ := Option.bind_eq_some_iff.mp h
      refine gg_cv (as := [.int i3]) (r := []) aMi233 rfl rfl rfl aMi242 (Nat.le_of_ble_eq_true rfl) rfl (Nat.le_of_ble_eq_true rfl) (Nat.le_of_ble_eq_true rfl) (by omega) (isK_of (sh11_z ha0)) (Tf242 (by omega) a0 ha0 i3 I _ hxr70_1) ?_
      show aGo kad d 233 (73, ([(0, .ref a0), (1, .int i1), (2, .int i2), (3, .int i3)], [])) (aMem Z r70_1.2, t) _
      cases h
      exact go_ret aMi233 rfl rfl ⟨rfl, rfl⟩
  · rw [if_neg (of_decide_eq_false hb)] at h
    refine go_ops aMi233 1 _ (f1 := (7, ([(0, .ref a0), (1, .int i1), (2, .int i2), (3, .int i3)], [.ref a0]))) rfl ?_
    obtain ⟨r7_2, hxr7_2, h⟩ := Option.bind_eq_some_iff.mp h
    refine gg_cv (as := []) (r := []) aMi233 rfl rfl rfl aMi220 (Nat.le_of_ble_eq_true rfl) rfl (Nat.le_of_ble_eq_true rfl) (Nat.le_of_ble_eq_true rfl) (by omega) (isK_of (sh11_z ha0)) (Tf220 (by omega) a0 ha0 I _ hxr7_2) ?_
    show aGo kad d 233 (10, ([(0, .ref a0), (1, .int i1), (2, .int i2), (3, .int i3)], [.int r7_2.1])) (aMem Z r7_2.2, t) _
    refine go_ops aMi233 6 _ (f1 := (18, ([(4, .int r7_2.1), (0, .ref a0), (1, .int i1), (2, .int i2), (3, .int i3)], [.int (1 : Int32), .int (r7_2.1 - r7_2.1 / (2 : Int32) * (2 : Int32)), .ref a0]))) rfl ?_
    refine gg_br (b := decide (¬ (r7_2.1 - r7_2.1 / (2 : Int32) * (2 : Int32)) = (1 : Int32))) (tg := 25) (off := 7) aMi233 rfl rfl rfl rfl (fun hb => ?_) (fun hb => ?_)
    · rw [if_pos (of_decide_eq_true hb)] at h
      refine go_ops aMi233 1 _ (f1 := (26, ([(4, .int r7_2.1), (0, .ref a0), (1, .int i1), (2, .int i2), (3, .int i3)], [.int (0 : Int32), .ref a0]))) rfl ?_
      refine go_le (lv1 := [(0, .ref a0), (4, .int r7_2.1)]) (aLe_of (show (List.map (fun q => q.1) ([(0, .ref a0), (4, .int r7_2.1)] : ALv)).Nodup from (by show ([0, 4] : List Nat).Nodup; decide)) (aSubL_cons rfl (aSubL_cons rfl aSubL_nil))) ?_
      exact Tf233_b26 hd a0 ha0 r7_2.1 (0 : Int32) r7_2.2 _ h
    · rw [if_neg (of_decide_eq_false hb)] at h
      refine go_ops aMi233 2 _ (f1 := (26, ([(4, .int r7_2.1), (0, .ref a0), (1, .int i1), (2, .int i2), (3, .int i3)], [.int (1 : Int32), .ref a0]))) rfl ?_
      refine go_le (lv1 := [(0, .ref a0), (4, .int r7_2.1)]) (aLe_of (show (List.map (fun q => q.1) ([(0, .ref a0), (4, .int r7_2.1)] : ALv)).Nodup from (by show ([0, 4] : List Nat).Nodup; decide)) (aSubL_cons rfl (aSubL_cons rfl aSubL_nil))) ?_
      exact Tf233_b26 hd a0 ha0 r7_2.1 (1 : Int32) r7_2.2 _ h
-- KernelGymModel.instructs ()V
def f228_b161 (kad : Nat → Nat) (N : Nat) (Z : AZ) (a0 : Nat) (I : AI) : Option (Unit × AI) :=
  some ((), I)
set_option maxRecDepth 20000 in
theorem Tf228_b161 {kad : Nat → Nat} {N : Nat} {Z : AZ} {d : Nat} {t : Option Nat × (Nat × Nat)} (hd : 5 ≤ d) : ∀ (a0 : Nat) (ha0 : sh11 kad Z a0) (I : AI) (r : Unit × AI), f228_b161 kad N Z a0 I = some r → aGo kad d 228 (161, ([], [])) (aMem Z I, t) (qV Z t r) := by
  intro a0 ha0 I r h
  unfold f228_b161 at h
  cases h
  exact go_ret aMi228 rfl rfl ⟨rfl, rfl⟩
def f228_b76 (kad : Nat → Nat) (N : Nat) (Z : AZ) (a0 : Nat) (i1 : Int32) (i2 : Int32) (s0 : Int32) (I : AI) : Option (Unit × AI) :=
  (f227 kad N Z a0 (i1 / (16 : Int32)) s0 I).bind fun r85_1 =>
  if r85_1.1 = 0 then
    if (12 : Int32) ≤ (i1 / (16 : Int32)) then
      if (19 : Int32) ≤ (i1 / (16 : Int32)) then
        (f233 kad N Z a0 (i1 / (16 : Int32)) i2 s0 r85_1.2).bind fun r158_2 =>
        f228_b161 kad N Z a0 r158_2.2
      else
        (f232 kad N Z a0 (i1 / (16 : Int32)) i2 s0 r85_1.2).bind fun r144_3 =>
        f228_b161 kad N Z a0 r144_3.2
    else
      (f231 kad N Z a0 (i1 / (16 : Int32)) i2 s0 r85_1.2).bind fun r121_4 =>
      f228_b161 kad N Z a0 r121_4.2
  else
    (f221 kad N Z a0 r85_1.1 r85_1.2).bind fun r98_5 =>
    f228_b161 kad N Z a0 r98_5.2
set_option maxRecDepth 20000 in
theorem Tf228_b76 {kad : Nat → Nat} {N : Nat} {Z : AZ} {d : Nat} {t : Option Nat × (Nat × Nat)} (hd : 5 ≤ d) : ∀ (a0 : Nat) (ha0 : sh11 kad Z a0) (i1 : Int32) (i2 : Int32) (s0 : Int32) (I : AI) (r : Unit × AI), f228_b76 kad N Z a0 i1 i2 s0 I = some r → aGo kad d 228 (76, ([(0, .ref a0), (1, .int i1), (2, .int i2)], [.int s0])) (aMem Z I, t) (qV Z t r) := by
  intro a0 ha0 i1 i2 s0 I r h
  unfold f228_b76 at h
  refine go_ops aMi228 6 _ (f1 := (85, ([(4, .int s0), (0, .ref a0), (1, .int i1), (2, .int i2)], [.int s0, .int (i1 / (16 : Int32)), .ref a0]))) rfl ?_
  obtain ⟨r85_1, hxr85_1, h⟩ := Option.bind_eq_some_iff.mp h
  refine gg_cv (as := [.int (i1 / (16 : Int32)), .int s0]) (r := []) aMi228 rfl rfl rfl aMi227 (Nat.le_of_ble_eq_true rfl) rfl (Nat.le_of_ble_eq_true rfl) (Nat.le_of_ble_eq_true rfl) (by omega) (isK_of (sh11_z ha0)) (Tf227 (by omega) a0 ha0 (i1 / (16 : Int32)) s0 I _ hxr85_1) ?_
  show aGo kad d 228 (88, ([(4, .int s0), (0, .ref a0), (1, .int i1), (2, .int i2)], [.int r85_1.1])) (aMem Z r85_1.2, t) _
  refine go_ops aMi228 2 _ (f1 := (92, ([(5, .int r85_1.1), (4, .int s0), (0, .ref a0), (1, .int i1), (2, .int i2)], [.int r85_1.1]))) rfl ?_
  refine gg_br (b := decide (r85_1.1 = 0)) (tg := 104) (off := 12) aMi228 rfl rfl rfl rfl (fun hb => ?_) (fun hb => ?_)
  · rw [if_pos (of_decide_eq_true hb)] at h
    refine go_ops aMi228 4 _ (f1 := (110, ([(5, .int r85_1.1), (4, .int s0), (0, .ref a0), (1, .int i1), (2, .int i2)], [.int (12 : Int32), .int (i1 / (16 : Int32))]))) rfl ?_
    refine gg_br (b := decide ((12 : Int32) ≤ (i1 / (16 : Int32)))) (tg := 127) (off := 17) aMi228 rfl rfl rfl rfl (fun hb => ?_) (fun hb => ?_)
    · rw [if_pos (of_decide_eq_true hb)] at h
      refine go_ops aMi228 4 _ (f1 := (133, ([(5, .int r85_1.1), (4, .int s0), (0, .ref a0), (1, .int i1), (2, .int i2)], [.int (19 : Int32), .int (i1 / (16 : Int32))]))) rfl ?_
      refine gg_br (b := decide ((19 : Int32) ≤ (i1 / (16 : Int32)))) (tg := 150) (off := 17) aMi228 rfl rfl rfl rfl (fun hb => ?_) (fun hb => ?_)
      · rw [if_pos (of_decide_eq_true hb)] at h
        refine go_ops aMi228 6 _ (f1 := (158, ([(5, .int r85_1.1), (4, .int s0), (0, .ref a0), (1, .int i1), (2, .int i2)], [.int s0, .int i2, .int (i1 / (16 : Int32)), .ref a0]))) rfl ?_
        obtain ⟨r158_2, hxr158_2, h⟩ := Option.bind_eq_some_iff.mp h
        refine gg_cv (as := [.int (i1 / (16 : Int32)), .int i2, .int s0]) (r := []) aMi228 rfl rfl rfl aMi233 (Nat.le_of_ble_eq_true rfl) rfl (Nat.le_of_ble_eq_true rfl) (Nat.le_of_ble_eq_true rfl) (by omega) (isK_of (sh11_z ha0)) (Tf233 (by omega) a0 ha0 (i1 / (16 : Int32)) i2 s0 r85_1.2 _ hxr158_2) ?_
        show aGo kad d 228 (161, ([(5, .int r85_1.1), (4, .int s0), (0, .ref a0), (1, .int i1), (2, .int i2)], [])) (aMem Z r158_2.2, t) _
        refine go_le (lv1 := []) (aLe_of (show (List.map (fun q => q.1) ([] : ALv)).Nodup from (by show ([] : List Nat).Nodup; decide)) aSubL_nil) ?_
        exact Tf228_b161 hd a0 ha0 r158_2.2 _ h
      · rw [if_neg (of_decide_eq_false hb)] at h
        refine go_ops aMi228 6 _ (f1 := (144, ([(5, .int r85_1.1), (4, .int s0), (0, .ref a0), (1, .int i1), (2, .int i2)], [.int s0, .int i2, .int (i1 / (16 : Int32)), .ref a0]))) rfl ?_
        obtain ⟨r144_3, hxr144_3, h⟩ := Option.bind_eq_some_iff.mp h
        refine gg_cv (as := [.int (i1 / (16 : Int32)), .int i2, .int s0]) (r := []) aMi228 rfl rfl rfl aMi232 (Nat.le_of_ble_eq_true rfl) rfl (Nat.le_of_ble_eq_true rfl) (Nat.le_of_ble_eq_true rfl) (by omega) (isK_of (sh11_z ha0)) (Tf232 (by omega) a0 ha0 (i1 / (16 : Int32)) i2 s0 r85_1.2 _ hxr144_3) ?_
        show aGo kad d 228 (147, ([(5, .int r85_1.1), (4, .int s0), (0, .ref a0), (1, .int i1), (2, .int i2)], [])) (aMem Z r144_3.2, t) _
        refine go_ops aMi228 1 _ (f1 := (161, ([(5, .int r85_1.1), (4, .int s0), (0, .ref a0), (1, .int i1), (2, .int i2)], []))) rfl ?_
        refine go_le (lv1 := []) (aLe_of (show (List.map (fun q => q.1) ([] : ALv)).Nodup from (by show ([] : List Nat).Nodup; decide)) aSubL_nil) ?_
        exact Tf228_b161 hd a0 ha0 r144_3.2 _ h
    · rw [if_neg (of_decide_eq_false hb)] at h
      refine go_ops aMi228 6 _ (f1 := (121, ([(5, .int r85_1.1), (4, .int s0), (0, .ref a0), (1, .int i1), (2, .int i2)], [.int s0, .int i2, .int (i1 / (16 : Int32)), .ref a0]))) rfl ?_
      obtain ⟨r121_4, hxr121_4, h⟩ := Option.bind_eq_some_iff.mp h
      refine gg_cv (as := [.int (i1 / (16 : Int32)), .int i2, .int s0]) (r := []) aMi228 rfl rfl rfl aMi231 (Nat.le_of_ble_eq_true rfl) rfl (Nat.le_of_ble_eq_true rfl) (Nat.le_of_ble_eq_true rfl) (by omega) (isK_of (sh11_z ha0)) (Tf231 (by omega) a0 ha0 (i1 / (16 : Int32)) i2 s0 r85_1.2 _ hxr121_4) ?_
      show aGo kad d 228 (124, ([(5, .int r85_1.1), (4, .int s0), (0, .ref a0), (1, .int i1), (2, .int i2)], [])) (aMem Z r121_4.2, t) _
      refine go_ops aMi228 1 _ (f1 := (161, ([(5, .int r85_1.1), (4, .int s0), (0, .ref a0), (1, .int i1), (2, .int i2)], []))) rfl ?_
      refine go_le (lv1 := []) (aLe_of (show (List.map (fun q => q.1) ([] : ALv)).Nodup from (by show ([] : List Nat).Nodup; decide)) aSubL_nil) ?_
      exact Tf228_b161 hd a0 ha0 r121_4.2 _ h
  · rw [if_neg (of_decide_eq_false hb)] at h
    refine go_ops aMi228 2 _ (f1 := (98, ([(5, .int r85_1.1), (4, .int s0), (0, .ref a0), (1, .int i1), (2, .int i2)], [.int r85_1.1, .ref a0]))) rfl ?_
    obtain ⟨r98_5, hxr98_5, h⟩ := Option.bind_eq_some_iff.mp h
    refine gg_cv (as := [.int r85_1.1]) (r := []) aMi228 rfl rfl rfl aMi221 (Nat.le_of_ble_eq_true rfl) rfl (Nat.le_of_ble_eq_true rfl) (Nat.le_of_ble_eq_true rfl) (by omega) (isK_of (sh11_z ha0)) (Tf221 (by omega) a0 ha0 r85_1.1 r85_1.2 _ hxr98_5) ?_
    show aGo kad d 228 (101, ([(5, .int r85_1.1), (4, .int s0), (0, .ref a0), (1, .int i1), (2, .int i2)], [])) (aMem Z r98_5.2, t) _
    refine go_ops aMi228 1 _ (f1 := (161, ([(5, .int r85_1.1), (4, .int s0), (0, .ref a0), (1, .int i1), (2, .int i2)], []))) rfl ?_
    refine go_le (lv1 := []) (aLe_of (show (List.map (fun q => q.1) ([] : ALv)).Nodup from (by show ([] : List Nat).Nodup; decide)) aSubL_nil) ?_
    exact Tf228_b161 hd a0 ha0 r98_5.2 _ h
def f228 (kad : Nat → Nat) (N : Nat) (Z : AZ) (a0 : Nat) (I : AI) : Option (Unit × AI) :=
  if (I a0 27) ≤ (254 : Int32) then
    (ixA 256 (I a0 27)).bind fun j24_1 =>
    if ¬ (((I (a0 + 15) j24_1) / (4 : Int32)) - ((I (a0 + 15) j24_1) / (4 : Int32)) / (4 : Int32) * (4 : Int32)) = ((I (a0 + 15) j24_1) - (I (a0 + 15) j24_1) / (4 : Int32) * (4 : Int32)) then
      (ixA 4 ((I (a0 + 15) j24_1) - (I (a0 + 15) j24_1) / (4 : Int32) * (4 : Int32))).bind fun j60_2 =>
      (ixA 256 ((I a0 27) + (1 : Int32))).bind fun j71_3 =>
      f228_b76 kad N Z a0 (I (a0 + 15) j24_1) (((I (a0 + 15) j24_1) / (4 : Int32)) - ((I (a0 + 15) j24_1) / (4 : Int32)) / (4 : Int32) * (4 : Int32)) (((I (a0 + 16) j60_2) + (I (a0 + 15) j71_3)) - ((I (a0 + 16) j60_2) + (I (a0 + 15) j71_3)) / (65536 : Int32) * (65536 : Int32)) I
    else
      (ixA 256 ((I a0 27) + (1 : Int32))).bind fun j51_4 =>
      f228_b76 kad N Z a0 (I (a0 + 15) j24_1) (((I (a0 + 15) j24_1) / (4 : Int32)) - ((I (a0 + 15) j24_1) / (4 : Int32)) / (4 : Int32) * (4 : Int32)) (I (a0 + 15) j51_4) I
  else
    (f221 kad N Z a0 (1 : Int32) I).bind fun r12_5 =>
    some ((), r12_5.2)
set_option maxRecDepth 20000 in
theorem Tf228 {kad : Nat → Nat} {N : Nat} {Z : AZ} {d : Nat} {t : Option Nat × (Nat × Nat)} (hd : 5 ≤ d) : ∀ (a0 : Nat) (ha0 : sh11 kad Z a0) (I : AI) (r : Unit × AI), f228 kad N Z a0 I = some r → aGo kad d 228 (0, ([(0, .ref a0)], [])) (aMem Z I, t) (qV Z t r) := by
  intro a0 ha0 I r h
  unfold f228 at h
  refine go_ops aMi228 1 _ (f1 := (1, ([(0, .ref a0)], [.ref a0]))) rfl ?_
  refine gg_gI aMi228 rfl rfl rfl (gI_of (sh11_z ha0)) ?_
  refine go_ops aMi228 1 _ (f1 := (7, ([(0, .ref a0)], [.int (254 : Int32), .int (I a0 27)]))) rfl ?_
  refine gg_br (b := decide ((I a0 27) ≤ (254 : Int32))) (tg := 16) (off := 9) aMi228 rfl rfl rfl rfl (fun hb => ?_) (fun hb => ?_)
  · rw [if_pos (of_decide_eq_true hb)] at h
    refine go_ops aMi228 1 _ (f1 := (17, ([(0, .ref a0)], [.ref a0]))) rfl ?_
    refine gg_gR (b := (a0 + 15)) aMi228 rfl rfl rfl (gR_of (sh11_z ha0) (sh11_r25 ha0)) ?_
    refine go_ops aMi228 1 _ (f1 := (21, ([(0, .ref a0)], [.ref a0, .ref (a0 + 15)]))) rfl ?_
    refine gg_gI aMi228 rfl rfl rfl (gI_of (sh11_z ha0)) ?_
    obtain ⟨j24_1, hxj24_1, h⟩ := Option.bind_eq_some_iff.mp h
    refine gg_lI (Or.inl ⟨rfl, rfl⟩) aMi228 rfl (lI_of (sh11_a25 ha0) hxj24_1) ?_
    refine go_ops aMi228 13 _ (f1 := (38, ([(3, .int ((I (a0 + 15) j24_1) - (I (a0 + 15) j24_1) / (4 : Int32) * (4 : Int32))), (2, .int (((I (a0 + 15) j24_1) / (4 : Int32)) - ((I (a0 + 15) j24_1) / (4 : Int32)) / (4 : Int32) * (4 : Int32))), (1, .int (I (a0 + 15) j24_1)), (0, .ref a0)], [.int ((I (a0 + 15) j24_1) - (I (a0 + 15) j24_1) / (4 : Int32) * (4 : Int32)), .int (((I (a0 + 15) j24_1) / (4 : Int32)) - ((I (a0 + 15) j24_1) / (4 : Int32)) / (4 : Int32) * (4 : Int32))]))) rfl ?_
    refine gg_br (b := decide (¬ (((I (a0 + 15) j24_1) / (4 : Int32)) - ((I (a0 + 15) j24_1) / (4 : Int32)) / (4 : Int32) * (4 : Int32)) = ((I (a0 + 15) j24_1) - (I (a0 + 15) j24_1) / (4 : Int32) * (4 : Int32)))) (tg := 55) (off := 17) aMi228 rfl rfl rfl rfl (fun hb => ?_) (fun hb => ?_)
    · rw [if_pos (of_decide_eq_true hb)] at h
      refine go_ops aMi228 1 _ (f1 := (56, ([(3, .int ((I (a0 + 15) j24_1) - (I (a0 + 15) j24_1) / (4 : Int32) * (4 : Int32))), (2, .int (((I (a0 + 15) j24_1) / (4 : Int32)) - ((I (a0 + 15) j24_1) / (4 : Int32)) / (4 : Int32) * (4 : Int32))), (1, .int (I (a0 + 15) j24_1)), (0, .ref a0)], [.ref a0]))) rfl ?_
      refine gg_gR (b := (a0 + 16)) aMi228 rfl rfl rfl (gR_of (sh11_z ha0) (sh11_r26 ha0)) ?_
      refine go_ops aMi228 1 _ (f1 := (60, ([(3, .int ((I (a0 + 15) j24_1) - (I (a0 + 15) j24_1) / (4 : Int32) * (4 : Int32))), (2, .int (((I (a0 + 15) j24_1) / (4 : Int32)) - ((I (a0 + 15) j24_1) / (4 : Int32)) / (4 : Int32) * (4 : Int32))), (1, .int (I (a0 + 15) j24_1)), (0, .ref a0)], [.int ((I (a0 + 15) j24_1) - (I (a0 + 15) j24_1) / (4 : Int32) * (4 : Int32)), .ref (a0 + 16)]))) rfl ?_
      obtain ⟨j60_2, hxj60_2, h⟩ := Option.bind_eq_some_iff.mp h
      refine gg_lI (Or.inl ⟨rfl, rfl⟩) aMi228 rfl (lI_of (sh11_a26 ha0) hxj60_2) ?_
      refine go_ops aMi228 1 _ (f1 := (62, ([(3, .int ((I (a0 + 15) j24_1) - (I (a0 + 15) j24_1) / (4 : Int32) * (4 : Int32))), (2, .int (((I (a0 + 15) j24_1) / (4 : Int32)) - ((I (a0 + 15) j24_1) / (4 : Int32)) / (4 : Int32) * (4 : Int32))), (1, .int (I (a0 + 15) j24_1)), (0, .ref a0)], [.ref a0, .int (I (a0 + 16) j60_2)]))) rfl ?_
      refine gg_gR (b := (a0 + 15)) aMi228 rfl rfl rfl (gR_of (sh11_z ha0) (sh11_r25 ha0)) ?_
      refine go_ops aMi228 1 _ (f1 := (66, ([(3, .int ((I (a0 + 15) j24_1) - (I (a0 + 15) j24_1) / (4 : Int32) * (4 : Int32))), (2, .int (((I (a0 + 15) j24_1) / (4 : Int32)) - ((I (a0 + 15) j24_1) / (4 : Int32)) / (4 : Int32) * (4 : Int32))), (1, .int (I (a0 + 15) j24_1)), (0, .ref a0)], [.ref a0, .ref (a0 + 15), .int (I (a0 + 16) j60_2)]))) rfl ?_
      refine gg_gI aMi228 rfl rfl rfl (gI_of (sh11_z ha0)) ?_
      refine go_ops aMi228 2 _ (f1 := (71, ([(3, .int ((I (a0 + 15) j24_1) - (I (a0 + 15) j24_1) / (4 : Int32) * (4 : Int32))), (2, .int (((I (a0 + 15) j24_1) / (4 : Int32)) - ((I (a0 + 15) j24_1) / (4 : Int32)) / (4 : Int32) * (4 : Int32))), (1, .int (I (a0 + 15) j24_1)), (0, .ref a0)], [.int ((I a0 27) + (1 : Int32)), .ref (a0 + 15), .int (I (a0 + 16) j60_2)]))) rfl ?_
      obtain ⟨j71_3, hxj71_3, h⟩ := Option.bind_eq_some_iff.mp h
      refine gg_lI (Or.inl ⟨rfl, rfl⟩) aMi228 rfl (lI_of (sh11_a25 ha0) hxj71_3) ?_
      refine go_ops aMi228 1 _ (f1 := (73, ([(3, .int ((I (a0 + 15) j24_1) - (I (a0 + 15) j24_1) / (4 : Int32) * (4 : Int32))), (2, .int (((I (a0 + 15) j24_1) / (4 : Int32)) - ((I (a0 + 15) j24_1) / (4 : Int32)) / (4 : Int32) * (4 : Int32))), (1, .int (I (a0 + 15) j24_1)), (0, .ref a0)], [.int ((I (a0 + 16) j60_2) + (I (a0 + 15) j71_3))]))) rfl ?_
      refine gg_kI (Or.inl ⟨rfl, rfl⟩) aMi228 rfl rfl ?_
      refine go_ops aMi228 1 _ (f1 := (76, ([(3, .int ((I (a0 + 15) j24_1) - (I (a0 + 15) j24_1) / (4 : Int32) * (4 : Int32))), (2, .int (((I (a0 + 15) j24_1) / (4 : Int32)) - ((I (a0 + 15) j24_1) / (4 : Int32)) / (4 : Int32) * (4 : Int32))), (1, .int (I (a0 + 15) j24_1)), (0, .ref a0)], [.int (((I (a0 + 16) j60_2) + (I (a0 + 15) j71_3)) - ((I (a0 + 16) j60_2) + (I (a0 + 15) j71_3)) / (65536 : Int32) * (65536 : Int32))]))) rfl ?_
      refine go_le (lv1 := [(0, .ref a0), (1, .int (I (a0 + 15) j24_1)), (2, .int (((I (a0 + 15) j24_1) / (4 : Int32)) - ((I (a0 + 15) j24_1) / (4 : Int32)) / (4 : Int32) * (4 : Int32)))]) (aLe_of (show (List.map (fun q => q.1) ([(0, .ref a0), (1, .int (I (a0 + 15) j24_1)), (2, .int (((I (a0 + 15) j24_1) / (4 : Int32)) - ((I (a0 + 15) j24_1) / (4 : Int32)) / (4 : Int32) * (4 : Int32)))] : ALv)).Nodup from (by show ([0, 1, 2] : List Nat).Nodup; decide)) (aSubL_cons rfl (aSubL_cons rfl (aSubL_cons rfl aSubL_nil)))) ?_
      exact Tf228_b76 hd a0 ha0 (I (a0 + 15) j24_1) (((I (a0 + 15) j24_1) / (4 : Int32)) - ((I (a0 + 15) j24_1) / (4 : Int32)) / (4 : Int32) * (4 : Int32)) (((I (a0 + 16) j60_2) + (I (a0 + 15) j71_3)) - ((I (a0 + 16) j60_2) + (I (a0 + 15) j71_3)) / (65536 : Int32) * (65536 : Int32)) I _ h
    · rw [if_neg (of_decide_eq_false hb)] at h
      refine go_ops aMi228 1 _ (f1 := (42, ([(3, .int ((I (a0 + 15) j24_1) - (I (a0 + 15) j24_1) / (4 : Int32) * (4 : Int32))), (2, .int (((I (a0 + 15) j24_1) / (4 : Int32)) - ((I (a0 + 15) j24_1) / (4 : Int32)) / (4 : Int32) * (4 : Int32))), (1, .int (I (a0 + 15) j24_1)), (0, .ref a0)], [.ref a0]))) rfl ?_
      refine gg_gR (b := (a0 + 15)) aMi228 rfl rfl rfl (gR_of (sh11_z ha0) (sh11_r25 ha0)) ?_
      refine go_ops aMi228 1 _ (f1 := (46, ([(3, .int ((I (a0 + 15) j24_1) - (I (a0 + 15) j24_1) / (4 : Int32) * (4 : Int32))), (2, .int (((I (a0 + 15) j24_1) / (4 : Int32)) - ((I (a0 + 15) j24_1) / (4 : Int32)) / (4 : Int32) * (4 : Int32))), (1, .int (I (a0 + 15) j24_1)), (0, .ref a0)], [.ref a0, .ref (a0 + 15)]))) rfl ?_
      refine gg_gI aMi228 rfl rfl rfl (gI_of (sh11_z ha0)) ?_
      refine go_ops aMi228 2 _ (f1 := (51, ([(3, .int ((I (a0 + 15) j24_1) - (I (a0 + 15) j24_1) / (4 : Int32) * (4 : Int32))), (2, .int (((I (a0 + 15) j24_1) / (4 : Int32)) - ((I (a0 + 15) j24_1) / (4 : Int32)) / (4 : Int32) * (4 : Int32))), (1, .int (I (a0 + 15) j24_1)), (0, .ref a0)], [.int ((I a0 27) + (1 : Int32)), .ref (a0 + 15)]))) rfl ?_
      obtain ⟨j51_4, hxj51_4, h⟩ := Option.bind_eq_some_iff.mp h
      refine gg_lI (Or.inl ⟨rfl, rfl⟩) aMi228 rfl (lI_of (sh11_a25 ha0) hxj51_4) ?_
      refine go_ops aMi228 1 _ (f1 := (76, ([(3, .int ((I (a0 + 15) j24_1) - (I (a0 + 15) j24_1) / (4 : Int32) * (4 : Int32))), (2, .int (((I (a0 + 15) j24_1) / (4 : Int32)) - ((I (a0 + 15) j24_1) / (4 : Int32)) / (4 : Int32) * (4 : Int32))), (1, .int (I (a0 + 15) j24_1)), (0, .ref a0)], [.int (I (a0 + 15) j51_4)]))) rfl ?_
      refine go_le (lv1 := [(0, .ref a0), (1, .int (I (a0 + 15) j24_1)), (2, .int (((I (a0 + 15) j24_1) / (4 : Int32)) - ((I (a0 + 15) j24_1) / (4 : Int32)) / (4 : Int32) * (4 : Int32)))]) (aLe_of (show (List.map (fun q => q.1) ([(0, .ref a0), (1, .int (I (a0 + 15) j24_1)), (2, .int (((I (a0 + 15) j24_1) / (4 : Int32)) - ((I (a0 + 15) j24_1) / (4 : Int32)) / (4 : Int32) * (4 : Int32)))] : ALv)).Nodup from (by show ([0, 1, 2] : List Nat).Nodup; decide)) (aSubL_cons rfl (aSubL_cons rfl (aSubL_cons rfl aSubL_nil)))) ?_
      exact Tf228_b76 hd a0 ha0 (I (a0 + 15) j24_1) (((I (a0 + 15) j24_1) / (4 : Int32)) - ((I (a0 + 15) j24_1) / (4 : Int32)) / (4 : Int32) * (4 : Int32)) (I (a0 + 15) j51_4) I _ h
  · rw [if_neg (of_decide_eq_false hb)] at h
    refine go_ops aMi228 2 _ (f1 := (12, ([(0, .ref a0)], [.int (1 : Int32), .ref a0]))) rfl ?_
    obtain ⟨r12_5, hxr12_5, h⟩ := Option.bind_eq_some_iff.mp h
    refine gg_cv (as := [.int (1 : Int32)]) (r := []) aMi228 rfl rfl rfl aMi221 (Nat.le_of_ble_eq_true rfl) rfl (Nat.le_of_ble_eq_true rfl) (Nat.le_of_ble_eq_true rfl) (by omega) (isK_of (sh11_z ha0)) (Tf221 (by omega) a0 ha0 (1 : Int32) I _ hxr12_5) ?_
    show aGo kad d 228 (15, ([(0, .ref a0)], [])) (aMem Z r12_5.2, t) _
    cases h
    exact go_ret aMi228 rfl rfl ⟨rfl, rfl⟩
-- KernelGymModel.writesHead (Z)V
def f251_b82 (kad : Nat → Nat) (N : Nat) (Z : AZ) : Nat → Nat → Int32 → Int32 → AI → Option (Unit × AI)
  | 0, _, _, _, _ => none
  | F + 1, a0, i2, i3, I =>
    if ((8 : Int32) * (I a0 47)) ≤ i3 then
      (ixA 256 (4 : Int32)).bind fun j117_2 =>
      (wI I (a0 + 24) j117_2 (i2 - i2 / (65536 : Int32) * (65536 : Int32))).bind fun I117_1 =>
      some ((), I117_1)
    else
      (ixA 24 i3).bind fun j99_3 =>
      f251_b82 kad N Z F a0 (i2 + (I (a0 + 23) j99_3)) (i3 + (1 : Int32)) I
set_option maxRecDepth 20000 in
theorem Tf251_b82 {kad : Nat → Nat} {N : Nat} {Z : AZ} {d : Nat} {t : Option Nat × (Nat × Nat)} (hd : 0 ≤ d) : ∀ (F : Nat) (a0 : Nat) (ha0 : sh11 kad Z a0) (i2 : Int32) (i3 : Int32) (I : AI) (r : Unit × AI), f251_b82 kad N Z F a0 i2 i3 I = some r → aGo kad d 251 (82, ([(0, .ref a0), (2, .int i2), (3, .int i3)], [])) (aMem Z I, t) (qV Z t r) := by
  intro F
  induction F with
  | zero => intro a0 ha0 i2 i3 I r h; cases h
  | succ F ih =>
    intro a0 ha0 i2 i3 I r h
    unfold f251_b82 at h
    refine go_ops aMi251 3 _ (f1 := (86, ([(0, .ref a0), (2, .int i2), (3, .int i3)], [.ref a0, .int (8 : Int32), .int i3]))) rfl ?_
    refine gg_gI aMi251 rfl rfl rfl (gI_of (sh11_z ha0)) ?_
    refine go_ops aMi251 1 _ (f1 := (90, ([(0, .ref a0), (2, .int i2), (3, .int i3)], [.int ((8 : Int32) * (I a0 47)), .int i3]))) rfl ?_
    refine gg_br (b := decide (((8 : Int32) * (I a0 47)) ≤ i3)) (tg := 108) (off := 18) aMi251 rfl rfl rfl rfl (fun hb => ?_) (fun hb => ?_)
    · rw [if_pos (of_decide_eq_true hb)] at h
      refine go_ops aMi251 1 _ (f1 := (109, ([(0, .ref a0), (2, .int i2), (3, .int i3)], [.ref a0]))) rfl ?_
      refine gg_gR (b := (a0 + 24)) aMi251 rfl rfl rfl (gR_of (sh11_z ha0) (sh11_r50 ha0)) ?_
      refine go_ops aMi251 2 _ (f1 := (114, ([(0, .ref a0), (2, .int i2), (3, .int i3)], [.int i2, .int (4 : Int32), .ref (a0 + 24)]))) rfl ?_
      refine gg_kI (Or.inl ⟨rfl, rfl⟩) aMi251 rfl rfl ?_
      refine go_ops aMi251 1 _ (f1 := (117, ([(0, .ref a0), (2, .int i2), (3, .int i3)], [.int (i2 - i2 / (65536 : Int32) * (65536 : Int32)), .int (4 : Int32), .ref (a0 + 24)]))) rfl ?_
      obtain ⟨j117_2, hxj117_2, h⟩ := Option.bind_eq_some_iff.mp h
      obtain ⟨I117_1, hxI117_1, h⟩ := Option.bind_eq_some_iff.mp h
      refine gg_sI (Or.inl ⟨rfl, rfl⟩) aMi251 rfl (sI_of (sh11_a50 ha0) hxj117_2 hxI117_1) ?_
      cases h
      exact go_ret aMi251 rfl rfl ⟨rfl, rfl⟩
    · rw [if_neg (of_decide_eq_false hb)] at h
      refine go_ops aMi251 2 _ (f1 := (95, ([(0, .ref a0), (2, .int i2), (3, .int i3)], [.ref a0, .int i2]))) rfl ?_
      refine gg_gR (b := (a0 + 23)) aMi251 rfl rfl rfl (gR_of (sh11_z ha0) (sh11_r49 ha0)) ?_
      refine go_ops aMi251 1 _ (f1 := (99, ([(0, .ref a0), (2, .int i2), (3, .int i3)], [.int i3, .ref (a0 + 23), .int i2]))) rfl ?_
      obtain ⟨j99_3, hxj99_3, h⟩ := Option.bind_eq_some_iff.mp h
      refine gg_lI (Or.inl ⟨rfl, rfl⟩) aMi251 rfl (lI_of (sh11_a49 ha0) hxj99_3) ?_
      refine go_ops aMi251 4 _ (f1 := (82, ([(3, .int (i3 + (1 : Int32))), (2, .int (i2 + (I (a0 + 23) j99_3))), (0, .ref a0)], []))) rfl ?_
      refine go_le (lv1 := [(0, .ref a0), (2, .int (i2 + (I (a0 + 23) j99_3))), (3, .int (i3 + (1 : Int32)))]) (aLe_of (show (List.map (fun q => q.1) ([(0, .ref a0), (2, .int (i2 + (I (a0 + 23) j99_3))), (3, .int (i3 + (1 : Int32)))] : ALv)).Nodup from (by show ([0, 2, 3] : List Nat).Nodup; decide)) (aSubL_cons rfl (aSubL_cons rfl (aSubL_cons rfl aSubL_nil)))) ?_
      exact ih a0 ha0 (i2 + (I (a0 + 23) j99_3)) (i3 + (1 : Int32)) I _ h
def f251_b43 (kad : Nat → Nat) (N : Nat) (Z : AZ) : Nat → Nat → Int32 → Int32 → AI → Option (Unit × AI)
  | 0, _, _, _, _ => none
  | F + 1, a0, i2, i3, I =>
    if (I a0 47) ≤ i3 then
      f251_b82 kad N Z N a0 i2 (0 : Int32) I
    else
      (ixA 3 i3).bind fun j63_1 =>
      (ixA 256 ((1 : Int32) + i3)).bind fun j64_3 =>
      (wI I (a0 + 24) j64_3 (I (a0 + 22) j63_1)).bind fun I64_2 =>
      (ixA 3 i3).bind fun j71_4 =>
      f251_b43 kad N Z F a0 (i2 + (I64_2 (a0 + 22) j71_4)) (i3 + (1 : Int32)) I64_2
set_option maxRecDepth 20000 in
theorem Tf251_b43 {kad : Nat → Nat} {N : Nat} {Z : AZ} {d : Nat} {t : Option Nat × (Nat × Nat)} (hd : 0 ≤ d) : ∀ (F : Nat) (a0 : Nat) (ha0 : sh11 kad Z a0) (i2 : Int32) (i3 : Int32) (I : AI) (r : Unit × AI), f251_b43 kad N Z F a0 i2 i3 I = some r → aGo kad d 251 (43, ([(0, .ref a0), (2, .int i2), (3, .int i3)], [])) (aMem Z I, t) (qV Z t r) := by
  intro F
  induction F with
  | zero => intro a0 ha0 i2 i3 I r h; cases h
  | succ F ih =>
    intro a0 ha0 i2 i3 I r h
    unfold f251_b43 at h
    refine go_ops aMi251 2 _ (f1 := (45, ([(0, .ref a0), (2, .int i2), (3, .int i3)], [.ref a0, .int i3]))) rfl ?_
    refine gg_gI aMi251 rfl rfl rfl (gI_of (sh11_z ha0)) ?_
    refine gg_br (b := decide ((I a0 47) ≤ i3)) (tg := 80) (off := 32) aMi251 rfl rfl rfl rfl (fun hb => ?_) (fun hb => ?_)
    · rw [if_pos (of_decide_eq_true hb)] at h
      refine go_ops aMi251 2 _ (f1 := (82, ([(3, .int (0 : Int32)), (0, .ref a0), (2, .int i2)], []))) rfl ?_
      refine go_le (lv1 := [(0, .ref a0), (2, .int i2), (3, .int (0 : Int32))]) (aLe_of (show (List.map (fun q => q.1) ([(0, .ref a0), (2, .int i2), (3, .int (0 : Int32))] : ALv)).Nodup from (by show ([0, 2, 3] : List Nat).Nodup; decide)) (aSubL_cons rfl (aSubL_cons rfl (aSubL_cons rfl aSubL_nil)))) ?_
      exact Tf251_b82 hd N a0 ha0 i2 (0 : Int32) I _ h
    · rw [if_neg (of_decide_eq_false hb)] at h
      refine go_ops aMi251 1 _ (f1 := (52, ([(0, .ref a0), (2, .int i2), (3, .int i3)], [.ref a0]))) rfl ?_
      refine gg_gR (b := (a0 + 24)) aMi251 rfl rfl rfl (gR_of (sh11_z ha0) (sh11_r50 ha0)) ?_
      refine go_ops aMi251 4 _ (f1 := (59, ([(0, .ref a0), (2, .int i2), (3, .int i3)], [.ref a0, .int ((1 : Int32) + i3), .ref (a0 + 24)]))) rfl ?_
      refine gg_gR (b := (a0 + 22)) aMi251 rfl rfl rfl (gR_of (sh11_z ha0) (sh11_r48 ha0)) ?_
      refine go_ops aMi251 1 _ (f1 := (63, ([(0, .ref a0), (2, .int i2), (3, .int i3)], [.int i3, .ref (a0 + 22), .int ((1 : Int32) + i3), .ref (a0 + 24)]))) rfl ?_
      obtain ⟨j63_1, hxj63_1, h⟩ := Option.bind_eq_some_iff.mp h
      refine gg_lI (Or.inl ⟨rfl, rfl⟩) aMi251 rfl (lI_of (sh11_a48 ha0) hxj63_1) ?_
      obtain ⟨j64_3, hxj64_3, h⟩ := Option.bind_eq_some_iff.mp h
      obtain ⟨I64_2, hxI64_2, h⟩ := Option.bind_eq_some_iff.mp h
      refine gg_sI (Or.inl ⟨rfl, rfl⟩) aMi251 rfl (sI_of (sh11_a50 ha0) hxj64_3 hxI64_2) ?_
      refine go_ops aMi251 2 _ (f1 := (67, ([(0, .ref a0), (2, .int i2), (3, .int i3)], [.ref a0, .int i2]))) rfl ?_
      refine gg_gR (b := (a0 + 22)) aMi251 rfl rfl rfl (gR_of (sh11_z ha0) (sh11_r48 ha0)) ?_
      refine go_ops aMi251 1 _ (f1 := (71, ([(0, .ref a0), (2, .int i2), (3, .int i3)], [.int i3, .ref (a0 + 22), .int i2]))) rfl ?_
      obtain ⟨j71_4, hxj71_4, h⟩ := Option.bind_eq_some_iff.mp h
      refine gg_lI (Or.inl ⟨rfl, rfl⟩) aMi251 rfl (lI_of (sh11_a48 ha0) hxj71_4) ?_
      refine go_ops aMi251 4 _ (f1 := (43, ([(3, .int (i3 + (1 : Int32))), (2, .int (i2 + (I64_2 (a0 + 22) j71_4))), (0, .ref a0)], []))) rfl ?_
      refine go_le (lv1 := [(0, .ref a0), (2, .int (i2 + (I64_2 (a0 + 22) j71_4))), (3, .int (i3 + (1 : Int32)))]) (aLe_of (show (List.map (fun q => q.1) ([(0, .ref a0), (2, .int (i2 + (I64_2 (a0 + 22) j71_4))), (3, .int (i3 + (1 : Int32)))] : ALv)).Nodup from (by show ([0, 2, 3] : List Nat).Nodup; decide)) (aSubL_cons rfl (aSubL_cons rfl (aSubL_cons rfl aSubL_nil)))) ?_
      exact ih a0 ha0 (i2 + (I64_2 (a0 + 22) j71_4)) (i3 + (1 : Int32)) I64_2 _ h
def f251_b2 (kad : Nat → Nat) (N : Nat) (Z : AZ) : Nat → Nat → Int32 → Int32 → AI → Option (Unit × AI)
  | 0, _, _, _, _ => none
  | F + 1, a0, i1, i2, I =>
    if (8 : Int32) ≤ i2 then
      if ¬ i1 = 0 then
        (ixA 256 (0 : Int32)).bind fun j40_2 =>
        (wI I (a0 + 24) j40_2 (I a0 47)).bind fun I40_1 =>
        f251_b43 kad N Z N a0 (I a0 47) (0 : Int32) I40_1
      else
        some ((), I)
    else
      (ixA 256 i2).bind fun j14_4 =>
      (wI I (a0 + 24) j14_4 (0 : Int32)).bind fun I14_3 =>
      f251_b2 kad N Z F a0 i1 (i2 + (1 : Int32)) I14_3
set_option maxRecDepth 20000 in
theorem Tf251_b2 {kad : Nat → Nat} {N : Nat} {Z : AZ} {d : Nat} {t : Option Nat × (Nat × Nat)} (hd : 0 ≤ d) : ∀ (F : Nat) (a0 : Nat) (ha0 : sh11 kad Z a0) (i1 : Int32) (i2 : Int32) (I : AI) (r : Unit × AI), f251_b2 kad N Z F a0 i1 i2 I = some r → aGo kad d 251 (2, ([(0, .ref a0), (1, .int i1), (2, .int i2)], [])) (aMem Z I, t) (qV Z t r) := by
  intro F
  induction F with
  | zero => intro a0 ha0 i1 i2 I r h; cases h
  | succ F ih =>
    intro a0 ha0 i1 i2 I r h
    unfold f251_b2 at h
    refine go_ops aMi251 2 _ (f1 := (5, ([(0, .ref a0), (1, .int i1), (2, .int i2)], [.int (8 : Int32), .int i2]))) rfl ?_
    refine gg_br (b := decide ((8 : Int32) ≤ i2)) (tg := 21) (off := 16) aMi251 rfl rfl rfl rfl (fun hb => ?_) (fun hb => ?_)
    · rw [if_pos (of_decide_eq_true hb)] at h
      refine go_ops aMi251 1 _ (f1 := (22, ([(0, .ref a0), (1, .int i1), (2, .int i2)], [.int i1]))) rfl ?_
      refine gg_br (b := decide (¬ i1 = 0)) (tg := 26) (off := 4) aMi251 rfl rfl rfl rfl (fun hb => ?_) (fun hb => ?_)
      · rw [if_pos (of_decide_eq_true hb)] at h
        refine go_ops aMi251 1 _ (f1 := (27, ([(0, .ref a0), (1, .int i1), (2, .int i2)], [.ref a0]))) rfl ?_
        refine gg_gI aMi251 rfl rfl rfl (gI_of (sh11_z ha0)) ?_
        refine go_ops aMi251 2 _ (f1 := (32, ([(2, .int (I a0 47)), (0, .ref a0), (1, .int i1)], [.ref a0]))) rfl ?_
        refine gg_gR (b := (a0 + 24)) aMi251 rfl rfl rfl (gR_of (sh11_z ha0) (sh11_r50 ha0)) ?_
        refine go_ops aMi251 2 _ (f1 := (37, ([(2, .int (I a0 47)), (0, .ref a0), (1, .int i1)], [.ref a0, .int (0 : Int32), .ref (a0 + 24)]))) rfl ?_
        refine gg_gI aMi251 rfl rfl rfl (gI_of (sh11_z ha0)) ?_
        obtain ⟨j40_2, hxj40_2, h⟩ := Option.bind_eq_some_iff.mp h
        obtain ⟨I40_1, hxI40_1, h⟩ := Option.bind_eq_some_iff.mp h
        refine gg_sI (Or.inl ⟨rfl, rfl⟩) aMi251 rfl (sI_of (sh11_a50 ha0) hxj40_2 hxI40_1) ?_
        refine go_ops aMi251 2 _ (f1 := (43, ([(3, .int (0 : Int32)), (2, .int (I a0 47)), (0, .ref a0), (1, .int i1)], []))) rfl ?_
        refine go_le (lv1 := [(0, .ref a0), (2, .int (I a0 47)), (3, .int (0 : Int32))]) (aLe_of (show (List.map (fun q => q.1) ([(0, .ref a0), (2, .int (I a0 47)), (3, .int (0 : Int32))] : ALv)).Nodup from (by show ([0, 2, 3] : List Nat).Nodup; decide)) (aSubL_cons rfl (aSubL_cons rfl (aSubL_cons rfl aSubL_nil)))) ?_
        exact Tf251_b43 hd N a0 ha0 (I a0 47) (0 : Int32) I40_1 _ h
      · rw [if_neg (of_decide_eq_false hb)] at h
        cases h
        exact go_ret aMi251 rfl rfl ⟨rfl, rfl⟩
    · rw [if_neg (of_decide_eq_false hb)] at h
      refine go_ops aMi251 1 _ (f1 := (9, ([(0, .ref a0), (1, .int i1), (2, .int i2)], [.ref a0]))) rfl ?_
      refine gg_gR (b := (a0 + 24)) aMi251 rfl rfl rfl (gR_of (sh11_z ha0) (sh11_r50 ha0)) ?_
      refine go_ops aMi251 2 _ (f1 := (14, ([(0, .ref a0), (1, .int i1), (2, .int i2)], [.int (0 : Int32), .int i2, .ref (a0 + 24)]))) rfl ?_
      obtain ⟨j14_4, hxj14_4, h⟩ := Option.bind_eq_some_iff.mp h
      obtain ⟨I14_3, hxI14_3, h⟩ := Option.bind_eq_some_iff.mp h
      refine gg_sI (Or.inl ⟨rfl, rfl⟩) aMi251 rfl (sI_of (sh11_a50 ha0) hxj14_4 hxI14_3) ?_
      refine go_ops aMi251 2 _ (f1 := (2, ([(2, .int (i2 + (1 : Int32))), (0, .ref a0), (1, .int i1)], []))) rfl ?_
      refine go_le (lv1 := [(0, .ref a0), (1, .int i1), (2, .int (i2 + (1 : Int32)))]) (aLe_of (show (List.map (fun q => q.1) ([(0, .ref a0), (1, .int i1), (2, .int (i2 + (1 : Int32)))] : ALv)).Nodup from (by show ([0, 1, 2] : List Nat).Nodup; decide)) (aSubL_cons rfl (aSubL_cons rfl (aSubL_cons rfl aSubL_nil)))) ?_
      exact ih a0 ha0 i1 (i2 + (1 : Int32)) I14_3 _ h
def f251 (kad : Nat → Nat) (N : Nat) (Z : AZ) (a0 : Nat) (i1 : Int32) (I : AI) : Option (Unit × AI) :=
  f251_b2 kad N Z N a0 i1 (0 : Int32) I
set_option maxRecDepth 20000 in
theorem Tf251 {kad : Nat → Nat} {N : Nat} {Z : AZ} {d : Nat} {t : Option Nat × (Nat × Nat)} (hd : 0 ≤ d) : ∀ (a0 : Nat) (ha0 : sh11 kad Z a0) (i1 : Int32) (I : AI) (r : Unit × AI), f251 kad N Z a0 i1 I = some r → aGo kad d 251 (0, ([(0, .ref a0), (1, .int i1)], [])) (aMem Z I, t) (qV Z t r) := by
  intro a0 ha0 i1 I r h
  unfold f251 at h
  refine go_ops aMi251 2 _ (f1 := (2, ([(2, .int (0 : Int32)), (0, .ref a0), (1, .int i1)], []))) rfl ?_
  refine go_le (lv1 := [(0, .ref a0), (1, .int i1), (2, .int (0 : Int32))]) (aLe_of (show (List.map (fun q => q.1) ([(0, .ref a0), (1, .int i1), (2, .int (0 : Int32))] : ALv)).Nodup from (by show ([0, 1, 2] : List Nat).Nodup; decide)) (aSubL_cons rfl (aSubL_cons rfl (aSubL_cons rfl aSubL_nil)))) ?_
  exact Tf251_b2 hd N a0 ha0 i1 (0 : Int32) I _ h
-- KernelGymModel.writesBlock ()V
def f250_b180 (kad : Nat → Nat) (N : Nat) (Z : AZ) (a0 : Nat) (I : AI) : Option (Unit × AI) :=
  some ((), I)
set_option maxRecDepth 20000 in
theorem Tf250_b180 {kad : Nat → Nat} {N : Nat} {Z : AZ} {d : Nat} {t : Option Nat × (Nat × Nat)} (hd : 1 ≤ d) : ∀ (a0 : Nat) (ha0 : sh11 kad Z a0) (I : AI) (r : Unit × AI), f250_b180 kad N Z a0 I = some r → aGo kad d 250 (180, ([], [])) (aMem Z I, t) (qV Z t r) := by
  intro a0 ha0 I r h
  unfold f250_b180 at h
  cases h
  exact go_ret aMi250 rfl rfl ⟨rfl, rfl⟩
def f250_b156 (kad : Nat → Nat) (N : Nat) (Z : AZ) (a0 : Nat) (I : AI) : Option (Unit × AI) :=
  if ¬ (I a0 46) = 0 then
    f250_b180 kad N Z a0 I
  else
    (ixA 4 (3 : Int32)).bind fun j169_2 =>
    (wI I (a0 + 16) j169_2 (0 : Int32)).bind fun I169_1 =>
    (wI I169_1 a0 27 ((I169_1 a0 27) + (2 : Int32))).bind fun I177_3 =>
    f250_b180 kad N Z a0 I177_3
set_option maxRecDepth 20000 in
theorem Tf250_b156 {kad : Nat → Nat} {N : Nat} {Z : AZ} {d : Nat} {t : Option Nat × (Nat × Nat)} (hd : 1 ≤ d) : ∀ (a0 : Nat) (ha0 : sh11 kad Z a0) (I : AI) (r : Unit × AI), f250_b156 kad N Z a0 I = some r → aGo kad d 250 (156, ([(0, .ref a0)], [])) (aMem Z I, t) (qV Z t r) := by
  intro a0 ha0 I r h
  unfold f250_b156 at h
  refine go_ops aMi250 1 _ (f1 := (157, ([(0, .ref a0)], [.ref a0]))) rfl ?_
  refine gg_gI aMi250 rfl rfl rfl (gI_of (sh11_z ha0)) ?_
  refine gg_br (b := decide (¬ (I a0 46) = 0)) (tg := 180) (off := 20) aMi250 rfl rfl rfl rfl (fun hb => ?_) (fun hb => ?_)
  · rw [if_pos (of_decide_eq_true hb)] at h
    refine go_le (lv1 := []) (aLe_of (show (List.map (fun q => q.1) ([] : ALv)).Nodup from (by show ([] : List Nat).Nodup; decide)) aSubL_nil) ?_
    exact Tf250_b180 hd a0 ha0 I _ h
  · rw [if_neg (of_decide_eq_false hb)] at h
    refine go_ops aMi250 1 _ (f1 := (164, ([(0, .ref a0)], [.ref a0]))) rfl ?_
    refine gg_gR (b := (a0 + 16)) aMi250 rfl rfl rfl (gR_of (sh11_z ha0) (sh11_r26 ha0)) ?_
    refine go_ops aMi250 2 _ (f1 := (169, ([(0, .ref a0)], [.int (0 : Int32), .int (3 : Int32), .ref (a0 + 16)]))) rfl ?_
    obtain ⟨j169_2, hxj169_2, h⟩ := Option.bind_eq_some_iff.mp h
    obtain ⟨I169_1, hxI169_1, h⟩ := Option.bind_eq_some_iff.mp h
    refine gg_sI (Or.inl ⟨rfl, rfl⟩) aMi250 rfl (sI_of (sh11_a26 ha0) hxj169_2 hxI169_1) ?_
    refine go_ops aMi250 2 _ (f1 := (172, ([(0, .ref a0)], [.ref a0, .ref a0]))) rfl ?_
    refine gg_gI aMi250 rfl rfl rfl (gI_of (sh11_z ha0)) ?_
    refine go_ops aMi250 2 _ (f1 := (177, ([(0, .ref a0)], [.int ((I169_1 a0 27) + (2 : Int32)), .ref a0]))) rfl ?_
    obtain ⟨I177_3, hxI177_3, h⟩ := Option.bind_eq_some_iff.mp h
    refine gg_pI aMi250 rfl rfl rfl rfl (by decide) (pI_of (sh11_z ha0) hxI177_3) ?_
    refine go_le (lv1 := []) (aLe_of (show (List.map (fun q => q.1) ([] : ALv)).Nodup from (by show ([] : List Nat).Nodup; decide)) aSubL_nil) ?_
    exact Tf250_b180 hd a0 ha0 I177_3 _ h
def f250_b68 (kad : Nat → Nat) (N : Nat) (Z : AZ) (a0 : Nat) (s0 : Int32) (I : AI) : Option (Unit × AI) :=
  (f251 kad N Z a0 s0 I).bind fun r68_1 =>
  f250_b156 kad N Z a0 r68_1.2
set_option maxRecDepth 20000 in
theorem Tf250_b68 {kad : Nat → Nat} {N : Nat} {Z : AZ} {d : Nat} {t : Option Nat × (Nat × Nat)} (hd : 1 ≤ d) : ∀ (a0 : Nat) (ha0 : sh11 kad Z a0) (s0 : Int32) (I : AI) (r : Unit × AI), f250_b68 kad N Z a0 s0 I = some r → aGo kad d 250 (68, ([(0, .ref a0)], [.int s0, .ref a0])) (aMem Z I, t) (qV Z t r) := by
  intro a0 ha0 s0 I r h
  unfold f250_b68 at h
  obtain ⟨r68_1, hxr68_1, h⟩ := Option.bind_eq_some_iff.mp h
  refine gg_cv (as := [.int s0]) (r := []) aMi250 rfl rfl rfl aMi251 (Nat.le_of_ble_eq_true rfl) rfl (Nat.le_of_ble_eq_true rfl) (Nat.le_of_ble_eq_true rfl) (by omega) (isK_of (sh11_z ha0)) (Tf251 (by omega) a0 ha0 s0 I _ hxr68_1) ?_
  show aGo kad d 250 (71, ([(0, .ref a0)], [])) (aMem Z r68_1.2, t) _
  refine go_ops aMi250 1 _ (f1 := (156, ([(0, .ref a0)], []))) rfl ?_
  exact Tf250_b156 hd a0 ha0 r68_1.2 _ h
def f250_b54 (kad : Nat → Nat) (N : Nat) (Z : AZ) (a0 : Nat) (i1 : Int32) (I : AI) : Option (Unit × AI) :=
  if ¬ i1 = (I a0 47) then
    f250_b68 kad N Z a0 (0 : Int32) I
  else
    f250_b68 kad N Z a0 (1 : Int32) I
set_option maxRecDepth 20000 in
theorem Tf250_b54 {kad : Nat → Nat} {N : Nat} {Z : AZ} {d : Nat} {t : Option Nat × (Nat × Nat)} (hd : 1 ≤ d) : ∀ (a0 : Nat) (ha0 : sh11 kad Z a0) (i1 : Int32) (I : AI) (r : Unit × AI), f250_b54 kad N Z a0 i1 I = some r → aGo kad d 250 (54, ([(0, .ref a0), (1, .int i1)], [])) (aMem Z I, t) (qV Z t r) := by
  intro a0 ha0 i1 I r h
  unfold f250_b54 at h
  refine go_ops aMi250 3 _ (f1 := (57, ([(0, .ref a0), (1, .int i1)], [.ref a0, .int i1, .ref a0]))) rfl ?_
  refine gg_gI aMi250 rfl rfl rfl (gI_of (sh11_z ha0)) ?_
  refine gg_br (b := decide (¬ i1 = (I a0 47))) (tg := 67) (off := 7) aMi250 rfl rfl rfl rfl (fun hb => ?_) (fun hb => ?_)
  · rw [if_pos (of_decide_eq_true hb)] at h
    refine go_ops aMi250 1 _ (f1 := (68, ([(0, .ref a0), (1, .int i1)], [.int (0 : Int32), .ref a0]))) rfl ?_
    refine go_le (lv1 := [(0, .ref a0)]) (aLe_of (show (List.map (fun q => q.1) ([(0, .ref a0)] : ALv)).Nodup from (by show ([0] : List Nat).Nodup; decide)) (aSubL_cons rfl aSubL_nil)) ?_
    exact Tf250_b68 hd a0 ha0 (0 : Int32) I _ h
  · rw [if_neg (of_decide_eq_false hb)] at h
    refine go_ops aMi250 2 _ (f1 := (68, ([(0, .ref a0), (1, .int i1)], [.int (1 : Int32), .ref a0]))) rfl ?_
    refine go_le (lv1 := [(0, .ref a0)]) (aLe_of (show (List.map (fun q => q.1) ([(0, .ref a0)] : ALv)).Nodup from (by show ([0] : List Nat).Nodup; decide)) (aSubL_cons rfl aSubL_nil)) ?_
    exact Tf250_b68 hd a0 ha0 (1 : Int32) I _ h
def f250_b119 (kad : Nat → Nat) (N : Nat) (Z : AZ) : Nat → Nat → Int32 → Int32 → Int32 → AI → Option (Unit × AI)
  | 0, _, _, _, _, _ => none
  | F + 1, a0, i2, i3, i4, I =>
    if (8 : Int32) ≤ i4 then
      f250_b156 kad N Z a0 I
    else
      (ixA 24 (((8 : Int32) * i2) + i4)).bind fun j148_1 =>
      (ixA 256 (((8 : Int32) * i3) + i4)).bind fun j149_3 =>
      (wI I (a0 + 24) j149_3 (I (a0 + 23) j148_1)).bind fun I149_2 =>
      f250_b119 kad N Z F a0 i2 i3 (i4 + (1 : Int32)) I149_2
set_option maxRecDepth 20000 in
theorem Tf250_b119 {kad : Nat → Nat} {N : Nat} {Z : AZ} {d : Nat} {t : Option Nat × (Nat × Nat)} (hd : 1 ≤ d) : ∀ (F : Nat) (a0 : Nat) (ha0 : sh11 kad Z a0) (i2 : Int32) (i3 : Int32) (i4 : Int32) (I : AI) (r : Unit × AI), f250_b119 kad N Z F a0 i2 i3 i4 I = some r → aGo kad d 250 (119, ([(0, .ref a0), (2, .int i2), (3, .int i3), (4, .int i4)], [])) (aMem Z I, t) (qV Z t r) := by
  intro F
  induction F with
  | zero => intro a0 ha0 i2 i3 i4 I r h; cases h
  | succ F ih =>
    intro a0 ha0 i2 i3 i4 I r h
    unfold f250_b119 at h
    refine go_ops aMi250 2 _ (f1 := (123, ([(0, .ref a0), (2, .int i2), (3, .int i3), (4, .int i4)], [.int (8 : Int32), .int i4]))) rfl ?_
    refine gg_br (b := decide ((8 : Int32) ≤ i4)) (tg := 156) (off := 33) aMi250 rfl rfl rfl rfl (fun hb => ?_) (fun hb => ?_)
    · rw [if_pos (of_decide_eq_true hb)] at h
      refine go_le (lv1 := [(0, .ref a0)]) (aLe_of (show (List.map (fun q => q.1) ([(0, .ref a0)] : ALv)).Nodup from (by show ([0] : List Nat).Nodup; decide)) (aSubL_cons rfl aSubL_nil)) ?_
      exact Tf250_b156 hd a0 ha0 I _ h
    · rw [if_neg (of_decide_eq_false hb)] at h
      refine go_ops aMi250 1 _ (f1 := (127, ([(0, .ref a0), (2, .int i2), (3, .int i3), (4, .int i4)], [.ref a0]))) rfl ?_
      refine gg_gR (b := (a0 + 24)) aMi250 rfl rfl rfl (gR_of (sh11_z ha0) (sh11_r50 ha0)) ?_
      refine go_ops aMi250 6 _ (f1 := (138, ([(0, .ref a0), (2, .int i2), (3, .int i3), (4, .int i4)], [.ref a0, .int (((8 : Int32) * i3) + i4), .ref (a0 + 24)]))) rfl ?_
      refine gg_gR (b := (a0 + 23)) aMi250 rfl rfl rfl (gR_of (sh11_z ha0) (sh11_r49 ha0)) ?_
      refine go_ops aMi250 5 _ (f1 := (148, ([(0, .ref a0), (2, .int i2), (3, .int i3), (4, .int i4)], [.int (((8 : Int32) * i2) + i4), .ref (a0 + 23), .int (((8 : Int32) * i3) + i4), .ref (a0 + 24)]))) rfl ?_
      obtain ⟨j148_1, hxj148_1, h⟩ := Option.bind_eq_some_iff.mp h
      refine gg_lI (Or.inl ⟨rfl, rfl⟩) aMi250 rfl (lI_of (sh11_a49 ha0) hxj148_1) ?_
      obtain ⟨j149_3, hxj149_3, h⟩ := Option.bind_eq_some_iff.mp h
      obtain ⟨I149_2, hxI149_2, h⟩ := Option.bind_eq_some_iff.mp h
      refine gg_sI (Or.inl ⟨rfl, rfl⟩) aMi250 rfl (sI_of (sh11_a50 ha0) hxj149_3 hxI149_2) ?_
      refine go_ops aMi250 2 _ (f1 := (119, ([(4, .int (i4 + (1 : Int32))), (0, .ref a0), (2, .int i2), (3, .int i3)], []))) rfl ?_
      refine go_le (lv1 := [(0, .ref a0), (2, .int i2), (3, .int i3), (4, .int (i4 + (1 : Int32)))]) (aLe_of (show (List.map (fun q => q.1) ([(0, .ref a0), (2, .int i2), (3, .int i3), (4, .int (i4 + (1 : Int32)))] : ALv)).Nodup from (by show ([0, 2, 3, 4] : List Nat).Nodup; decide)) (aSubL_cons rfl (aSubL_cons rfl (aSubL_cons rfl (aSubL_cons rfl aSubL_nil))))) ?_
      exact ih a0 ha0 i2 i3 (i4 + (1 : Int32)) I149_2 _ h
def f250_b115 (kad : Nat → Nat) (N : Nat) (Z : AZ) (a0 : Nat) (i2 : Int32) (s0 : Int32) (I : AI) : Option (Unit × AI) :=
  f250_b119 kad N Z N a0 i2 s0 (0 : Int32) I
set_option maxRecDepth 20000 in
theorem Tf250_b115 {kad : Nat → Nat} {N : Nat} {Z : AZ} {d : Nat} {t : Option Nat × (Nat × Nat)} (hd : 1 ≤ d) : ∀ (a0 : Nat) (ha0 : sh11 kad Z a0) (i2 : Int32) (s0 : Int32) (I : AI) (r : Unit × AI), f250_b115 kad N Z a0 i2 s0 I = some r → aGo kad d 250 (115, ([(0, .ref a0), (2, .int i2)], [.int s0])) (aMem Z I, t) (qV Z t r) := by
  intro a0 ha0 i2 s0 I r h
  unfold f250_b115 at h
  refine go_ops aMi250 3 _ (f1 := (119, ([(4, .int (0 : Int32)), (3, .int s0), (0, .ref a0), (2, .int i2)], []))) rfl ?_
  refine go_le (lv1 := [(0, .ref a0), (2, .int i2), (3, .int s0), (4, .int (0 : Int32))]) (aLe_of (show (List.map (fun q => q.1) ([(0, .ref a0), (2, .int i2), (3, .int s0), (4, .int (0 : Int32))] : ALv)).Nodup from (by show ([0, 2, 3, 4] : List Nat).Nodup; decide)) (aSubL_cons rfl (aSubL_cons rfl (aSubL_cons rfl (aSubL_cons rfl aSubL_nil))))) ?_
  exact Tf250_b119 hd N a0 ha0 i2 s0 (0 : Int32) I _ h
def f250_b94 (kad : Nat → Nat) (N : Nat) (Z : AZ) (a0 : Nat) (i1 : Int32) (s0 : Int32) (I : AI) : Option (Unit × AI) :=
  if (I a0 47) ≤ i1 then
    (ixA 3 s0).bind fun j114_1 =>
    f250_b115 kad N Z a0 s0 (I (a0 + 22) j114_1) I
  else
    f250_b115 kad N Z a0 s0 ((1 : Int32) + i1) I
set_option maxRecDepth 20000 in
theorem Tf250_b94 {kad : Nat → Nat} {N : Nat} {Z : AZ} {d : Nat} {t : Option Nat × (Nat × Nat)} (hd : 1 ≤ d) : ∀ (a0 : Nat) (ha0 : sh11 kad Z a0) (i1 : Int32) (s0 : Int32) (I : AI) (r : Unit × AI), f250_b94 kad N Z a0 i1 s0 I = some r → aGo kad d 250 (94, ([(0, .ref a0), (1, .int i1)], [.int s0])) (aMem Z I, t) (qV Z t r) := by
  intro a0 ha0 i1 s0 I r h
  unfold f250_b94 at h
  refine go_ops aMi250 3 _ (f1 := (97, ([(2, .int s0), (0, .ref a0), (1, .int i1)], [.ref a0, .int i1]))) rfl ?_
  refine gg_gI aMi250 rfl rfl rfl (gI_of (sh11_z ha0)) ?_
  refine gg_br (b := decide ((I a0 47) ≤ i1)) (tg := 109) (off := 9) aMi250 rfl rfl rfl rfl (fun hb => ?_) (fun hb => ?_)
  · rw [if_pos (of_decide_eq_true hb)] at h
    refine go_ops aMi250 1 _ (f1 := (110, ([(2, .int s0), (0, .ref a0), (1, .int i1)], [.ref a0]))) rfl ?_
    refine gg_gR (b := (a0 + 22)) aMi250 rfl rfl rfl (gR_of (sh11_z ha0) (sh11_r48 ha0)) ?_
    refine go_ops aMi250 1 _ (f1 := (114, ([(2, .int s0), (0, .ref a0), (1, .int i1)], [.int s0, .ref (a0 + 22)]))) rfl ?_
    obtain ⟨j114_1, hxj114_1, h⟩ := Option.bind_eq_some_iff.mp h
    refine gg_lI (Or.inl ⟨rfl, rfl⟩) aMi250 rfl (lI_of (sh11_a48 ha0) hxj114_1) ?_
    refine go_le (lv1 := [(0, .ref a0), (2, .int s0)]) (aLe_of (show (List.map (fun q => q.1) ([(0, .ref a0), (2, .int s0)] : ALv)).Nodup from (by show ([0, 2] : List Nat).Nodup; decide)) (aSubL_cons rfl (aSubL_cons rfl aSubL_nil))) ?_
    exact Tf250_b115 hd a0 ha0 s0 (I (a0 + 22) j114_1) I _ h
  · rw [if_neg (of_decide_eq_false hb)] at h
    refine go_ops aMi250 4 _ (f1 := (115, ([(2, .int s0), (0, .ref a0), (1, .int i1)], [.int ((1 : Int32) + i1)]))) rfl ?_
    refine go_le (lv1 := [(0, .ref a0), (2, .int s0)]) (aLe_of (show (List.map (fun q => q.1) ([(0, .ref a0), (2, .int s0)] : ALv)).Nodup from (by show ([0, 2] : List Nat).Nodup; decide)) (aSubL_cons rfl (aSubL_cons rfl aSubL_nil))) ?_
    exact Tf250_b115 hd a0 ha0 s0 ((1 : Int32) + i1) I _ h
def f250 (kad : Nat → Nat) (N : Nat) (Z : AZ) (a0 : Nat) (I : AI) : Option (Unit × AI) :=
  (wI I a0 46 ((I a0 46) - (1 : Int32))).bind fun I21_1 =>
  (wI I21_1 a0 52 ((I21_1 a0 52) + (1 : Int32))).bind fun I31_2 =>
  if ((((2 : Int32) * (I a0 47)) + (2 : Int32)) - (I a0 46)) = (I31_2 a0 47) then
    f250_b54 kad N Z a0 ((((2 : Int32) * (I a0 47)) + (2 : Int32)) - (I a0 46)) I31_2
  else
    if ¬ ((((2 : Int32) * (I a0 47)) + (2 : Int32)) - (I a0 46)) = (((2 : Int32) * (I31_2 a0 47)) + (1 : Int32)) then
      if (I31_2 a0 47) ≤ ((((2 : Int32) * (I a0 47)) + (2 : Int32)) - (I a0 46)) then
        f250_b94 kad N Z a0 ((((2 : Int32) * (I a0 47)) + (2 : Int32)) - (I a0 46)) ((((((2 : Int32) * (I a0 47)) + (2 : Int32)) - (I a0 46)) - (I31_2 a0 47)) - (1 : Int32)) I31_2
      else
        f250_b94 kad N Z a0 ((((2 : Int32) * (I a0 47)) + (2 : Int32)) - (I a0 46)) ((((2 : Int32) * (I a0 47)) + (2 : Int32)) - (I a0 46)) I31_2
    else
      f250_b54 kad N Z a0 ((((2 : Int32) * (I a0 47)) + (2 : Int32)) - (I a0 46)) I31_2
set_option maxRecDepth 20000 in
theorem Tf250 {kad : Nat → Nat} {N : Nat} {Z : AZ} {d : Nat} {t : Option Nat × (Nat × Nat)} (hd : 1 ≤ d) : ∀ (a0 : Nat) (ha0 : sh11 kad Z a0) (I : AI) (r : Unit × AI), f250 kad N Z a0 I = some r → aGo kad d 250 (0, ([(0, .ref a0)], [])) (aMem Z I, t) (qV Z t r) := by
  intro a0 ha0 I r h
  unfold f250 at h
  refine go_ops aMi250 2 _ (f1 := (2, ([(0, .ref a0)], [.ref a0, .int (2 : Int32)]))) rfl ?_
  refine gg_gI aMi250 rfl rfl rfl (gI_of (sh11_z ha0)) ?_
  refine go_ops aMi250 4 _ (f1 := (9, ([(0, .ref a0)], [.ref a0, .int (((2 : Int32) * (I a0 47)) + (2 : Int32))]))) rfl ?_
  refine gg_gI aMi250 rfl rfl rfl (gI_of (sh11_z ha0)) ?_
  refine go_ops aMi250 4 _ (f1 := (16, ([(1, .int ((((2 : Int32) * (I a0 47)) + (2 : Int32)) - (I a0 46))), (0, .ref a0)], [.ref a0, .ref a0]))) rfl ?_
  refine gg_gI aMi250 rfl rfl rfl (gI_of (sh11_z ha0)) ?_
  refine go_ops aMi250 2 _ (f1 := (21, ([(1, .int ((((2 : Int32) * (I a0 47)) + (2 : Int32)) - (I a0 46))), (0, .ref a0)], [.int ((I a0 46) - (1 : Int32)), .ref a0]))) rfl ?_
  obtain ⟨I21_1, hxI21_1, h⟩ := Option.bind_eq_some_iff.mp h
  refine gg_pI aMi250 rfl rfl rfl rfl (by decide) (pI_of (sh11_z ha0) hxI21_1) ?_
  refine go_ops aMi250 2 _ (f1 := (26, ([(1, .int ((((2 : Int32) * (I a0 47)) + (2 : Int32)) - (I a0 46))), (0, .ref a0)], [.ref a0, .ref a0]))) rfl ?_
  refine gg_gI aMi250 rfl rfl rfl (gI_of (sh11_z ha0)) ?_
  refine go_ops aMi250 2 _ (f1 := (31, ([(1, .int ((((2 : Int32) * (I a0 47)) + (2 : Int32)) - (I a0 46))), (0, .ref a0)], [.int ((I21_1 a0 52) + (1 : Int32)), .ref a0]))) rfl ?_
  obtain ⟨I31_2, hxI31_2, h⟩ := Option.bind_eq_some_iff.mp h
  refine gg_pI aMi250 rfl rfl rfl rfl (by decide) (pI_of (sh11_z ha0) hxI31_2) ?_
  refine go_ops aMi250 2 _ (f1 := (36, ([(1, .int ((((2 : Int32) * (I a0 47)) + (2 : Int32)) - (I a0 46))), (0, .ref a0)], [.ref a0, .int ((((2 : Int32) * (I a0 47)) + (2 : Int32)) - (I a0 46))]))) rfl ?_
  refine gg_gI aMi250 rfl rfl rfl (gI_of (sh11_z ha0)) ?_
  refine gg_br (b := decide (((((2 : Int32) * (I a0 47)) + (2 : Int32)) - (I a0 46)) = (I31_2 a0 47))) (tg := 54) (off := 15) aMi250 rfl rfl rfl rfl (fun hb => ?_) (fun hb => ?_)
  · rw [if_pos (of_decide_eq_true hb)] at h
    refine go_le (lv1 := [(0, .ref a0), (1, .int ((((2 : Int32) * (I a0 47)) + (2 : Int32)) - (I a0 46)))]) (aLe_of (show (List.map (fun q => q.1) ([(0, .ref a0), (1, .int ((((2 : Int32) * (I a0 47)) + (2 : Int32)) - (I a0 46)))] : ALv)).Nodup from (by show ([0, 1] : List Nat).Nodup; decide)) (aSubL_cons rfl (aSubL_cons rfl aSubL_nil))) ?_
    exact Tf250_b54 hd a0 ha0 ((((2 : Int32) * (I a0 47)) + (2 : Int32)) - (I a0 46)) I31_2 _ h
  · rw [if_neg (of_decide_eq_false hb)] at h
    refine go_ops aMi250 3 _ (f1 := (45, ([(1, .int ((((2 : Int32) * (I a0 47)) + (2 : Int32)) - (I a0 46))), (0, .ref a0)], [.ref a0, .int (2 : Int32), .int ((((2 : Int32) * (I a0 47)) + (2 : Int32)) - (I a0 46))]))) rfl ?_
    refine gg_gI aMi250 rfl rfl rfl (gI_of (sh11_z ha0)) ?_
    refine go_ops aMi250 3 _ (f1 := (51, ([(1, .int ((((2 : Int32) * (I a0 47)) + (2 : Int32)) - (I a0 46))), (0, .ref a0)], [.int (((2 : Int32) * (I31_2 a0 47)) + (1 : Int32)), .int ((((2 : Int32) * (I a0 47)) + (2 : Int32)) - (I a0 46))]))) rfl ?_
    refine gg_br (b := decide (¬ ((((2 : Int32) * (I a0 47)) + (2 : Int32)) - (I a0 46)) = (((2 : Int32) * (I31_2 a0 47)) + (1 : Int32)))) (tg := 74) (off := 23) aMi250 rfl rfl rfl rfl (fun hb => ?_) (fun hb => ?_)
    · rw [if_pos (of_decide_eq_true hb)] at h
      refine go_ops aMi250 2 _ (f1 := (76, ([(1, .int ((((2 : Int32) * (I a0 47)) + (2 : Int32)) - (I a0 46))), (0, .ref a0)], [.ref a0, .int ((((2 : Int32) * (I a0 47)) + (2 : Int32)) - (I a0 46))]))) rfl ?_
      refine gg_gI aMi250 rfl rfl rfl (gI_of (sh11_z ha0)) ?_
      refine gg_br (b := decide ((I31_2 a0 47) ≤ ((((2 : Int32) * (I a0 47)) + (2 : Int32)) - (I a0 46)))) (tg := 86) (off := 7) aMi250 rfl rfl rfl rfl (fun hb => ?_) (fun hb => ?_)
      · rw [if_pos (of_decide_eq_true hb)] at h
        refine go_ops aMi250 2 _ (f1 := (88, ([(1, .int ((((2 : Int32) * (I a0 47)) + (2 : Int32)) - (I a0 46))), (0, .ref a0)], [.ref a0, .int ((((2 : Int32) * (I a0 47)) + (2 : Int32)) - (I a0 46))]))) rfl ?_
        refine gg_gI aMi250 rfl rfl rfl (gI_of (sh11_z ha0)) ?_
        refine go_ops aMi250 3 _ (f1 := (94, ([(1, .int ((((2 : Int32) * (I a0 47)) + (2 : Int32)) - (I a0 46))), (0, .ref a0)], [.int ((((((2 : Int32) * (I a0 47)) + (2 : Int32)) - (I a0 46)) - (I31_2 a0 47)) - (1 : Int32))]))) rfl ?_
        refine go_le (lv1 := [(0, .ref a0), (1, .int ((((2 : Int32) * (I a0 47)) + (2 : Int32)) - (I a0 46)))]) (aLe_of (show (List.map (fun q => q.1) ([(0, .ref a0), (1, .int ((((2 : Int32) * (I a0 47)) + (2 : Int32)) - (I a0 46)))] : ALv)).Nodup from (by show ([0, 1] : List Nat).Nodup; decide)) (aSubL_cons rfl (aSubL_cons rfl aSubL_nil))) ?_
        exact Tf250_b94 hd a0 ha0 ((((2 : Int32) * (I a0 47)) + (2 : Int32)) - (I a0 46)) ((((((2 : Int32) * (I a0 47)) + (2 : Int32)) - (I a0 46)) - (I31_2 a0 47)) - (1 : Int32)) I31_2 _ h
      · rw [if_neg (of_decide_eq_false hb)] at h
        refine go_ops aMi250 2 _ (f1 := (94, ([(1, .int ((((2 : Int32) * (I a0 47)) + (2 : Int32)) - (I a0 46))), (0, .ref a0)], [.int ((((2 : Int32) * (I a0 47)) + (2 : Int32)) - (I a0 46))]))) rfl ?_
        refine go_le (lv1 := [(0, .ref a0), (1, .int ((((2 : Int32) * (I a0 47)) + (2 : Int32)) - (I a0 46)))]) (aLe_of (show (List.map (fun q => q.1) ([(0, .ref a0), (1, .int ((((2 : Int32) * (I a0 47)) + (2 : Int32)) - (I a0 46)))] : ALv)).Nodup from (by show ([0, 1] : List Nat).Nodup; decide)) (aSubL_cons rfl (aSubL_cons rfl aSubL_nil))) ?_
        exact Tf250_b94 hd a0 ha0 ((((2 : Int32) * (I a0 47)) + (2 : Int32)) - (I a0 46)) ((((2 : Int32) * (I a0 47)) + (2 : Int32)) - (I a0 46)) I31_2 _ h
    · rw [if_neg (of_decide_eq_false hb)] at h
      refine go_le (lv1 := [(0, .ref a0), (1, .int ((((2 : Int32) * (I a0 47)) + (2 : Int32)) - (I a0 46)))]) (aLe_of (show (List.map (fun q => q.1) ([(0, .ref a0), (1, .int ((((2 : Int32) * (I a0 47)) + (2 : Int32)) - (I a0 46)))] : ALv)).Nodup from (by show ([0, 1] : List Nat).Nodup; decide)) (aSubL_cons rfl (aSubL_cons rfl aSubL_nil))) ?_
      exact Tf250_b54 hd a0 ha0 ((((2 : Int32) * (I a0 47)) + (2 : Int32)) - (I a0 46)) I31_2 _ h
-- KernelGymModel.stepsOnce ()V
def f234_b153 (kad : Nat → Nat) (N : Nat) (Z : AZ) (a0 : Nat) (I : AI) : Option (Unit × AI) :=
  (f224 kad N Z a0 I).bind fun r154_1 =>
  some ((), r154_1.2)
set_option maxRecDepth 20000 in
theorem Tf234_b153 {kad : Nat → Nat} {N : Nat} {Z : AZ} {d : Nat} {t : Option Nat × (Nat × Nat)} (hd : 6 ≤ d) : ∀ (a0 : Nat) (ha0 : sh11 kad Z a0) (I : AI) (r : Unit × AI), f234_b153 kad N Z a0 I = some r → aGo kad d 234 (153, ([(0, .ref a0)], [])) (aMem Z I, t) (qV Z t r) := by
  intro a0 ha0 I r h
  unfold f234_b153 at h
  refine go_ops aMi234 1 _ (f1 := (154, ([(0, .ref a0)], [.ref a0]))) rfl ?_
  obtain ⟨r154_1, hxr154_1, h⟩ := Option.bind_eq_some_iff.mp h
  refine gg_cv (as := []) (r := []) aMi234 rfl rfl rfl aMi224 (Nat.le_of_ble_eq_true rfl) rfl (Nat.le_of_ble_eq_true rfl) (Nat.le_of_ble_eq_true rfl) (by omega) (isK_of (sh11_z ha0)) (Tf224 (by omega) a0 ha0 I _ hxr154_1) ?_
  show aGo kad d 234 (157, ([(0, .ref a0)], [])) (aMem Z r154_1.2, t) _
  cases h
  exact go_ret aMi234 rfl rfl ⟨rfl, rfl⟩
def f234_b150 (kad : Nat → Nat) (N : Nat) (Z : AZ) (a0 : Nat) (s0 : Int32) (I : AI) : Option (Unit × AI) :=
  (wI I a0 35 s0).bind fun I150_1 =>
  f234_b153 kad N Z a0 I150_1
set_option maxRecDepth 20000 in
theorem Tf234_b150 {kad : Nat → Nat} {N : Nat} {Z : AZ} {d : Nat} {t : Option Nat × (Nat × Nat)} (hd : 6 ≤ d) : ∀ (a0 : Nat) (ha0 : sh11 kad Z a0) (s0 : Int32) (I : AI) (r : Unit × AI), f234_b150 kad N Z a0 s0 I = some r → aGo kad d 234 (150, ([(0, .ref a0)], [.int s0, .ref a0])) (aMem Z I, t) (qV Z t r) := by
  intro a0 ha0 s0 I r h
  unfold f234_b150 at h
  obtain ⟨I150_1, hxI150_1, h⟩ := Option.bind_eq_some_iff.mp h
  refine gg_pI aMi234 rfl rfl rfl rfl (by decide) (pI_of (sh11_z ha0) hxI150_1) ?_
  exact Tf234_b153 hd a0 ha0 I150_1 _ h
def f234_b127 (kad : Nat → Nat) (N : Nat) (Z : AZ) (a0 : Nat) (s0 : Int32) (I : AI) : Option (Unit × AI) :=
  (wB I a0 32 s0).bind fun I127_1 =>
  if ¬ (I127_1 a0 35) = (I127_1 a0 34) then
    f234_b150 kad N Z a0 (I127_1 a0 35) I127_1
  else
    f234_b150 kad N Z a0 (0 : Int32) I127_1
set_option maxRecDepth 20000 in
theorem Tf234_b127 {kad : Nat → Nat} {N : Nat} {Z : AZ} {d : Nat} {t : Option Nat × (Nat × Nat)} (hd : 6 ≤ d) : ∀ (a0 : Nat) (ha0 : sh11 kad Z a0) (s0 : Int32) (I : AI) (r : Unit × AI), f234_b127 kad N Z a0 s0 I = some r → aGo kad d 234 (127, ([(0, .ref a0)], [.int s0, .ref a0])) (aMem Z I, t) (qV Z t r) := by
  intro a0 ha0 s0 I r h
  unfold f234_b127 at h
  obtain ⟨I127_1, hxI127_1, h⟩ := Option.bind_eq_some_iff.mp h
  refine gg_pB aMi234 rfl rfl rfl rfl (by decide) (pB_of (sh11_z ha0) hxI127_1) ?_
  refine go_ops aMi234 2 _ (f1 := (132, ([(0, .ref a0)], [.ref a0, .ref a0]))) rfl ?_
  refine gg_gI aMi234 rfl rfl rfl (gI_of (sh11_z ha0)) ?_
  refine go_ops aMi234 1 _ (f1 := (136, ([(0, .ref a0)], [.ref a0, .int (I127_1 a0 35), .ref a0]))) rfl ?_
  refine gg_gI aMi234 rfl rfl rfl (gI_of (sh11_z ha0)) ?_
  refine gg_br (b := decide (¬ (I127_1 a0 35) = (I127_1 a0 34))) (tg := 146) (off := 7) aMi234 rfl rfl rfl rfl (fun hb => ?_) (fun hb => ?_)
  · rw [if_pos (of_decide_eq_true hb)] at h
    refine go_ops aMi234 1 _ (f1 := (147, ([(0, .ref a0)], [.ref a0, .ref a0]))) rfl ?_
    refine gg_gI aMi234 rfl rfl rfl (gI_of (sh11_z ha0)) ?_
    exact Tf234_b150 hd a0 ha0 (I127_1 a0 35) I127_1 _ h
  · rw [if_neg (of_decide_eq_false hb)] at h
    refine go_ops aMi234 2 _ (f1 := (150, ([(0, .ref a0)], [.int (0 : Int32), .ref a0]))) rfl ?_
    exact Tf234_b150 hd a0 ha0 (0 : Int32) I127_1 _ h
def f234_b122 (kad : Nat → Nat) (N : Nat) (Z : AZ) (a0 : Nat) (I : AI) : Option (Unit × AI) :=
  f234_b127 kad N Z a0 (1 : Int32) I
set_option maxRecDepth 20000 in
theorem Tf234_b122 {kad : Nat → Nat} {N : Nat} {Z : AZ} {d : Nat} {t : Option Nat × (Nat × Nat)} (hd : 6 ≤ d) : ∀ (a0 : Nat) (ha0 : sh11 kad Z a0) (I : AI) (r : Unit × AI), f234_b122 kad N Z a0 I = some r → aGo kad d 234 (122, ([(0, .ref a0)], [.ref a0])) (aMem Z I, t) (qV Z t r) := by
  intro a0 ha0 I r h
  unfold f234_b122 at h
  refine go_ops aMi234 2 _ (f1 := (127, ([(0, .ref a0)], [.int (1 : Int32), .ref a0]))) rfl ?_
  exact Tf234_b127 hd a0 ha0 (1 : Int32) I _ h
def f234_b76 (kad : Nat → Nat) (N : Nat) (Z : AZ) (a0 : Nat) (I : AI) : Option (Unit × AI) :=
  (wI I a0 38 ((I a0 38) + (1 : Int32))).bind fun I83_1 =>
  if (I83_1 a0 34) ≤ 0 then
    f234_b153 kad N Z a0 I83_1
  else
    (wI I83_1 a0 35 ((I83_1 a0 35) + (1 : Int32))).bind fun I100_2 =>
    if ¬ (I100_2 a0 32) = 0 then
      f234_b122 kad N Z a0 I100_2
    else
      if ¬ (I100_2 a0 35) = (I100_2 a0 34) then
        f234_b127 kad N Z a0 (0 : Int32) I100_2
      else
        f234_b122 kad N Z a0 I100_2
set_option maxRecDepth 20000 in
theorem Tf234_b76 {kad : Nat → Nat} {N : Nat} {Z : AZ} {d : Nat} {t : Option Nat × (Nat × Nat)} (hd : 6 ≤ d) : ∀ (a0 : Nat) (ha0 : sh11 kad Z a0) (I : AI) (r : Unit × AI), f234_b76 kad N Z a0 I = some r → aGo kad d 234 (76, ([(0, .ref a0)], [])) (aMem Z I, t) (qV Z t r) := by
  intro a0 ha0 I r h
  unfold f234_b76 at h
  refine go_ops aMi234 2 _ (f1 := (78, ([(0, .ref a0)], [.ref a0, .ref a0]))) rfl ?_
  refine gg_gI aMi234 rfl rfl rfl (gI_of (sh11_z ha0)) ?_
  refine go_ops aMi234 2 _ (f1 := (83, ([(0, .ref a0)], [.int ((I a0 38) + (1 : Int32)), .ref a0]))) rfl ?_
  obtain ⟨I83_1, hxI83_1, h⟩ := Option.bind_eq_some_iff.mp h
  refine gg_pI aMi234 rfl rfl rfl rfl (by decide) (pI_of (sh11_z ha0) hxI83_1) ?_
  refine go_ops aMi234 1 _ (f1 := (87, ([(0, .ref a0)], [.ref a0]))) rfl ?_
  refine gg_gI aMi234 rfl rfl rfl (gI_of (sh11_z ha0)) ?_
  refine gg_br (b := decide ((I83_1 a0 34) ≤ 0)) (tg := 153) (off := 63) aMi234 rfl rfl rfl rfl (fun hb => ?_) (fun hb => ?_)
  · rw [if_pos (of_decide_eq_true hb)] at h
    exact Tf234_b153 hd a0 ha0 I83_1 _ h
  · rw [if_neg (of_decide_eq_false hb)] at h
    refine go_ops aMi234 2 _ (f1 := (95, ([(0, .ref a0)], [.ref a0, .ref a0]))) rfl ?_
    refine gg_gI aMi234 rfl rfl rfl (gI_of (sh11_z ha0)) ?_
    refine go_ops aMi234 2 _ (f1 := (100, ([(0, .ref a0)], [.int ((I83_1 a0 35) + (1 : Int32)), .ref a0]))) rfl ?_
    obtain ⟨I100_2, hxI100_2, h⟩ := Option.bind_eq_some_iff.mp h
    refine gg_pI aMi234 rfl rfl rfl rfl (by decide) (pI_of (sh11_z ha0) hxI100_2) ?_
    refine go_ops aMi234 2 _ (f1 := (105, ([(0, .ref a0)], [.ref a0, .ref a0]))) rfl ?_
    refine gg_gI aMi234 rfl rfl rfl (gI_of (sh11_z ha0)) ?_
    refine gg_br (b := decide (¬ (I100_2 a0 32) = 0)) (tg := 122) (off := 14) aMi234 rfl rfl rfl rfl (fun hb => ?_) (fun hb => ?_)
    · rw [if_pos (of_decide_eq_true hb)] at h
      exact Tf234_b122 hd a0 ha0 I100_2 _ h
    · rw [if_neg (of_decide_eq_false hb)] at h
      refine go_ops aMi234 1 _ (f1 := (112, ([(0, .ref a0)], [.ref a0, .ref a0]))) rfl ?_
      refine gg_gI aMi234 rfl rfl rfl (gI_of (sh11_z ha0)) ?_
      refine go_ops aMi234 1 _ (f1 := (116, ([(0, .ref a0)], [.ref a0, .int (I100_2 a0 35), .ref a0]))) rfl ?_
      refine gg_gI aMi234 rfl rfl rfl (gI_of (sh11_z ha0)) ?_
      refine gg_br (b := decide (¬ (I100_2 a0 35) = (I100_2 a0 34))) (tg := 126) (off := 7) aMi234 rfl rfl rfl rfl (fun hb => ?_) (fun hb => ?_)
      · rw [if_pos (of_decide_eq_true hb)] at h
        refine go_ops aMi234 1 _ (f1 := (127, ([(0, .ref a0)], [.int (0 : Int32), .ref a0]))) rfl ?_
        exact Tf234_b127 hd a0 ha0 (0 : Int32) I100_2 _ h
      · rw [if_neg (of_decide_eq_false hb)] at h
        exact Tf234_b122 hd a0 ha0 I100_2 _ h
def f234_b65 (kad : Nat → Nat) (N : Nat) (Z : AZ) (a0 : Nat) (I : AI) : Option (Unit × AI) :=
  (f226 kad N Z a0 I).bind fun r66_1 =>
  f234_b76 kad N Z a0 r66_1.2
set_option maxRecDepth 20000 in
theorem Tf234_b65 {kad : Nat → Nat} {N : Nat} {Z : AZ} {d : Nat} {t : Option Nat × (Nat × Nat)} (hd : 6 ≤ d) : ∀ (a0 : Nat) (ha0 : sh11 kad Z a0) (I : AI) (r : Unit × AI), f234_b65 kad N Z a0 I = some r → aGo kad d 234 (65, ([(0, .ref a0)], [])) (aMem Z I, t) (qV Z t r) := by
  intro a0 ha0 I r h
  unfold f234_b65 at h
  refine go_ops aMi234 1 _ (f1 := (66, ([(0, .ref a0)], [.ref a0]))) rfl ?_
  obtain ⟨r66_1, hxr66_1, h⟩ := Option.bind_eq_some_iff.mp h
  refine gg_cv (as := []) (r := []) aMi234 rfl rfl rfl aMi226 (Nat.le_of_ble_eq_true rfl) rfl (Nat.le_of_ble_eq_true rfl) (Nat.le_of_ble_eq_true rfl) (by omega) (isK_of (sh11_z ha0)) (Tf226 (by omega) a0 ha0 I _ hxr66_1) ?_
  show aGo kad d 234 (69, ([(0, .ref a0)], [])) (aMem Z r66_1.2, t) _
  refine go_ops aMi234 1 _ (f1 := (76, ([(0, .ref a0)], []))) rfl ?_
  exact Tf234_b76 hd a0 ha0 r66_1.2 _ h
def f234_b72 (kad : Nat → Nat) (N : Nat) (Z : AZ) (a0 : Nat) (I : AI) : Option (Unit × AI) :=
  (f228 kad N Z a0 I).bind fun r73_1 =>
  f234_b76 kad N Z a0 r73_1.2
set_option maxRecDepth 20000 in
theorem Tf234_b72 {kad : Nat → Nat} {N : Nat} {Z : AZ} {d : Nat} {t : Option Nat × (Nat × Nat)} (hd : 6 ≤ d) : ∀ (a0 : Nat) (ha0 : sh11 kad Z a0) (I : AI) (r : Unit × AI), f234_b72 kad N Z a0 I = some r → aGo kad d 234 (72, ([(0, .ref a0)], [])) (aMem Z I, t) (qV Z t r) := by
  intro a0 ha0 I r h
  unfold f234_b72 at h
  refine go_ops aMi234 1 _ (f1 := (73, ([(0, .ref a0)], [.ref a0]))) rfl ?_
  obtain ⟨r73_1, hxr73_1, h⟩ := Option.bind_eq_some_iff.mp h
  refine gg_cv (as := []) (r := []) aMi234 rfl rfl rfl aMi228 (Nat.le_of_ble_eq_true rfl) rfl (Nat.le_of_ble_eq_true rfl) (Nat.le_of_ble_eq_true rfl) (by omega) (isK_of (sh11_z ha0)) (Tf228 (by omega) a0 ha0 I _ hxr73_1) ?_
  show aGo kad d 234 (76, ([(0, .ref a0)], [])) (aMem Z r73_1.2, t) _
  exact Tf234_b76 hd a0 ha0 r73_1.2 _ h
def f234_b30 (kad : Nat → Nat) (N : Nat) (Z : AZ) (a0 : Nat) (I : AI) : Option (Unit × AI) :=
  if (I a0 46) ≤ 0 then
    if (I a0 31) = 0 then
      f234_b72 kad N Z a0 I
    else
      if ¬ (I a0 32) = 0 then
        f234_b65 kad N Z a0 I
      else
        if (I a0 33) = 0 then
          f234_b72 kad N Z a0 I
        else
          f234_b65 kad N Z a0 I
  else
    (f250 kad N Z a0 I).bind fun r38_1 =>
    f234_b76 kad N Z a0 r38_1.2
set_option maxRecDepth 20000 in
theorem Tf234_b30 {kad : Nat → Nat} {N : Nat} {Z : AZ} {d : Nat} {t : Option Nat × (Nat × Nat)} (hd : 6 ≤ d) : ∀ (a0 : Nat) (ha0 : sh11 kad Z a0) (I : AI) (r : Unit × AI), f234_b30 kad N Z a0 I = some r → aGo kad d 234 (30, ([(0, .ref a0)], [])) (aMem Z I, t) (qV Z t r) := by
  intro a0 ha0 I r h
  unfold f234_b30 at h
  refine go_ops aMi234 1 _ (f1 := (31, ([(0, .ref a0)], [.ref a0]))) rfl ?_
  refine gg_gI aMi234 rfl rfl rfl (gI_of (sh11_z ha0)) ?_
  refine gg_br (b := decide ((I a0 46) ≤ 0)) (tg := 44) (off := 10) aMi234 rfl rfl rfl rfl (fun hb => ?_) (fun hb => ?_)
  · rw [if_pos (of_decide_eq_true hb)] at h
    refine go_ops aMi234 1 _ (f1 := (45, ([(0, .ref a0)], [.ref a0]))) rfl ?_
    refine gg_gI aMi234 rfl rfl rfl (gI_of (sh11_z ha0)) ?_
    refine gg_br (b := decide ((I a0 31) = 0)) (tg := 72) (off := 24) aMi234 rfl rfl rfl rfl (fun hb => ?_) (fun hb => ?_)
    · rw [if_pos (of_decide_eq_true hb)] at h
      exact Tf234_b72 hd a0 ha0 I _ h
    · rw [if_neg (of_decide_eq_false hb)] at h
      refine go_ops aMi234 1 _ (f1 := (52, ([(0, .ref a0)], [.ref a0]))) rfl ?_
      refine gg_gI aMi234 rfl rfl rfl (gI_of (sh11_z ha0)) ?_
      refine gg_br (b := decide (¬ (I a0 32) = 0)) (tg := 65) (off := 10) aMi234 rfl rfl rfl rfl (fun hb => ?_) (fun hb => ?_)
      · rw [if_pos (of_decide_eq_true hb)] at h
        exact Tf234_b65 hd a0 ha0 I _ h
      · rw [if_neg (of_decide_eq_false hb)] at h
        refine go_ops aMi234 1 _ (f1 := (59, ([(0, .ref a0)], [.ref a0]))) rfl ?_
        refine gg_gI aMi234 rfl rfl rfl (gI_of (sh11_z ha0)) ?_
        refine gg_br (b := decide ((I a0 33) = 0)) (tg := 72) (off := 10) aMi234 rfl rfl rfl rfl (fun hb => ?_) (fun hb => ?_)
        · rw [if_pos (of_decide_eq_true hb)] at h
          exact Tf234_b72 hd a0 ha0 I _ h
        · rw [if_neg (of_decide_eq_false hb)] at h
          exact Tf234_b65 hd a0 ha0 I _ h
  · rw [if_neg (of_decide_eq_false hb)] at h
    refine go_ops aMi234 1 _ (f1 := (38, ([(0, .ref a0)], [.ref a0]))) rfl ?_
    obtain ⟨r38_1, hxr38_1, h⟩ := Option.bind_eq_some_iff.mp h
    refine gg_cv (as := []) (r := []) aMi234 rfl rfl rfl aMi250 (Nat.le_of_ble_eq_true rfl) rfl (Nat.le_of_ble_eq_true rfl) (Nat.le_of_ble_eq_true rfl) (by omega) (isK_of (sh11_z ha0)) (Tf250 (by omega) a0 ha0 I _ hxr38_1) ?_
    show aGo kad d 234 (41, ([(0, .ref a0)], [])) (aMem Z r38_1.2, t) _
    refine go_ops aMi234 1 _ (f1 := (76, ([(0, .ref a0)], []))) rfl ?_
    exact Tf234_b76 hd a0 ha0 r38_1.2 _ h
def f234 (kad : Nat → Nat) (N : Nat) (Z : AZ) (a0 : Nat) (I : AI) : Option (Unit × AI) :=
  if (1000 : Int32) ≤ (I a0 38) then
    f234_b30 kad N Z a0 I
  else
    (ixA 1000 (I a0 38)).bind fun j19_2 =>
    (wI I (a0 + 20) j19_2 (Int32.ofInt (-1))).bind fun I19_1 =>
    (ixA 1000 (I19_1 a0 38)).bind fun j29_4 =>
    (wI I19_1 (a0 + 21) j29_4 (Int32.ofInt (-1))).bind fun I29_3 =>
    f234_b30 kad N Z a0 I29_3
set_option maxRecDepth 20000 in
theorem Tf234 {kad : Nat → Nat} {N : Nat} {Z : AZ} {d : Nat} {t : Option Nat × (Nat × Nat)} (hd : 6 ≤ d) : ∀ (a0 : Nat) (ha0 : sh11 kad Z a0) (I : AI) (r : Unit × AI), f234 kad N Z a0 I = some r → aGo kad d 234 (0, ([(0, .ref a0)], [])) (aMem Z I, t) (qV Z t r) := by
  intro a0 ha0 I r h
  unfold f234 at h
  refine go_ops aMi234 1 _ (f1 := (1, ([(0, .ref a0)], [.ref a0]))) rfl ?_
  refine gg_gI aMi234 rfl rfl rfl (gI_of (sh11_z ha0)) ?_
  refine go_ops aMi234 1 _ (f1 := (7, ([(0, .ref a0)], [.int (1000 : Int32), .int (I a0 38)]))) rfl ?_
  refine gg_br (b := decide ((1000 : Int32) ≤ (I a0 38))) (tg := 30) (off := 23) aMi234 rfl rfl rfl rfl (fun hb => ?_) (fun hb => ?_)
  · rw [if_pos (of_decide_eq_true hb)] at h
    exact Tf234_b30 hd a0 ha0 I _ h
  · rw [if_neg (of_decide_eq_false hb)] at h
    refine go_ops aMi234 1 _ (f1 := (11, ([(0, .ref a0)], [.ref a0]))) rfl ?_
    refine gg_gR (b := (a0 + 20)) aMi234 rfl rfl rfl (gR_of (sh11_z ha0) (sh11_r44 ha0)) ?_
    refine go_ops aMi234 1 _ (f1 := (15, ([(0, .ref a0)], [.ref a0, .ref (a0 + 20)]))) rfl ?_
    refine gg_gI aMi234 rfl rfl rfl (gI_of (sh11_z ha0)) ?_
    refine go_ops aMi234 1 _ (f1 := (19, ([(0, .ref a0)], [.int (Int32.ofInt (-1)), .int (I a0 38), .ref (a0 + 20)]))) rfl ?_
    obtain ⟨j19_2, hxj19_2, h⟩ := Option.bind_eq_some_iff.mp h
    obtain ⟨I19_1, hxI19_1, h⟩ := Option.bind_eq_some_iff.mp h
    refine gg_sI (Or.inl ⟨rfl, rfl⟩) aMi234 rfl (sI_of (sh11_a44 ha0) hxj19_2 hxI19_1) ?_
    refine go_ops aMi234 1 _ (f1 := (21, ([(0, .ref a0)], [.ref a0]))) rfl ?_
    refine gg_gR (b := (a0 + 21)) aMi234 rfl rfl rfl (gR_of (sh11_z ha0) (sh11_r45 ha0)) ?_
    refine go_ops aMi234 1 _ (f1 := (25, ([(0, .ref a0)], [.ref a0, .ref (a0 + 21)]))) rfl ?_
    refine gg_gI aMi234 rfl rfl rfl (gI_of (sh11_z ha0)) ?_
    refine go_ops aMi234 1 _ (f1 := (29, ([(0, .ref a0)], [.int (Int32.ofInt (-1)), .int (I19_1 a0 38), .ref (a0 + 21)]))) rfl ?_
    obtain ⟨j29_4, hxj29_4, h⟩ := Option.bind_eq_some_iff.mp h
    obtain ⟨I29_3, hxI29_3, h⟩ := Option.bind_eq_some_iff.mp h
    refine gg_sI (Or.inl ⟨rfl, rfl⟩) aMi234 rfl (sI_of (sh11_a45 ha0) hxj29_4 hxI29_3) ?_
    exact Tf234_b30 hd a0 ha0 I29_3 _ h
-- KernelGymModel.checkOfLog ()I
def f252_b30 (kad : Nat → Nat) (N : Nat) (Z : AZ) : Nat → Nat → Int32 → Int32 → AI → Option (Int32 × AI)
  | 0, _, _, _, _ => none
  | F + 1, a0, i1, i2, I =>
    (ixA 256 (0 : Int32)).bind fun j38_1 =>
    if ((8 : Int32) * (I (a0 + 24) j38_1)) ≤ i2 then
      some ((i1 - i1 / (65536 : Int32) * (65536 : Int32)), I)
    else
      (ixA 256 ((8 : Int32) + i2)).bind fun j52_2 =>
      f252_b30 kad N Z F a0 (i1 + (I (a0 + 24) j52_2)) (i2 + (1 : Int32)) I
set_option maxRecDepth 20000 in
theorem Tf252_b30 {kad : Nat → Nat} {N : Nat} {Z : AZ} {d : Nat} {t : Option Nat × (Nat × Nat)} (hd : 0 ≤ d) : ∀ (F : Nat) (a0 : Nat) (ha0 : sh11 kad Z a0) (i1 : Int32) (i2 : Int32) (I : AI) (r : Int32 × AI), f252_b30 kad N Z F a0 i1 i2 I = some r → aGo kad d 252 (30, ([(0, .ref a0), (1, .int i1), (2, .int i2)], [])) (aMem Z I, t) (qI Z t r) := by
  intro F
  induction F with
  | zero => intro a0 ha0 i1 i2 I r h; cases h
  | succ F ih =>
    intro a0 ha0 i1 i2 I r h
    unfold f252_b30 at h
    refine go_ops aMi252 3 _ (f1 := (34, ([(0, .ref a0), (1, .int i1), (2, .int i2)], [.ref a0, .int (8 : Int32), .int i2]))) rfl ?_
    refine gg_gR (b := (a0 + 24)) aMi252 rfl rfl rfl (gR_of (sh11_z ha0) (sh11_r50 ha0)) ?_
    refine go_ops aMi252 1 _ (f1 := (38, ([(0, .ref a0), (1, .int i1), (2, .int i2)], [.int (0 : Int32), .ref (a0 + 24), .int (8 : Int32), .int i2]))) rfl ?_
    obtain ⟨j38_1, hxj38_1, h⟩ := Option.bind_eq_some_iff.mp h
    refine gg_lI (Or.inl ⟨rfl, rfl⟩) aMi252 rfl (lI_of (sh11_a50 ha0) hxj38_1) ?_
    refine go_ops aMi252 1 _ (f1 := (40, ([(0, .ref a0), (1, .int i1), (2, .int i2)], [.int ((8 : Int32) * (I (a0 + 24) j38_1)), .int i2]))) rfl ?_
    refine gg_br (b := decide (((8 : Int32) * (I (a0 + 24) j38_1)) ≤ i2)) (tg := 61) (off := 21) aMi252 rfl rfl rfl rfl (fun hb => ?_) (fun hb => ?_)
    · rw [if_pos (of_decide_eq_true hb)] at h
      refine go_ops aMi252 1 _ (f1 := (62, ([(0, .ref a0), (1, .int i1), (2, .int i2)], [.int i1]))) rfl ?_
      refine gg_kI (Or.inl ⟨rfl, rfl⟩) aMi252 rfl rfl ?_
      refine go_ops aMi252 1 _ (f1 := (65, ([(0, .ref a0), (1, .int i1), (2, .int i2)], [.int (i1 - i1 / (65536 : Int32) * (65536 : Int32))]))) rfl ?_
      cases h
      exact go_ret aMi252 rfl aRetI ⟨rfl, rfl⟩
    · rw [if_neg (of_decide_eq_false hb)] at h
      refine go_ops aMi252 2 _ (f1 := (45, ([(0, .ref a0), (1, .int i1), (2, .int i2)], [.ref a0, .int i1]))) rfl ?_
      refine gg_gR (b := (a0 + 24)) aMi252 rfl rfl rfl (gR_of (sh11_z ha0) (sh11_r50 ha0)) ?_
      refine go_ops aMi252 3 _ (f1 := (52, ([(0, .ref a0), (1, .int i1), (2, .int i2)], [.int ((8 : Int32) + i2), .ref (a0 + 24), .int i1]))) rfl ?_
      obtain ⟨j52_2, hxj52_2, h⟩ := Option.bind_eq_some_iff.mp h
      refine gg_lI (Or.inl ⟨rfl, rfl⟩) aMi252 rfl (lI_of (sh11_a50 ha0) hxj52_2) ?_
      refine go_ops aMi252 4 _ (f1 := (30, ([(2, .int (i2 + (1 : Int32))), (1, .int (i1 + (I (a0 + 24) j52_2))), (0, .ref a0)], []))) rfl ?_
      refine go_le (lv1 := [(0, .ref a0), (1, .int (i1 + (I (a0 + 24) j52_2))), (2, .int (i2 + (1 : Int32)))]) (aLe_of (show (List.map (fun q => q.1) ([(0, .ref a0), (1, .int (i1 + (I (a0 + 24) j52_2))), (2, .int (i2 + (1 : Int32)))] : ALv)).Nodup from (by show ([0, 1, 2] : List Nat).Nodup; decide)) (aSubL_cons rfl (aSubL_cons rfl (aSubL_cons rfl aSubL_nil)))) ?_
      exact ih a0 ha0 (i1 + (I (a0 + 24) j52_2)) (i2 + (1 : Int32)) I _ h
def f252 (kad : Nat → Nat) (N : Nat) (Z : AZ) (a0 : Nat) (I : AI) : Option (Int32 × AI) :=
  (ixA 256 (0 : Int32)).bind fun j5_1 =>
  (ixA 256 (1 : Int32)).bind fun j11_2 =>
  (ixA 256 (2 : Int32)).bind fun j18_3 =>
  (ixA 256 (3 : Int32)).bind fun j25_4 =>
  f252_b30 kad N Z N a0 ((((I (a0 + 24) j5_1) + (I (a0 + 24) j11_2)) + (I (a0 + 24) j18_3)) + (I (a0 + 24) j25_4)) (0 : Int32) I
set_option maxRecDepth 20000 in
theorem Tf252 {kad : Nat → Nat} {N : Nat} {Z : AZ} {d : Nat} {t : Option Nat × (Nat × Nat)} (hd : 0 ≤ d) : ∀ (a0 : Nat) (ha0 : sh11 kad Z a0) (I : AI) (r : Int32 × AI), f252 kad N Z a0 I = some r → aGo kad d 252 (0, ([(0, .ref a0)], [])) (aMem Z I, t) (qI Z t r) := by
  intro a0 ha0 I r h
  unfold f252 at h
  refine go_ops aMi252 1 _ (f1 := (1, ([(0, .ref a0)], [.ref a0]))) rfl ?_
  refine gg_gR (b := (a0 + 24)) aMi252 rfl rfl rfl (gR_of (sh11_z ha0) (sh11_r50 ha0)) ?_
  refine go_ops aMi252 1 _ (f1 := (5, ([(0, .ref a0)], [.int (0 : Int32), .ref (a0 + 24)]))) rfl ?_
  obtain ⟨j5_1, hxj5_1, h⟩ := Option.bind_eq_some_iff.mp h
  refine gg_lI (Or.inl ⟨rfl, rfl⟩) aMi252 rfl (lI_of (sh11_a50 ha0) hxj5_1) ?_
  refine go_ops aMi252 1 _ (f1 := (7, ([(0, .ref a0)], [.ref a0, .int (I (a0 + 24) j5_1)]))) rfl ?_
  refine gg_gR (b := (a0 + 24)) aMi252 rfl rfl rfl (gR_of (sh11_z ha0) (sh11_r50 ha0)) ?_
  refine go_ops aMi252 1 _ (f1 := (11, ([(0, .ref a0)], [.int (1 : Int32), .ref (a0 + 24), .int (I (a0 + 24) j5_1)]))) rfl ?_
  obtain ⟨j11_2, hxj11_2, h⟩ := Option.bind_eq_some_iff.mp h
  refine gg_lI (Or.inl ⟨rfl, rfl⟩) aMi252 rfl (lI_of (sh11_a50 ha0) hxj11_2) ?_
  refine go_ops aMi252 2 _ (f1 := (14, ([(0, .ref a0)], [.ref a0, .int ((I (a0 + 24) j5_1) + (I (a0 + 24) j11_2))]))) rfl ?_
  refine gg_gR (b := (a0 + 24)) aMi252 rfl rfl rfl (gR_of (sh11_z ha0) (sh11_r50 ha0)) ?_
  refine go_ops aMi252 1 _ (f1 := (18, ([(0, .ref a0)], [.int (2 : Int32), .ref (a0 + 24), .int ((I (a0 + 24) j5_1) + (I (a0 + 24) j11_2))]))) rfl ?_
  obtain ⟨j18_3, hxj18_3, h⟩ := Option.bind_eq_some_iff.mp h
  refine gg_lI (Or.inl ⟨rfl, rfl⟩) aMi252 rfl (lI_of (sh11_a50 ha0) hxj18_3) ?_
  refine go_ops aMi252 2 _ (f1 := (21, ([(0, .ref a0)], [.ref a0, .int (((I (a0 + 24) j5_1) + (I (a0 + 24) j11_2)) + (I (a0 + 24) j18_3))]))) rfl ?_
  refine gg_gR (b := (a0 + 24)) aMi252 rfl rfl rfl (gR_of (sh11_z ha0) (sh11_r50 ha0)) ?_
  refine go_ops aMi252 1 _ (f1 := (25, ([(0, .ref a0)], [.int (3 : Int32), .ref (a0 + 24), .int (((I (a0 + 24) j5_1) + (I (a0 + 24) j11_2)) + (I (a0 + 24) j18_3))]))) rfl ?_
  obtain ⟨j25_4, hxj25_4, h⟩ := Option.bind_eq_some_iff.mp h
  refine gg_lI (Or.inl ⟨rfl, rfl⟩) aMi252 rfl (lI_of (sh11_a50 ha0) hxj25_4) ?_
  refine go_ops aMi252 4 _ (f1 := (30, ([(2, .int (0 : Int32)), (1, .int ((((I (a0 + 24) j5_1) + (I (a0 + 24) j11_2)) + (I (a0 + 24) j18_3)) + (I (a0 + 24) j25_4))), (0, .ref a0)], []))) rfl ?_
  refine go_le (lv1 := [(0, .ref a0), (1, .int ((((I (a0 + 24) j5_1) + (I (a0 + 24) j11_2)) + (I (a0 + 24) j18_3)) + (I (a0 + 24) j25_4))), (2, .int (0 : Int32))]) (aLe_of (show (List.map (fun q => q.1) ([(0, .ref a0), (1, .int ((((I (a0 + 24) j5_1) + (I (a0 + 24) j11_2)) + (I (a0 + 24) j18_3)) + (I (a0 + 24) j25_4))), (2, .int (0 : Int32))] : ALv)).Nodup from (by show ([0, 1, 2] : List Nat).Nodup; decide)) (aSubL_cons rfl (aSubL_cons rfl (aSubL_cons rfl aSubL_nil)))) ?_
  exact Tf252_b30 hd N a0 ha0 ((((I (a0 + 24) j5_1) + (I (a0 + 24) j11_2)) + (I (a0 + 24) j18_3)) + (I (a0 + 24) j25_4)) (0 : Int32) I _ h
-- KernelGymModel.mends ()I
def f253_b99 (kad : Nat → Nat) (N : Nat) (Z : AZ) (a0 : Nat) (i1 : Int32) (I : AI) : Option (Int32 × AI) :=
  (f251 kad N Z a0 (0 : Int32) I).bind fun r101_1 =>
  (wI r101_1.2 a0 52 (((r101_1.2) a0 52) + i1)).bind fun I111_2 =>
  some (i1, I111_2)
set_option maxRecDepth 20000 in
theorem Tf253_b99 {kad : Nat → Nat} {N : Nat} {Z : AZ} {d : Nat} {t : Option Nat × (Nat × Nat)} (hd : 1 ≤ d) : ∀ (a0 : Nat) (ha0 : sh11 kad Z a0) (i1 : Int32) (I : AI) (r : Int32 × AI), f253_b99 kad N Z a0 i1 I = some r → aGo kad d 253 (99, ([(0, .ref a0), (1, .int i1)], [])) (aMem Z I, t) (qI Z t r) := by
  intro a0 ha0 i1 I r h
  unfold f253_b99 at h
  refine go_ops aMi253 2 _ (f1 := (101, ([(0, .ref a0), (1, .int i1)], [.int (0 : Int32), .ref a0]))) rfl ?_
  obtain ⟨r101_1, hxr101_1, h⟩ := Option.bind_eq_some_iff.mp h
  refine gg_cv (as := [.int (0 : Int32)]) (r := []) aMi253 rfl rfl rfl aMi251 (Nat.le_of_ble_eq_true rfl) rfl (Nat.le_of_ble_eq_true rfl) (Nat.le_of_ble_eq_true rfl) (by omega) (isK_of (sh11_z ha0)) (Tf251 (by omega) a0 ha0 (0 : Int32) I _ hxr101_1) ?_
  show aGo kad d 253 (104, ([(0, .ref a0), (1, .int i1)], [])) (aMem Z r101_1.2, t) _
  refine go_ops aMi253 2 _ (f1 := (106, ([(0, .ref a0), (1, .int i1)], [.ref a0, .ref a0]))) rfl ?_
  refine gg_gI aMi253 rfl rfl rfl (gI_of (sh11_z ha0)) ?_
  refine go_ops aMi253 2 _ (f1 := (111, ([(0, .ref a0), (1, .int i1)], [.int (((r101_1.2) a0 52) + i1), .ref a0]))) rfl ?_
  obtain ⟨I111_2, hxI111_2, h⟩ := Option.bind_eq_some_iff.mp h
  refine gg_pI aMi253 rfl rfl rfl rfl (by decide) (pI_of (sh11_z ha0) hxI111_2) ?_
  refine go_ops aMi253 1 _ (f1 := (115, ([(0, .ref a0), (1, .int i1)], [.int i1]))) rfl ?_
  cases h
  exact go_ret aMi253 rfl aRetI ⟨rfl, rfl⟩
def f253_b47 (kad : Nat → Nat) (N : Nat) (Z : AZ) : Nat → Nat → Int32 → Int32 → AI → Option (Int32 × AI)
  | 0, _, _, _, _ => none
  | F + 1, a0, i1, i2, I =>
    (ixA 256 (0 : Int32)).bind fun j55_1 =>
    if ((8 : Int32) * (I (a0 + 24) j55_1)) ≤ i2 then
      f253_b99 kad N Z a0 i1 I
    else
      (ixA 256 ((1 : Int32) + (i2 / (8 : Int32)))).bind fun j76_2 =>
      (ixA 256 ((8 : Int32) + i2)).bind fun j91_3 =>
      (ixA 256 (((8 : Int32) * (I (a0 + 24) j76_2)) + (i2 - i2 / (8 : Int32) * (8 : Int32)))).bind fun j92_5 =>
      (wI I (a0 + 24) j92_5 (I (a0 + 24) j91_3)).bind fun I92_4 =>
      f253_b47 kad N Z F a0 i1 (i2 + (1 : Int32)) I92_4
set_option maxRecDepth 20000 in
theorem Tf253_b47 {kad : Nat → Nat} {N : Nat} {Z : AZ} {d : Nat} {t : Option Nat × (Nat × Nat)} (hd : 1 ≤ d) : ∀ (F : Nat) (a0 : Nat) (ha0 : sh11 kad Z a0) (i1 : Int32) (i2 : Int32) (I : AI) (r : Int32 × AI), f253_b47 kad N Z F a0 i1 i2 I = some r → aGo kad d 253 (47, ([(0, .ref a0), (1, .int i1), (2, .int i2)], [])) (aMem Z I, t) (qI Z t r) := by
  intro F
  induction F with
  | zero => intro a0 ha0 i1 i2 I r h; cases h
  | succ F ih =>
    intro a0 ha0 i1 i2 I r h
    unfold f253_b47 at h
    refine go_ops aMi253 3 _ (f1 := (51, ([(0, .ref a0), (1, .int i1), (2, .int i2)], [.ref a0, .int (8 : Int32), .int i2]))) rfl ?_
    refine gg_gR (b := (a0 + 24)) aMi253 rfl rfl rfl (gR_of (sh11_z ha0) (sh11_r50 ha0)) ?_
    refine go_ops aMi253 1 _ (f1 := (55, ([(0, .ref a0), (1, .int i1), (2, .int i2)], [.int (0 : Int32), .ref (a0 + 24), .int (8 : Int32), .int i2]))) rfl ?_
    obtain ⟨j55_1, hxj55_1, h⟩ := Option.bind_eq_some_iff.mp h
    refine gg_lI (Or.inl ⟨rfl, rfl⟩) aMi253 rfl (lI_of (sh11_a50 ha0) hxj55_1) ?_
    refine go_ops aMi253 1 _ (f1 := (57, ([(0, .ref a0), (1, .int i1), (2, .int i2)], [.int ((8 : Int32) * (I (a0 + 24) j55_1)), .int i2]))) rfl ?_
    refine gg_br (b := decide (((8 : Int32) * (I (a0 + 24) j55_1)) ≤ i2)) (tg := 99) (off := 42) aMi253 rfl rfl rfl rfl (fun hb => ?_) (fun hb => ?_)
    · rw [if_pos (of_decide_eq_true hb)] at h
      refine go_le (lv1 := [(0, .ref a0), (1, .int i1)]) (aLe_of (show (List.map (fun q => q.1) ([(0, .ref a0), (1, .int i1)] : ALv)).Nodup from (by show ([0, 1] : List Nat).Nodup; decide)) (aSubL_cons rfl (aSubL_cons rfl aSubL_nil))) ?_
      exact Tf253_b99 hd a0 ha0 i1 I _ h
    · rw [if_neg (of_decide_eq_false hb)] at h
      refine go_ops aMi253 1 _ (f1 := (61, ([(0, .ref a0), (1, .int i1), (2, .int i2)], [.ref a0]))) rfl ?_
      refine gg_gR (b := (a0 + 24)) aMi253 rfl rfl rfl (gR_of (sh11_z ha0) (sh11_r50 ha0)) ?_
      refine go_ops aMi253 2 _ (f1 := (67, ([(0, .ref a0), (1, .int i1), (2, .int i2)], [.ref a0, .int (8 : Int32), .ref (a0 + 24)]))) rfl ?_
      refine gg_gR (b := (a0 + 24)) aMi253 rfl rfl rfl (gR_of (sh11_z ha0) (sh11_r50 ha0)) ?_
      refine go_ops aMi253 5 _ (f1 := (76, ([(0, .ref a0), (1, .int i1), (2, .int i2)], [.int ((1 : Int32) + (i2 / (8 : Int32))), .ref (a0 + 24), .int (8 : Int32), .ref (a0 + 24)]))) rfl ?_
      obtain ⟨j76_2, hxj76_2, h⟩ := Option.bind_eq_some_iff.mp h
      refine gg_lI (Or.inl ⟨rfl, rfl⟩) aMi253 rfl (lI_of (sh11_a50 ha0) hxj76_2) ?_
      refine go_ops aMi253 6 _ (f1 := (84, ([(0, .ref a0), (1, .int i1), (2, .int i2)], [.ref a0, .int (((8 : Int32) * (I (a0 + 24) j76_2)) + (i2 - i2 / (8 : Int32) * (8 : Int32))), .ref (a0 + 24)]))) rfl ?_
      refine gg_gR (b := (a0 + 24)) aMi253 rfl rfl rfl (gR_of (sh11_z ha0) (sh11_r50 ha0)) ?_
      refine go_ops aMi253 3 _ (f1 := (91, ([(0, .ref a0), (1, .int i1), (2, .int i2)], [.int ((8 : Int32) + i2), .ref (a0 + 24), .int (((8 : Int32) * (I (a0 + 24) j76_2)) + (i2 - i2 / (8 : Int32) * (8 : Int32))), .ref (a0 + 24)]))) rfl ?_
      obtain ⟨j91_3, hxj91_3, h⟩ := Option.bind_eq_some_iff.mp h
      refine gg_lI (Or.inl ⟨rfl, rfl⟩) aMi253 rfl (lI_of (sh11_a50 ha0) hxj91_3) ?_
      obtain ⟨j92_5, hxj92_5, h⟩ := Option.bind_eq_some_iff.mp h
      obtain ⟨I92_4, hxI92_4, h⟩ := Option.bind_eq_some_iff.mp h
      refine gg_sI (Or.inl ⟨rfl, rfl⟩) aMi253 rfl (sI_of (sh11_a50 ha0) hxj92_5 hxI92_4) ?_
      refine go_ops aMi253 2 _ (f1 := (47, ([(2, .int (i2 + (1 : Int32))), (0, .ref a0), (1, .int i1)], []))) rfl ?_
      refine go_le (lv1 := [(0, .ref a0), (1, .int i1), (2, .int (i2 + (1 : Int32)))]) (aLe_of (show (List.map (fun q => q.1) ([(0, .ref a0), (1, .int i1), (2, .int (i2 + (1 : Int32)))] : ALv)).Nodup from (by show ([0, 1, 2] : List Nat).Nodup; decide)) (aSubL_cons rfl (aSubL_cons rfl (aSubL_cons rfl aSubL_nil)))) ?_
      exact ih a0 ha0 i1 (i2 + (1 : Int32)) I92_4 _ h
def f253 (kad : Nat → Nat) (N : Nat) (Z : AZ) (a0 : Nat) (I : AI) : Option (Int32 × AI) :=
  (ixA 256 (0 : Int32)).bind fun j5_1 =>
  if ¬ (I (a0 + 24) j5_1) = 0 then
    (ixA 256 (0 : Int32)).bind fun j18_2 =>
    if (3 : Int32) < (I (a0 + 24) j18_2) then
      f253_b99 kad N Z a0 (1 : Int32) I
    else
      (f252 kad N Z a0 I).bind fun r24_3 =>
      (ixA 256 (4 : Int32)).bind fun j32_4 =>
      if ¬ r24_3.1 = (r24_3.2 (a0 + 24) j32_4) then
        f253_b99 kad N Z a0 (1 : Int32) r24_3.2
      else
        (ixA 256 (0 : Int32)).bind fun j42_5 =>
        f253_b47 kad N Z N a0 ((1 : Int32) + (r24_3.2 (a0 + 24) j42_5)) (0 : Int32) r24_3.2
  else
    some ((0 : Int32), I)
set_option maxRecDepth 20000 in
theorem Tf253 {kad : Nat → Nat} {N : Nat} {Z : AZ} {d : Nat} {t : Option Nat × (Nat × Nat)} (hd : 1 ≤ d) : ∀ (a0 : Nat) (ha0 : sh11 kad Z a0) (I : AI) (r : Int32 × AI), f253 kad N Z a0 I = some r → aGo kad d 253 (0, ([(0, .ref a0)], [])) (aMem Z I, t) (qI Z t r) := by
  intro a0 ha0 I r h
  unfold f253 at h
  refine go_ops aMi253 1 _ (f1 := (1, ([(0, .ref a0)], [.ref a0]))) rfl ?_
  refine gg_gR (b := (a0 + 24)) aMi253 rfl rfl rfl (gR_of (sh11_z ha0) (sh11_r50 ha0)) ?_
  refine go_ops aMi253 1 _ (f1 := (5, ([(0, .ref a0)], [.int (0 : Int32), .ref (a0 + 24)]))) rfl ?_
  obtain ⟨j5_1, hxj5_1, h⟩ := Option.bind_eq_some_iff.mp h
  refine gg_lI (Or.inl ⟨rfl, rfl⟩) aMi253 rfl (lI_of (sh11_a50 ha0) hxj5_1) ?_
  refine gg_br (b := decide (¬ (I (a0 + 24) j5_1) = 0)) (tg := 11) (off := 5) aMi253 rfl rfl rfl rfl (fun hb => ?_) (fun hb => ?_)
  · rw [if_pos (of_decide_eq_true hb)] at h
    refine go_ops aMi253 3 _ (f1 := (14, ([(1, .int (1 : Int32)), (0, .ref a0)], [.ref a0]))) rfl ?_
    refine gg_gR (b := (a0 + 24)) aMi253 rfl rfl rfl (gR_of (sh11_z ha0) (sh11_r50 ha0)) ?_
    refine go_ops aMi253 1 _ (f1 := (18, ([(1, .int (1 : Int32)), (0, .ref a0)], [.int (0 : Int32), .ref (a0 + 24)]))) rfl ?_
    obtain ⟨j18_2, hxj18_2, h⟩ := Option.bind_eq_some_iff.mp h
    refine gg_lI (Or.inl ⟨rfl, rfl⟩) aMi253 rfl (lI_of (sh11_a50 ha0) hxj18_2) ?_
    refine go_ops aMi253 1 _ (f1 := (20, ([(1, .int (1 : Int32)), (0, .ref a0)], [.int (3 : Int32), .int (I (a0 + 24) j18_2)]))) rfl ?_
    refine gg_br (b := decide ((3 : Int32) < (I (a0 + 24) j18_2))) (tg := 99) (off := 79) aMi253 rfl rfl rfl rfl (fun hb => ?_) (fun hb => ?_)
    · rw [if_pos (of_decide_eq_true hb)] at h
      refine go_le (lv1 := [(0, .ref a0), (1, .int (1 : Int32))]) (aLe_of (show (List.map (fun q => q.1) ([(0, .ref a0), (1, .int (1 : Int32))] : ALv)).Nodup from (by show ([0, 1] : List Nat).Nodup; decide)) (aSubL_cons rfl (aSubL_cons rfl aSubL_nil))) ?_
      exact Tf253_b99 hd a0 ha0 (1 : Int32) I _ h
    · rw [if_neg (of_decide_eq_false hb)] at h
      refine go_ops aMi253 1 _ (f1 := (24, ([(1, .int (1 : Int32)), (0, .ref a0)], [.ref a0]))) rfl ?_
      obtain ⟨r24_3, hxr24_3, h⟩ := Option.bind_eq_some_iff.mp h
      refine gg_cv (as := []) (r := []) aMi253 rfl rfl rfl aMi252 (Nat.le_of_ble_eq_true rfl) rfl (Nat.le_of_ble_eq_true rfl) (Nat.le_of_ble_eq_true rfl) (by omega) (isK_of (sh11_z ha0)) (Tf252 (by omega) a0 ha0 I _ hxr24_3) ?_
      show aGo kad d 253 (27, ([(1, .int (1 : Int32)), (0, .ref a0)], [.int r24_3.1])) (aMem Z r24_3.2, t) _
      refine go_ops aMi253 1 _ (f1 := (28, ([(1, .int (1 : Int32)), (0, .ref a0)], [.ref a0, .int r24_3.1]))) rfl ?_
      refine gg_gR (b := (a0 + 24)) aMi253 rfl rfl rfl (gR_of (sh11_z ha0) (sh11_r50 ha0)) ?_
      refine go_ops aMi253 1 _ (f1 := (32, ([(1, .int (1 : Int32)), (0, .ref a0)], [.int (4 : Int32), .ref (a0 + 24), .int r24_3.1]))) rfl ?_
      obtain ⟨j32_4, hxj32_4, h⟩ := Option.bind_eq_some_iff.mp h
      refine gg_lI (Or.inl ⟨rfl, rfl⟩) aMi253 rfl (lI_of (sh11_a50 ha0) hxj32_4) ?_
      refine gg_br (b := decide (¬ r24_3.1 = (r24_3.2 (a0 + 24) j32_4))) (tg := 99) (off := 66) aMi253 rfl rfl rfl rfl (fun hb => ?_) (fun hb => ?_)
      · rw [if_pos (of_decide_eq_true hb)] at h
        refine go_le (lv1 := [(0, .ref a0), (1, .int (1 : Int32))]) (aLe_of (show (List.map (fun q => q.1) ([(0, .ref a0), (1, .int (1 : Int32))] : ALv)).Nodup from (by show ([0, 1] : List Nat).Nodup; decide)) (aSubL_cons rfl (aSubL_cons rfl aSubL_nil))) ?_
        exact Tf253_b99 hd a0 ha0 (1 : Int32) r24_3.2 _ h
      · rw [if_neg (of_decide_eq_false hb)] at h
        refine go_ops aMi253 2 _ (f1 := (38, ([(1, .int (1 : Int32)), (0, .ref a0)], [.ref a0, .int (1 : Int32)]))) rfl ?_
        refine gg_gR (b := (a0 + 24)) aMi253 rfl rfl rfl (gR_of (sh11_z ha0) (sh11_r50 ha0)) ?_
        refine go_ops aMi253 1 _ (f1 := (42, ([(1, .int (1 : Int32)), (0, .ref a0)], [.int (0 : Int32), .ref (a0 + 24), .int (1 : Int32)]))) rfl ?_
        obtain ⟨j42_5, hxj42_5, h⟩ := Option.bind_eq_some_iff.mp h
        refine gg_lI (Or.inl ⟨rfl, rfl⟩) aMi253 rfl (lI_of (sh11_a50 ha0) hxj42_5) ?_
        refine go_ops aMi253 4 _ (f1 := (47, ([(2, .int (0 : Int32)), (1, .int ((1 : Int32) + (r24_3.2 (a0 + 24) j42_5))), (0, .ref a0)], []))) rfl ?_
        refine go_le (lv1 := [(0, .ref a0), (1, .int ((1 : Int32) + (r24_3.2 (a0 + 24) j42_5))), (2, .int (0 : Int32))]) (aLe_of (show (List.map (fun q => q.1) ([(0, .ref a0), (1, .int ((1 : Int32) + (r24_3.2 (a0 + 24) j42_5))), (2, .int (0 : Int32))] : ALv)).Nodup from (by show ([0, 1, 2] : List Nat).Nodup; decide)) (aSubL_cons rfl (aSubL_cons rfl (aSubL_cons rfl aSubL_nil)))) ?_
        exact Tf253_b47 hd N a0 ha0 ((1 : Int32) + (r24_3.2 (a0 + 24) j42_5)) (0 : Int32) r24_3.2 _ h
  · rw [if_neg (of_decide_eq_false hb)] at h
    refine go_ops aMi253 1 _ (f1 := (10, ([(0, .ref a0)], [.int (0 : Int32)]))) rfl ?_
    cases h
    exact go_ret aMi253 rfl aRetI ⟨rfl, rfl⟩
