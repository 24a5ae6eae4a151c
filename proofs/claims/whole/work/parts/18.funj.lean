-- KernelGymModel.shifted (IIZ)I
def f229_b16 (kad : Nat → Nat) (N : Nat) (Z : AZ) (s0 : Int32) (I : AI) : Option (Int32 × AI) :=
  some (s0, I)
set_option maxRecDepth 20000 in
theorem Tf229_b16 {kad : Nat → Nat} {N : Nat} {Z : AZ} {d : Nat} {t : Option Nat × (Nat × Nat)} (hd : 0 ≤ d) : ∀ (s0 : Int32) (I : AI) (r : Int32 × AI), f229_b16 kad N Z s0 I = some r → aGo kad d 229 (16, ([], [.int s0])) (aMem Z I, t) (qI Z t r) := by
  intro s0 I r h
  unfold f229_b16 at h
  cases h
  exact go_ret aMi229 rfl aRetI ⟨rfl, rfl⟩
def f229 (kad : Nat → Nat) (N : Nat) (Z : AZ) (i0 : Int32) (i1 : Int32) (i2 : Int32) (I : AI) : Option (Int32 × AI) :=
  if i2 = 0 then
    f229_b16 kad N Z (i0 >>> (i1 &&& 31)) I
  else
    f229_b16 kad N Z ((i0 <<< (i1 &&& 31)) - (i0 <<< (i1 &&& 31)) / (65536 : Int32) * (65536 : Int32)) I
set_option maxRecDepth 20000 in
theorem Tf229 {kad : Nat → Nat} {N : Nat} {Z : AZ} {d : Nat} {t : Option Nat × (Nat × Nat)} (hd : 0 ≤ d) : ∀ (i0 : Int32) (i1 : Int32) (i2 : Int32) (I : AI) (r : Int32 × AI), f229 kad N Z i0 i1 i2 I = some r → aGo kad d 229 (0, ([(0, .int i0), (1, .int i1), (2, .int i2)], [])) (aMem Z I, t) (qI Z t r) := by
  intro i0 i1 i2 I r h
  unfold f229 at h
  refine go_ops aMi229 1 _ (f1 := (1, ([(0, .int i0), (1, .int i1), (2, .int i2)], [.int i2]))) rfl ?_
  refine gg_br (b := decide (i2 = 0)) (tg := 13) (off := 12) aMi229 rfl rfl rfl rfl (fun hb => ?_) (fun hb => ?_)
  · rw [if_pos (of_decide_eq_true hb)] at h
    refine go_ops aMi229 3 _ (f1 := (16, ([(0, .int i0), (1, .int i1), (2, .int i2)], [.int (i0 >>> (i1 &&& 31))]))) rfl ?_
    refine go_le (lv1 := []) (aLe_of (show (List.map (fun q => q.1) ([] : ALv)).Nodup from (by show ([] : List Nat).Nodup; decide)) aSubL_nil) ?_
    exact Tf229_b16 hd (i0 >>> (i1 &&& 31)) I _ h
  · rw [if_neg (of_decide_eq_false hb)] at h
    refine go_ops aMi229 3 _ (f1 := (7, ([(0, .int i0), (1, .int i1), (2, .int i2)], [.int (i0 <<< (i1 &&& 31))]))) rfl ?_
    refine gg_kI (Or.inl ⟨rfl, rfl⟩) aMi229 rfl rfl ?_
    refine go_ops aMi229 2 _ (f1 := (16, ([(0, .int i0), (1, .int i1), (2, .int i2)], [.int ((i0 <<< (i1 &&& 31)) - (i0 <<< (i1 &&& 31)) / (65536 : Int32) * (65536 : Int32))]))) rfl ?_
    refine go_le (lv1 := []) (aLe_of (show (List.map (fun q => q.1) ([] : ALv)).Nodup from (by show ([] : List Nat).Nodup; decide)) aSubL_nil) ?_
    exact Tf229_b16 hd ((i0 <<< (i1 &&& 31)) - (i0 <<< (i1 &&& 31)) / (65536 : Int32) * (65536 : Int32)) I _ h
-- KernelGymModel.made (III)J
def f230_b92 (kad : Nat → Nat) (N : Nat) (Z : AZ) (s0 : Int64) (I : AI) : Option (Int64 × AI) :=
  some (s0, I)
set_option maxRecDepth 20000 in
theorem Tf230_b92 {kad : Nat → Nat} {N : Nat} {Z : AZ} {d : Nat} {t : Option Nat × (Nat × Nat)} (hd : 1 ≤ d) : ∀ (s0 : Int64) (I : AI) (r : Int64 × AI), f230_b92 kad N Z s0 I = some r → aGo kad d 230 (92, ([], [.long s0])) (aMem Z I, t) (qJ Z t r) := by
  intro s0 I r h
  unfold f230_b92 at h
  cases h
  exact go_ret aMi230 rfl rfl ⟨rfl, rfl⟩
def f230_b24 (kad : Nat → Nat) (N : Nat) (Z : AZ) (i1 : Int32) (i2 : Int32) (I : AI) : Option (Int64 × AI) :=
  f230_b92 kad N Z ((i1.toInt64) - (i2.toInt64)) I
set_option maxRecDepth 20000 in
theorem Tf230_b24 {kad : Nat → Nat} {N : Nat} {Z : AZ} {d : Nat} {t : Option Nat × (Nat × Nat)} (hd : 1 ≤ d) : ∀ (i1 : Int32) (i2 : Int32) (I : AI) (r : Int64 × AI), f230_b24 kad N Z i1 i2 I = some r → aGo kad d 230 (24, ([(1, .int i1), (2, .int i2)], [])) (aMem Z I, t) (qJ Z t r) := by
  intro i1 i2 I r h
  unfold f230_b24 at h
  refine go_ops aMi230 6 _ (f1 := (92, ([(1, .int i1), (2, .int i2)], [.long ((i1.toInt64) - (i2.toInt64))]))) rfl ?_
  refine go_le (lv1 := []) (aLe_of (show (List.map (fun q => q.1) ([] : ALv)).Nodup from (by show ([] : List Nat).Nodup; decide)) aSubL_nil) ?_
  exact Tf230_b92 hd ((i1.toInt64) - (i2.toInt64)) I _ h
def f230_b88 (kad : Nat → Nat) (N : Nat) (Z : AZ) (s0 : Int32) (s1 : Int32) (s2 : Int32) (I : AI) : Option (Int64 × AI) :=
  (f229 kad N Z s2 s1 s0 I).bind fun r88_1 =>
  f230_b92 kad N Z (r88_1.1.toInt64) r88_1.2
set_option maxRecDepth 20000 in
theorem Tf230_b88 {kad : Nat → Nat} {N : Nat} {Z : AZ} {d : Nat} {t : Option Nat × (Nat × Nat)} (hd : 1 ≤ d) : ∀ (s0 : Int32) (s1 : Int32) (s2 : Int32) (I : AI) (r : Int64 × AI), f230_b88 kad N Z s0 s1 s2 I = some r → aGo kad d 230 (88, ([], [.int s0, .int s1, .int s2])) (aMem Z I, t) (qJ Z t r) := by
  intro s0 s1 s2 I r h
  unfold f230_b88 at h
  obtain ⟨r88_1, hxr88_1, h⟩ := Option.bind_eq_some_iff.mp h
  refine gg_cs (as := [.int s2, .int s1, .int s0]) (r := []) aMi230 rfl rfl rfl aMi229 rfl (Nat.le_of_ble_eq_true rfl) (Nat.le_of_ble_eq_true rfl) (by omega) (Tf229 (by omega) s2 s1 s0 I _ hxr88_1) ?_
  show aGo kad d 230 (91, ([], [.int r88_1.1])) (aMem Z r88_1.2, t) _
  refine go_ops aMi230 1 _ (f1 := (92, ([], [.long (r88_1.1.toInt64)]))) rfl ?_
  exact Tf230_b92 hd (r88_1.1.toInt64) r88_1.2 _ h
def f230 (kad : Nat → Nat) (N : Nat) (Z : AZ) (i0 : Int32) (i1 : Int32) (i2 : Int32) (I : AI) : Option (Int64 × AI) :=
  if ¬ i0 = (4 : Int32) then
    if i0 = (5 : Int32) then
      f230_b24 kad N Z i1 i2 I
    else
      if ¬ i0 = (11 : Int32) then
        if ¬ i0 = (6 : Int32) then
          if ¬ i0 = (7 : Int32) then
            if ¬ i0 = (8 : Int32) then
              if ¬ i0 = (9 : Int32) then
                f230_b88 kad N Z (0 : Int32) (i2 - i2 / (16 : Int32) * (16 : Int32)) i1 I
              else
                f230_b88 kad N Z (1 : Int32) (i2 - i2 / (16 : Int32) * (16 : Int32)) i1 I
            else
              f230_b92 kad N Z ((i1 ^^^ i2).toInt64) I
          else
            f230_b92 kad N Z ((i1 &&& i2).toInt64) I
        else
          f230_b92 kad N Z ((i1.toInt64) * (i2.toInt64)) I
      else
        f230_b24 kad N Z i1 i2 I
  else
    f230_b92 kad N Z ((i1.toInt64) + (i2.toInt64)) I
set_option maxRecDepth 20000 in
theorem Tf230 {kad : Nat → Nat} {N : Nat} {Z : AZ} {d : Nat} {t : Option Nat × (Nat × Nat)} (hd : 1 ≤ d) : ∀ (i0 : Int32) (i1 : Int32) (i2 : Int32) (I : AI) (r : Int64 × AI), f230 kad N Z i0 i1 i2 I = some r → aGo kad d 230 (0, ([(0, .int i0), (1, .int i1), (2, .int i2)], [])) (aMem Z I, t) (qJ Z t r) := by
  intro i0 i1 i2 I r h
  unfold f230 at h
  refine go_ops aMi230 2 _ (f1 := (2, ([(0, .int i0), (1, .int i1), (2, .int i2)], [.int (4 : Int32), .int i0]))) rfl ?_
  refine gg_br (b := decide (¬ i0 = (4 : Int32))) (tg := 13) (off := 11) aMi230 rfl rfl rfl rfl (fun hb => ?_) (fun hb => ?_)
  · rw [if_pos (of_decide_eq_true hb)] at h
    refine go_ops aMi230 2 _ (f1 := (15, ([(0, .int i0), (1, .int i1), (2, .int i2)], [.int (5 : Int32), .int i0]))) rfl ?_
    refine gg_br (b := decide (i0 = (5 : Int32))) (tg := 24) (off := 9) aMi230 rfl rfl rfl rfl (fun hb => ?_) (fun hb => ?_)
    · rw [if_pos (of_decide_eq_true hb)] at h
      refine go_le (lv1 := [(1, .int i1), (2, .int i2)]) (aLe_of (show (List.map (fun q => q.1) ([(1, .int i1), (2, .int i2)] : ALv)).Nodup from (by show ([1, 2] : List Nat).Nodup; decide)) (aSubL_cons rfl (aSubL_cons rfl aSubL_nil))) ?_
      exact Tf230_b24 hd i1 i2 I _ h
    · rw [if_neg (of_decide_eq_false hb)] at h
      refine go_ops aMi230 2 _ (f1 := (21, ([(0, .int i0), (1, .int i1), (2, .int i2)], [.int (11 : Int32), .int i0]))) rfl ?_
      refine gg_br (b := decide (¬ i0 = (11 : Int32))) (tg := 32) (off := 11) aMi230 rfl rfl rfl rfl (fun hb => ?_) (fun hb => ?_)
      · rw [if_pos (of_decide_eq_true hb)] at h
        refine go_ops aMi230 2 _ (f1 := (35, ([(0, .int i0), (1, .int i1), (2, .int i2)], [.int (6 : Int32), .int i0]))) rfl ?_
        refine gg_br (b := decide (¬ i0 = (6 : Int32))) (tg := 46) (off := 11) aMi230 rfl rfl rfl rfl (fun hb => ?_) (fun hb => ?_)
        · rw [if_pos (of_decide_eq_true hb)] at h
          refine go_ops aMi230 2 _ (f1 := (49, ([(0, .int i0), (1, .int i1), (2, .int i2)], [.int (7 : Int32), .int i0]))) rfl ?_
          refine gg_br (b := decide (¬ i0 = (7 : Int32))) (tg := 59) (off := 10) aMi230 rfl rfl rfl rfl (fun hb => ?_) (fun hb => ?_)
          · rw [if_pos (of_decide_eq_true hb)] at h
            refine go_ops aMi230 2 _ (f1 := (62, ([(0, .int i0), (1, .int i1), (2, .int i2)], [.int (8 : Int32), .int i0]))) rfl ?_
            refine gg_br (b := decide (¬ i0 = (8 : Int32))) (tg := 72) (off := 10) aMi230 rfl rfl rfl rfl (fun hb => ?_) (fun hb => ?_)
            · rw [if_pos (of_decide_eq_true hb)] at h
              refine go_ops aMi230 6 _ (f1 := (80, ([(0, .int i0), (1, .int i1), (2, .int i2)], [.int (9 : Int32), .int i0, .int (i2 - i2 / (16 : Int32) * (16 : Int32)), .int i1]))) rfl ?_
              refine gg_br (b := decide (¬ i0 = (9 : Int32))) (tg := 87) (off := 7) aMi230 rfl rfl rfl rfl (fun hb => ?_) (fun hb => ?_)
              · rw [if_pos (of_decide_eq_true hb)] at h
                refine go_ops aMi230 1 _ (f1 := (88, ([(0, .int i0), (1, .int i1), (2, .int i2)], [.int (0 : Int32), .int (i2 - i2 / (16 : Int32) * (16 : Int32)), .int i1]))) rfl ?_
                refine go_le (lv1 := []) (aLe_of (show (List.map (fun q => q.1) ([] : ALv)).Nodup from (by show ([] : List Nat).Nodup; decide)) aSubL_nil) ?_
                exact Tf230_b88 hd (0 : Int32) (i2 - i2 / (16 : Int32) * (16 : Int32)) i1 I _ h
              · rw [if_neg (of_decide_eq_false hb)] at h
                refine go_ops aMi230 2 _ (f1 := (88, ([(0, .int i0), (1, .int i1), (2, .int i2)], [.int (1 : Int32), .int (i2 - i2 / (16 : Int32) * (16 : Int32)), .int i1]))) rfl ?_
                refine go_le (lv1 := []) (aLe_of (show (List.map (fun q => q.1) ([] : ALv)).Nodup from (by show ([] : List Nat).Nodup; decide)) aSubL_nil) ?_
                exact Tf230_b88 hd (1 : Int32) (i2 - i2 / (16 : Int32) * (16 : Int32)) i1 I _ h
            · rw [if_neg (of_decide_eq_false hb)] at h
              refine go_ops aMi230 5 _ (f1 := (92, ([(0, .int i0), (1, .int i1), (2, .int i2)], [.long ((i1 ^^^ i2).toInt64)]))) rfl ?_
              refine go_le (lv1 := []) (aLe_of (show (List.map (fun q => q.1) ([] : ALv)).Nodup from (by show ([] : List Nat).Nodup; decide)) aSubL_nil) ?_
              exact Tf230_b92 hd ((i1 ^^^ i2).toInt64) I _ h
          · rw [if_neg (of_decide_eq_false hb)] at h
            refine go_ops aMi230 5 _ (f1 := (92, ([(0, .int i0), (1, .int i1), (2, .int i2)], [.long ((i1 &&& i2).toInt64)]))) rfl ?_
            refine go_le (lv1 := []) (aLe_of (show (List.map (fun q => q.1) ([] : ALv)).Nodup from (by show ([] : List Nat).Nodup; decide)) aSubL_nil) ?_
            exact Tf230_b92 hd ((i1 &&& i2).toInt64) I _ h
        · rw [if_neg (of_decide_eq_false hb)] at h
          refine go_ops aMi230 6 _ (f1 := (92, ([(0, .int i0), (1, .int i1), (2, .int i2)], [.long ((i1.toInt64) * (i2.toInt64))]))) rfl ?_
          refine go_le (lv1 := []) (aLe_of (show (List.map (fun q => q.1) ([] : ALv)).Nodup from (by show ([] : List Nat).Nodup; decide)) aSubL_nil) ?_
          exact Tf230_b92 hd ((i1.toInt64) * (i2.toInt64)) I _ h
      · rw [if_neg (of_decide_eq_false hb)] at h
        refine go_le (lv1 := [(1, .int i1), (2, .int i2)]) (aLe_of (show (List.map (fun q => q.1) ([(1, .int i1), (2, .int i2)] : ALv)).Nodup from (by show ([1, 2] : List Nat).Nodup; decide)) (aSubL_cons rfl (aSubL_cons rfl aSubL_nil))) ?_
        exact Tf230_b24 hd i1 i2 I _ h
  · rw [if_neg (of_decide_eq_false hb)] at h
    refine go_ops aMi230 6 _ (f1 := (92, ([(0, .int i0), (1, .int i1), (2, .int i2)], [.long ((i1.toInt64) + (i2.toInt64))]))) rfl ?_
    refine go_le (lv1 := []) (aLe_of (show (List.map (fun q => q.1) ([] : ALv)).Nodup from (by show ([] : List Nat).Nodup; decide)) aSubL_nil) ?_
    exact Tf230_b92 hd ((i1.toInt64) + (i2.toInt64)) I _ h
-- KernelGymModel.reckons (III)V
def f231_b162 (kad : Nat → Nat) (N : Nat) (Z : AZ) (a0 : Nat) (I : AI) : Option (Unit × AI) :=
  some ((), I)
set_option maxRecDepth 20000 in
theorem Tf231_b162 {kad : Nat → Nat} {N : Nat} {Z : AZ} {d : Nat} {t : Option Nat × (Nat × Nat)} (hd : 2 ≤ d) : ∀ (a0 : Nat) (ha0 : sh11 kad Z a0) (I : AI) (r : Unit × AI), f231_b162 kad N Z a0 I = some r → aGo kad d 231 (162, ([], [])) (aMem Z I, t) (qV Z t r) := by
  intro a0 ha0 I r h
  unfold f231_b162 at h
  cases h
  exact go_ret aMi231 rfl rfl ⟨rfl, rfl⟩
def f231_b161 (kad : Nat → Nat) (N : Nat) (Z : AZ) (a0 : Nat) (s0 : Int32) (s1 : Int32) (I : AI) : Option (Unit × AI) :=
  (ixA 4 s1).bind fun j161_2 =>
  (wI I (a0 + 16) j161_2 s0).bind fun I161_1 =>
  f231_b162 kad N Z a0 I161_1
set_option maxRecDepth 20000 in
theorem Tf231_b161 {kad : Nat → Nat} {N : Nat} {Z : AZ} {d : Nat} {t : Option Nat × (Nat × Nat)} (hd : 2 ≤ d) : ∀ (a0 : Nat) (ha0 : sh11 kad Z a0) (s0 : Int32) (s1 : Int32) (I : AI) (r : Unit × AI), f231_b161 kad N Z a0 s0 s1 I = some r → aGo kad d 231 (161, ([], [.int s0, .int s1, .ref (a0 + 16)])) (aMem Z I, t) (qV Z t r) := by
  intro a0 ha0 s0 s1 I r h
  unfold f231_b161 at h
  obtain ⟨j161_2, hxj161_2, h⟩ := Option.bind_eq_some_iff.mp h
  obtain ⟨I161_1, hxI161_1, h⟩ := Option.bind_eq_some_iff.mp h
  refine gg_sI (Or.inl ⟨rfl, rfl⟩) aMi231 rfl (sI_of (sh11_a26 ha0) hxj161_2 hxI161_1) ?_
  exact Tf231_b162 hd a0 ha0 I161_1 _ h
def f231_b136 (kad : Nat → Nat) (N : Nat) (Z : AZ) (a0 : Nat) (i1 : Int32) (i2 : Int32) (i6 : Int32) (s0 : Int32) (I : AI) : Option (Unit × AI) :=
  (wB I a0 29 s0).bind fun I136_1 =>
  if ¬ i1 = (11 : Int32) then
    f231_b161 kad N Z a0 i6 i2 I136_1
  else
    (ixA 4 i2).bind fun j155_2 =>
    f231_b161 kad N Z a0 (I136_1 (a0 + 16) j155_2) i2 I136_1
set_option maxRecDepth 20000 in
theorem Tf231_b136 {kad : Nat → Nat} {N : Nat} {Z : AZ} {d : Nat} {t : Option Nat × (Nat × Nat)} (hd : 2 ≤ d) : ∀ (a0 : Nat) (ha0 : sh11 kad Z a0) (i1 : Int32) (i2 : Int32) (i6 : Int32) (s0 : Int32) (I : AI) (r : Unit × AI), f231_b136 kad N Z a0 i1 i2 i6 s0 I = some r → aGo kad d 231 (136, ([(0, .ref a0), (1, .int i1), (2, .int i2), (6, .int i6)], [.int s0, .ref a0])) (aMem Z I, t) (qV Z t r) := by
  intro a0 ha0 i1 i2 i6 s0 I r h
  unfold f231_b136 at h
  obtain ⟨I136_1, hxI136_1, h⟩ := Option.bind_eq_some_iff.mp h
  refine gg_pB aMi231 rfl rfl rfl rfl (by decide) (pB_of (sh11_z ha0) hxI136_1) ?_
  refine go_ops aMi231 1 _ (f1 := (140, ([(0, .ref a0), (1, .int i1), (2, .int i2), (6, .int i6)], [.ref a0]))) rfl ?_
  refine gg_gR (b := (a0 + 16)) aMi231 rfl rfl rfl (gR_of (sh11_z ha0) (sh11_r26 ha0)) ?_
  refine go_ops aMi231 3 _ (f1 := (147, ([(0, .ref a0), (1, .int i1), (2, .int i2), (6, .int i6)], [.int (11 : Int32), .int i1, .int i2, .ref (a0 + 16)]))) rfl ?_
  refine gg_br (b := decide (¬ i1 = (11 : Int32))) (tg := 159) (off := 12) aMi231 rfl rfl rfl rfl (fun hb => ?_) (fun hb => ?_)
  · rw [if_pos (of_decide_eq_true hb)] at h
    refine go_ops aMi231 1 _ (f1 := (161, ([(0, .ref a0), (1, .int i1), (2, .int i2), (6, .int i6)], [.int i6, .int i2, .ref (a0 + 16)]))) rfl ?_
    refine go_le (lv1 := []) (aLe_of (show (List.map (fun q => q.1) ([] : ALv)).Nodup from (by show ([] : List Nat).Nodup; decide)) aSubL_nil) ?_
    exact Tf231_b161 hd a0 ha0 i6 i2 I136_1 _ h
  · rw [if_neg (of_decide_eq_false hb)] at h
    refine go_ops aMi231 1 _ (f1 := (151, ([(0, .ref a0), (1, .int i1), (2, .int i2), (6, .int i6)], [.ref a0, .int i2, .ref (a0 + 16)]))) rfl ?_
    refine gg_gR (b := (a0 + 16)) aMi231 rfl rfl rfl (gR_of (sh11_z ha0) (sh11_r26 ha0)) ?_
    refine go_ops aMi231 1 _ (f1 := (155, ([(0, .ref a0), (1, .int i1), (2, .int i2), (6, .int i6)], [.int i2, .ref (a0 + 16), .int i2, .ref (a0 + 16)]))) rfl ?_
    obtain ⟨j155_2, hxj155_2, h⟩ := Option.bind_eq_some_iff.mp h
    refine gg_lI (Or.inl ⟨rfl, rfl⟩) aMi231 rfl (lI_of (sh11_a26 ha0) hxj155_2) ?_
    refine go_ops aMi231 1 _ (f1 := (161, ([(0, .ref a0), (1, .int i1), (2, .int i2), (6, .int i6)], [.int (I136_1 (a0 + 16) j155_2), .int i2, .ref (a0 + 16)]))) rfl ?_
    refine go_le (lv1 := []) (aLe_of (show (List.map (fun q => q.1) ([] : ALv)).Nodup from (by show ([] : List Nat).Nodup; decide)) aSubL_nil) ?_
    exact Tf231_b161 hd a0 ha0 (I136_1 (a0 + 16) j155_2) i2 I136_1 _ h
def f231_b122 (kad : Nat → Nat) (N : Nat) (Z : AZ) (a0 : Nat) (i1 : Int32) (i2 : Int32) (i6 : Int32) (s0 : Int32) (I : AI) : Option (Unit × AI) :=
  (wB I a0 30 s0).bind fun I122_1 =>
  if ¬ i6 = 0 then
    f231_b136 kad N Z a0 i1 i2 i6 (0 : Int32) I122_1
  else
    f231_b136 kad N Z a0 i1 i2 i6 (1 : Int32) I122_1
set_option maxRecDepth 20000 in
theorem Tf231_b122 {kad : Nat → Nat} {N : Nat} {Z : AZ} {d : Nat} {t : Option Nat × (Nat × Nat)} (hd : 2 ≤ d) : ∀ (a0 : Nat) (ha0 : sh11 kad Z a0) (i1 : Int32) (i2 : Int32) (i6 : Int32) (s0 : Int32) (I : AI) (r : Unit × AI), f231_b122 kad N Z a0 i1 i2 i6 s0 I = some r → aGo kad d 231 (122, ([(0, .ref a0), (1, .int i1), (2, .int i2), (6, .int i6)], [.int s0, .ref a0])) (aMem Z I, t) (qV Z t r) := by
  intro a0 ha0 i1 i2 i6 s0 I r h
  unfold f231_b122 at h
  obtain ⟨I122_1, hxI122_1, h⟩ := Option.bind_eq_some_iff.mp h
  refine gg_pB aMi231 rfl rfl rfl rfl (by decide) (pB_of (sh11_z ha0) hxI122_1) ?_
  refine go_ops aMi231 2 _ (f1 := (128, ([(0, .ref a0), (1, .int i1), (2, .int i2), (6, .int i6)], [.int i6, .ref a0]))) rfl ?_
  refine gg_br (b := decide (¬ i6 = 0)) (tg := 135) (off := 7) aMi231 rfl rfl rfl rfl (fun hb => ?_) (fun hb => ?_)
  · rw [if_pos (of_decide_eq_true hb)] at h
    refine go_ops aMi231 1 _ (f1 := (136, ([(0, .ref a0), (1, .int i1), (2, .int i2), (6, .int i6)], [.int (0 : Int32), .ref a0]))) rfl ?_
    exact Tf231_b136 hd a0 ha0 i1 i2 i6 (0 : Int32) I122_1 _ h
  · rw [if_neg (of_decide_eq_false hb)] at h
    refine go_ops aMi231 2 _ (f1 := (136, ([(0, .ref a0), (1, .int i1), (2, .int i2), (6, .int i6)], [.int (1 : Int32), .ref a0]))) rfl ?_
    exact Tf231_b136 hd a0 ha0 i1 i2 i6 (1 : Int32) I122_1 _ h
def f231_b117 (kad : Nat → Nat) (N : Nat) (Z : AZ) (a0 : Nat) (i1 : Int32) (i2 : Int32) (i6 : Int32) (I : AI) : Option (Unit × AI) :=
  f231_b122 kad N Z a0 i1 i2 i6 (1 : Int32) I
set_option maxRecDepth 20000 in
theorem Tf231_b117 {kad : Nat → Nat} {N : Nat} {Z : AZ} {d : Nat} {t : Option Nat × (Nat × Nat)} (hd : 2 ≤ d) : ∀ (a0 : Nat) (ha0 : sh11 kad Z a0) (i1 : Int32) (i2 : Int32) (i6 : Int32) (I : AI) (r : Unit × AI), f231_b117 kad N Z a0 i1 i2 i6 I = some r → aGo kad d 231 (117, ([(0, .ref a0), (1, .int i1), (2, .int i2), (6, .int i6)], [.ref a0])) (aMem Z I, t) (qV Z t r) := by
  intro a0 ha0 i1 i2 i6 I r h
  unfold f231_b117 at h
  refine go_ops aMi231 2 _ (f1 := (122, ([(0, .ref a0), (1, .int i1), (2, .int i2), (6, .int i6)], [.int (1 : Int32), .ref a0]))) rfl ?_
  exact Tf231_b122 hd a0 ha0 i1 i2 i6 (1 : Int32) I _ h
def f231 (kad : Nat → Nat) (N : Nat) (Z : AZ) (a0 : Nat) (i1 : Int32) (i2 : Int32) (i3 : Int32) (I : AI) : Option (Unit × AI) :=
  if ¬ i1 = 0 then
    (wI I a0 27 ((I a0 27) + (2 : Int32))).bind fun I17_1 =>
    if ¬ i1 = (1 : Int32) then
      if ¬ i1 = (2 : Int32) then
        if ¬ i1 = (3 : Int32) then
          (ixA 4 i2).bind fun j80_2 =>
          (f230 kad N Z i1 (I17_1 (a0 + 16) j80_2) i3 I17_1).bind fun r82_3 =>
          if (lg_cmp r82_3.1 (0 : Int64)) < 0 then
            f231_b117 kad N Z a0 i1 i2 (((r82_3.1 + (65536 : Int64)) - (r82_3.1 + (65536 : Int64)) / (65536 : Int64) * (65536 : Int64)).toInt32) r82_3.2
          else
            if (lg_cmp r82_3.1 (65536 : Int64)) < 0 then
              f231_b122 kad N Z a0 i1 i2 (((r82_3.1 + (65536 : Int64)) - (r82_3.1 + (65536 : Int64)) / (65536 : Int64) * (65536 : Int64)).toInt32) (0 : Int32) r82_3.2
            else
              f231_b117 kad N Z a0 i1 i2 (((r82_3.1 + (65536 : Int64)) - (r82_3.1 + (65536 : Int64)) / (65536 : Int64) * (65536 : Int64)).toInt32) r82_3.2
        else
          (ixA 4 i2).bind fun j67_4 =>
          (f218 kad N Z a0 i3 (I17_1 (a0 + 16) j67_4) I17_1).bind fun r68_5 =>
          f231_b162 kad N Z a0 r68_5.2
      else
        (ixA 256 i3).bind fun j50_6 =>
        (ixA 4 i2).bind fun j51_8 =>
        (wI I17_1 (a0 + 16) j51_8 (I17_1 (a0 + 15) j50_6)).bind fun I51_7 =>
        f231_b162 kad N Z a0 I51_7
    else
      (ixA 4 i2).bind fun j31_10 =>
      (wI I17_1 (a0 + 16) j31_10 i3).bind fun I31_9 =>
      f231_b162 kad N Z a0 I31_9
  else
    (wI I a0 23 (2 : Int32)).bind fun I6_11 =>
    some ((), I6_11)
set_option maxRecDepth 20000 in
theorem Tf231 {kad : Nat → Nat} {N : Nat} {Z : AZ} {d : Nat} {t : Option Nat × (Nat × Nat)} (hd : 2 ≤ d) : ∀ (a0 : Nat) (ha0 : sh11 kad Z a0) (i1 : Int32) (i2 : Int32) (i3 : Int32) (I : AI) (r : Unit × AI), f231 kad N Z a0 i1 i2 i3 I = some r → aGo kad d 231 (0, ([(0, .ref a0), (1, .int i1), (2, .int i2), (3, .int i3)], [])) (aMem Z I, t) (qV Z t r) := by
  intro a0 ha0 i1 i2 i3 I r h
  unfold f231 at h
  refine go_ops aMi231 1 _ (f1 := (1, ([(0, .ref a0), (1, .int i1), (2, .int i2), (3, .int i3)], [.int i1]))) rfl ?_
  refine gg_br (b := decide (¬ i1 = 0)) (tg := 10) (off := 9) aMi231 rfl rfl rfl rfl (fun hb => ?_) (fun hb => ?_)
  · rw [if_pos (of_decide_eq_true hb)] at h
    refine go_ops aMi231 2 _ (f1 := (12, ([(0, .ref a0), (1, .int i1), (2, .int i2), (3, .int i3)], [.ref a0, .ref a0]))) rfl ?_
    refine gg_gI aMi231 rfl rfl rfl (gI_of (sh11_z ha0)) ?_
    refine go_ops aMi231 2 _ (f1 := (17, ([(0, .ref a0), (1, .int i1), (2, .int i2), (3, .int i3)], [.int ((I a0 27) + (2 : Int32)), .ref a0]))) rfl ?_
    obtain ⟨I17_1, hxI17_1, h⟩ := Option.bind_eq_some_iff.mp h
    refine gg_pI aMi231 rfl rfl rfl rfl (by decide) (pI_of (sh11_z ha0) hxI17_1) ?_
    refine go_ops aMi231 2 _ (f1 := (22, ([(0, .ref a0), (1, .int i1), (2, .int i2), (3, .int i3)], [.int (1 : Int32), .int i1]))) rfl ?_
    refine gg_br (b := decide (¬ i1 = (1 : Int32))) (tg := 35) (off := 13) aMi231 rfl rfl rfl rfl (fun hb => ?_) (fun hb => ?_)
    · rw [if_pos (of_decide_eq_true hb)] at h
      refine go_ops aMi231 2 _ (f1 := (37, ([(0, .ref a0), (1, .int i1), (2, .int i2), (3, .int i3)], [.int (2 : Int32), .int i1]))) rfl ?_
      refine gg_br (b := decide (¬ i1 = (2 : Int32))) (tg := 55) (off := 18) aMi231 rfl rfl rfl rfl (fun hb => ?_) (fun hb => ?_)
      · rw [if_pos (of_decide_eq_true hb)] at h
        refine go_ops aMi231 2 _ (f1 := (57, ([(0, .ref a0), (1, .int i1), (2, .int i2), (3, .int i3)], [.int (3 : Int32), .int i1]))) rfl ?_
        refine gg_br (b := decide (¬ i1 = (3 : Int32))) (tg := 74) (off := 17) aMi231 rfl rfl rfl rfl (fun hb => ?_) (fun hb => ?_)
        · rw [if_pos (of_decide_eq_true hb)] at h
          refine go_ops aMi231 2 _ (f1 := (76, ([(0, .ref a0), (1, .int i1), (2, .int i2), (3, .int i3)], [.ref a0, .int i1]))) rfl ?_
          refine gg_gR (b := (a0 + 16)) aMi231 rfl rfl rfl (gR_of (sh11_z ha0) (sh11_r26 ha0)) ?_
          refine go_ops aMi231 1 _ (f1 := (80, ([(0, .ref a0), (1, .int i1), (2, .int i2), (3, .int i3)], [.int i2, .ref (a0 + 16), .int i1]))) rfl ?_
          obtain ⟨j80_2, hxj80_2, h⟩ := Option.bind_eq_some_iff.mp h
          refine gg_lI (Or.inl ⟨rfl, rfl⟩) aMi231 rfl (lI_of (sh11_a26 ha0) hxj80_2) ?_
          refine go_ops aMi231 1 _ (f1 := (82, ([(0, .ref a0), (1, .int i1), (2, .int i2), (3, .int i3)], [.int i3, .int (I17_1 (a0 + 16) j80_2), .int i1]))) rfl ?_
          obtain ⟨r82_3, hxr82_3, h⟩ := Option.bind_eq_some_iff.mp h
          refine gg_cs (as := [.int i1, .int (I17_1 (a0 + 16) j80_2), .int i3]) (r := []) aMi231 rfl rfl rfl aMi230 rfl (Nat.le_of_ble_eq_true rfl) (Nat.le_of_ble_eq_true rfl) (by omega) (Tf230 (by omega) i1 (I17_1 (a0 + 16) j80_2) i3 I17_1 _ hxr82_3) ?_
          show aGo kad d 231 (85, ([(0, .ref a0), (1, .int i1), (2, .int i2), (3, .int i3)], [.long r82_3.1])) (aMem Z r82_3.2, t) _
          refine go_ops aMi231 2 _ (f1 := (89, ([(4, .long r82_3.1), (0, .ref a0), (1, .int i1), (2, .int i2), (3, .int i3)], [.long r82_3.1]))) rfl ?_
          refine gg_kL aMi231 rfl rfl ?_
          refine go_ops aMi231 1 _ (f1 := (93, ([(4, .long r82_3.1), (0, .ref a0), (1, .int i1), (2, .int i2), (3, .int i3)], [.long (r82_3.1 + (65536 : Int64))]))) rfl ?_
          refine gg_kL aMi231 rfl rfl ?_
          refine go_ops aMi231 7 _ (f1 := (105, ([(6, .int (((r82_3.1 + (65536 : Int64)) - (r82_3.1 + (65536 : Int64)) / (65536 : Int64) * (65536 : Int64)).toInt32)), (4, .long r82_3.1), (0, .ref a0), (1, .int i1), (2, .int i2), (3, .int i3)], [.int (lg_cmp r82_3.1 (0 : Int64)), .ref a0]))) rfl ?_
          refine gg_br (b := decide ((lg_cmp r82_3.1 (0 : Int64)) < 0)) (tg := 117) (off := 12) aMi231 rfl rfl rfl rfl (fun hb => ?_) (fun hb => ?_)
          · rw [if_pos (of_decide_eq_true hb)] at h
            refine go_le (lv1 := [(0, .ref a0), (1, .int i1), (2, .int i2), (6, .int (((r82_3.1 + (65536 : Int64)) - (r82_3.1 + (65536 : Int64)) / (65536 : Int64) * (65536 : Int64)).toInt32))]) (aLe_of (show (List.map (fun q => q.1) ([(0, .ref a0), (1, .int i1), (2, .int i2), (6, .int (((r82_3.1 + (65536 : Int64)) - (r82_3.1 + (65536 : Int64)) / (65536 : Int64) * (65536 : Int64)).toInt32))] : ALv)).Nodup from (by show ([0, 1, 2, 6] : List Nat).Nodup; decide)) (aSubL_cons rfl (aSubL_cons rfl (aSubL_cons rfl (aSubL_cons rfl aSubL_nil))))) ?_
            exact Tf231_b117 hd a0 ha0 i1 i2 (((r82_3.1 + (65536 : Int64)) - (r82_3.1 + (65536 : Int64)) / (65536 : Int64) * (65536 : Int64)).toInt32) r82_3.2 _ h
          · rw [if_neg (of_decide_eq_false hb)] at h
            refine go_ops aMi231 1 _ (f1 := (110, ([(6, .int (((r82_3.1 + (65536 : Int64)) - (r82_3.1 + (65536 : Int64)) / (65536 : Int64) * (65536 : Int64)).toInt32)), (4, .long r82_3.1), (0, .ref a0), (1, .int i1), (2, .int i2), (3, .int i3)], [.long r82_3.1, .ref a0]))) rfl ?_
            refine gg_kL aMi231 rfl rfl ?_
            refine go_ops aMi231 1 _ (f1 := (114, ([(6, .int (((r82_3.1 + (65536 : Int64)) - (r82_3.1 + (65536 : Int64)) / (65536 : Int64) * (65536 : Int64)).toInt32)), (4, .long r82_3.1), (0, .ref a0), (1, .int i1), (2, .int i2), (3, .int i3)], [.int (lg_cmp r82_3.1 (65536 : Int64)), .ref a0]))) rfl ?_
            refine gg_br (b := decide ((lg_cmp r82_3.1 (65536 : Int64)) < 0)) (tg := 121) (off := 7) aMi231 rfl rfl rfl rfl (fun hb => ?_) (fun hb => ?_)
            · rw [if_pos (of_decide_eq_true hb)] at h
              refine go_ops aMi231 1 _ (f1 := (122, ([(6, .int (((r82_3.1 + (65536 : Int64)) - (r82_3.1 + (65536 : Int64)) / (65536 : Int64) * (65536 : Int64)).toInt32)), (4, .long r82_3.1), (0, .ref a0), (1, .int i1), (2, .int i2), (3, .int i3)], [.int (0 : Int32), .ref a0]))) rfl ?_
              refine go_le (lv1 := [(0, .ref a0), (1, .int i1), (2, .int i2), (6, .int (((r82_3.1 + (65536 : Int64)) - (r82_3.1 + (65536 : Int64)) / (65536 : Int64) * (65536 : Int64)).toInt32))]) (aLe_of (show (List.map (fun q => q.1) ([(0, .ref a0), (1, .int i1), (2, .int i2), (6, .int (((r82_3.1 + (65536 : Int64)) - (r82_3.1 + (65536 : Int64)) / (65536 : Int64) * (65536 : Int64)).toInt32))] : ALv)).Nodup from (by show ([0, 1, 2, 6] : List Nat).Nodup; decide)) (aSubL_cons rfl (aSubL_cons rfl (aSubL_cons rfl (aSubL_cons rfl aSubL_nil))))) ?_
              exact Tf231_b122 hd a0 ha0 i1 i2 (((r82_3.1 + (65536 : Int64)) - (r82_3.1 + (65536 : Int64)) / (65536 : Int64) * (65536 : Int64)).toInt32) (0 : Int32) r82_3.2 _ h
            · rw [if_neg (of_decide_eq_false hb)] at h
              refine go_le (lv1 := [(0, .ref a0), (1, .int i1), (2, .int i2), (6, .int (((r82_3.1 + (65536 : Int64)) - (r82_3.1 + (65536 : Int64)) / (65536 : Int64) * (65536 : Int64)).toInt32))]) (aLe_of (show (List.map (fun q => q.1) ([(0, .ref a0), (1, .int i1), (2, .int i2), (6, .int (((r82_3.1 + (65536 : Int64)) - (r82_3.1 + (65536 : Int64)) / (65536 : Int64) * (65536 : Int64)).toInt32))] : ALv)).Nodup from (by show ([0, 1, 2, 6] : List Nat).Nodup; decide)) (aSubL_cons rfl (aSubL_cons rfl (aSubL_cons rfl (aSubL_cons rfl aSubL_nil))))) ?_
              exact Tf231_b117 hd a0 ha0 i1 i2 (((r82_3.1 + (65536 : Int64)) - (r82_3.1 + (65536 : Int64)) / (65536 : Int64) * (65536 : Int64)).toInt32) r82_3.2 _ h
        · rw [if_neg (of_decide_eq_false hb)] at h
          refine go_ops aMi231 3 _ (f1 := (63, ([(0, .ref a0), (1, .int i1), (2, .int i2), (3, .int i3)], [.ref a0, .int i3, .ref a0]))) rfl ?_
          refine gg_gR (b := (a0 + 16)) aMi231 rfl rfl rfl (gR_of (sh11_z ha0) (sh11_r26 ha0)) ?_
          refine go_ops aMi231 1 _ (f1 := (67, ([(0, .ref a0), (1, .int i1), (2, .int i2), (3, .int i3)], [.int i2, .ref (a0 + 16), .int i3, .ref a0]))) rfl ?_
          obtain ⟨j67_4, hxj67_4, h⟩ := Option.bind_eq_some_iff.mp h
          refine gg_lI (Or.inl ⟨rfl, rfl⟩) aMi231 rfl (lI_of (sh11_a26 ha0) hxj67_4) ?_
          obtain ⟨r68_5, hxr68_5, h⟩ := Option.bind_eq_some_iff.mp h
          refine gg_cv (as := [.int i3, .int (I17_1 (a0 + 16) j67_4)]) (r := []) aMi231 rfl rfl rfl aMi218 (Nat.le_of_ble_eq_true rfl) rfl (Nat.le_of_ble_eq_true rfl) (Nat.le_of_ble_eq_true rfl) (by omega) (isK_of (sh11_z ha0)) (Tf218 (by omega) a0 ha0 i3 (I17_1 (a0 + 16) j67_4) I17_1 _ hxr68_5) ?_
          show aGo kad d 231 (71, ([(0, .ref a0), (1, .int i1), (2, .int i2), (3, .int i3)], [])) (aMem Z r68_5.2, t) _
          refine go_ops aMi231 1 _ (f1 := (162, ([(0, .ref a0), (1, .int i1), (2, .int i2), (3, .int i3)], []))) rfl ?_
          refine go_le (lv1 := []) (aLe_of (show (List.map (fun q => q.1) ([] : ALv)).Nodup from (by show ([] : List Nat).Nodup; decide)) aSubL_nil) ?_
          exact Tf231_b162 hd a0 ha0 r68_5.2 _ h
      · rw [if_neg (of_decide_eq_false hb)] at h
        refine go_ops aMi231 1 _ (f1 := (41, ([(0, .ref a0), (1, .int i1), (2, .int i2), (3, .int i3)], [.ref a0]))) rfl ?_
        refine gg_gR (b := (a0 + 16)) aMi231 rfl rfl rfl (gR_of (sh11_z ha0) (sh11_r26 ha0)) ?_
        refine go_ops aMi231 2 _ (f1 := (46, ([(0, .ref a0), (1, .int i1), (2, .int i2), (3, .int i3)], [.ref a0, .int i2, .ref (a0 + 16)]))) rfl ?_
        refine gg_gR (b := (a0 + 15)) aMi231 rfl rfl rfl (gR_of (sh11_z ha0) (sh11_r25 ha0)) ?_
        refine go_ops aMi231 1 _ (f1 := (50, ([(0, .ref a0), (1, .int i1), (2, .int i2), (3, .int i3)], [.int i3, .ref (a0 + 15), .int i2, .ref (a0 + 16)]))) rfl ?_
        obtain ⟨j50_6, hxj50_6, h⟩ := Option.bind_eq_some_iff.mp h
        refine gg_lI (Or.inl ⟨rfl, rfl⟩) aMi231 rfl (lI_of (sh11_a25 ha0) hxj50_6) ?_
        obtain ⟨j51_8, hxj51_8, h⟩ := Option.bind_eq_some_iff.mp h
        obtain ⟨I51_7, hxI51_7, h⟩ := Option.bind_eq_some_iff.mp h
        refine gg_sI (Or.inl ⟨rfl, rfl⟩) aMi231 rfl (sI_of (sh11_a26 ha0) hxj51_8 hxI51_7) ?_
        refine go_ops aMi231 1 _ (f1 := (162, ([(0, .ref a0), (1, .int i1), (2, .int i2), (3, .int i3)], []))) rfl ?_
        refine go_le (lv1 := []) (aLe_of (show (List.map (fun q => q.1) ([] : ALv)).Nodup from (by show ([] : List Nat).Nodup; decide)) aSubL_nil) ?_
        exact Tf231_b162 hd a0 ha0 I51_7 _ h
    · rw [if_neg (of_decide_eq_false hb)] at h
      refine go_ops aMi231 1 _ (f1 := (26, ([(0, .ref a0), (1, .int i1), (2, .int i2), (3, .int i3)], [.ref a0]))) rfl ?_
      refine gg_gR (b := (a0 + 16)) aMi231 rfl rfl rfl (gR_of (sh11_z ha0) (sh11_r26 ha0)) ?_
      refine go_ops aMi231 2 _ (f1 := (31, ([(0, .ref a0), (1, .int i1), (2, .int i2), (3, .int i3)], [.int i3, .int i2, .ref (a0 + 16)]))) rfl ?_
      obtain ⟨j31_10, hxj31_10, h⟩ := Option.bind_eq_some_iff.mp h
      obtain ⟨I31_9, hxI31_9, h⟩ := Option.bind_eq_some_iff.mp h
      refine gg_sI (Or.inl ⟨rfl, rfl⟩) aMi231 rfl (sI_of (sh11_a26 ha0) hxj31_10 hxI31_9) ?_
      refine go_ops aMi231 1 _ (f1 := (162, ([(0, .ref a0), (1, .int i1), (2, .int i2), (3, .int i3)], []))) rfl ?_
      refine go_le (lv1 := []) (aLe_of (show (List.map (fun q => q.1) ([] : ALv)).Nodup from (by show ([] : List Nat).Nodup; decide)) aSubL_nil) ?_
      exact Tf231_b162 hd a0 ha0 I31_9 _ h
  · rw [if_neg (of_decide_eq_false hb)] at h
    refine go_ops aMi231 2 _ (f1 := (6, ([(0, .ref a0), (1, .int i1), (2, .int i2), (3, .int i3)], [.int (2 : Int32), .ref a0]))) rfl ?_
    obtain ⟨I6_11, hxI6_11, h⟩ := Option.bind_eq_some_iff.mp h
    refine gg_pI aMi231 rfl rfl rfl rfl (by decide) (pI_of (sh11_z ha0) hxI6_11) ?_
    cases h
    exact go_ret aMi231 rfl rfl ⟨rfl, rfl⟩
-- KernelGymModel.jumps (III)V
def f232_b120 (kad : Nat → Nat) (N : Nat) (Z : AZ) (a0 : Nat) (I : AI) : Option (Unit × AI) :=
  some ((), I)
set_option maxRecDepth 20000 in
theorem Tf232_b120 {kad : Nat → Nat} {N : Nat} {Z : AZ} {d : Nat} {t : Option Nat × (Nat × Nat)} (hd : 3 ≤ d) : ∀ (a0 : Nat) (ha0 : sh11 kad Z a0) (I : AI) (r : Unit × AI), f232_b120 kad N Z a0 I = some r → aGo kad d 232 (120, ([], [])) (aMem Z I, t) (qV Z t r) := by
  intro a0 ha0 I r h
  unfold f232_b120 at h
  cases h
  exact go_ret aMi232 rfl rfl ⟨rfl, rfl⟩
def f232_b101 (kad : Nat → Nat) (N : Nat) (Z : AZ) (a0 : Nat) (i1 : Int32) (i2 : Int32) (s0 : Int32) (I : AI) : Option (Unit × AI) :=
  (wI I a0 27 s0).bind fun I101_1 =>
  if ¬ i1 = (18 : Int32) then
    f232_b120 kad N Z a0 I101_1
  else
    (f220 kad N Z a0 I101_1).bind fun r116_2 =>
    (ixA 4 i2).bind fun j119_4 =>
    (wI r116_2.2 (a0 + 16) j119_4 r116_2.1).bind fun I119_3 =>
    f232_b120 kad N Z a0 I119_3
set_option maxRecDepth 20000 in
theorem Tf232_b101 {kad : Nat → Nat} {N : Nat} {Z : AZ} {d : Nat} {t : Option Nat × (Nat × Nat)} (hd : 3 ≤ d) : ∀ (a0 : Nat) (ha0 : sh11 kad Z a0) (i1 : Int32) (i2 : Int32) (s0 : Int32) (I : AI) (r : Unit × AI), f232_b101 kad N Z a0 i1 i2 s0 I = some r → aGo kad d 232 (101, ([(0, .ref a0), (1, .int i1), (2, .int i2)], [.int s0, .ref a0])) (aMem Z I, t) (qV Z t r) := by
  intro a0 ha0 i1 i2 s0 I r h
  unfold f232_b101 at h
  obtain ⟨I101_1, hxI101_1, h⟩ := Option.bind_eq_some_iff.mp h
  refine gg_pI aMi232 rfl rfl rfl rfl (by decide) (pI_of (sh11_z ha0) hxI101_1) ?_
  refine go_ops aMi232 2 _ (f1 := (107, ([(0, .ref a0), (1, .int i1), (2, .int i2)], [.int (18 : Int32), .int i1]))) rfl ?_
  refine gg_br (b := decide (¬ i1 = (18 : Int32))) (tg := 120) (off := 13) aMi232 rfl rfl rfl rfl (fun hb => ?_) (fun hb => ?_)
  · rw [if_pos (of_decide_eq_true hb)] at h
    refine go_le (lv1 := []) (aLe_of (show (List.map (fun q => q.1) ([] : ALv)).Nodup from (by show ([] : List Nat).Nodup; decide)) aSubL_nil) ?_
    exact Tf232_b120 hd a0 ha0 I101_1 _ h
  · rw [if_neg (of_decide_eq_false hb)] at h
    refine go_ops aMi232 1 _ (f1 := (111, ([(0, .ref a0), (1, .int i1), (2, .int i2)], [.ref a0]))) rfl ?_
    refine gg_gR (b := (a0 + 16)) aMi232 rfl rfl rfl (gR_of (sh11_z ha0) (sh11_r26 ha0)) ?_
    refine go_ops aMi232 2 _ (f1 := (116, ([(0, .ref a0), (1, .int i1), (2, .int i2)], [.ref a0, .int i2, .ref (a0 + 16)]))) rfl ?_
    obtain ⟨r116_2, hxr116_2, h⟩ := Option.bind_eq_some_iff.mp h
    refine gg_cv (as := []) (r := [.int i2, .ref (a0 + 16)]) aMi232 rfl rfl rfl aMi220 (Nat.le_of_ble_eq_true rfl) rfl (Nat.le_of_ble_eq_true rfl) (Nat.le_of_ble_eq_true rfl) (by omega) (isK_of (sh11_z ha0)) (Tf220 (by omega) a0 ha0 I101_1 _ hxr116_2) ?_
    show aGo kad d 232 (119, ([(0, .ref a0), (1, .int i1), (2, .int i2)], [.int r116_2.1, .int i2, .ref (a0 + 16)])) (aMem Z r116_2.2, t) _
    obtain ⟨j119_4, hxj119_4, h⟩ := Option.bind_eq_some_iff.mp h
    obtain ⟨I119_3, hxI119_3, h⟩ := Option.bind_eq_some_iff.mp h
    refine gg_sI (Or.inl ⟨rfl, rfl⟩) aMi232 rfl (sI_of (sh11_a26 ha0) hxj119_4 hxI119_3) ?_
    refine go_le (lv1 := []) (aLe_of (show (List.map (fun q => q.1) ([] : ALv)).Nodup from (by show ([] : List Nat).Nodup; decide)) aSubL_nil) ?_
    exact Tf232_b120 hd a0 ha0 I119_3 _ h
def f232_b74 (kad : Nat → Nat) (N : Nat) (Z : AZ) (a0 : Nat) (i1 : Int32) (i2 : Int32) (i3 : Int32) (i4 : Int32) (s0 : Int32) (I : AI) : Option (Unit × AI) :=
  if ¬ i1 = (16 : Int32) then
    if s0 = 0 then
      f232_b101 kad N Z a0 i1 i2 i4 I
    else
      f232_b101 kad N Z a0 i1 i2 i3 I
  else
    (f220 kad N Z a0 I).bind fun r84_1 =>
    f232_b101 kad N Z a0 i1 i2 r84_1.1 r84_1.2
set_option maxRecDepth 20000 in
theorem Tf232_b74 {kad : Nat → Nat} {N : Nat} {Z : AZ} {d : Nat} {t : Option Nat × (Nat × Nat)} (hd : 3 ≤ d) : ∀ (a0 : Nat) (ha0 : sh11 kad Z a0) (i1 : Int32) (i2 : Int32) (i3 : Int32) (i4 : Int32) (s0 : Int32) (I : AI) (r : Unit × AI), f232_b74 kad N Z a0 i1 i2 i3 i4 s0 I = some r → aGo kad d 232 (74, ([(0, .ref a0), (1, .int i1), (2, .int i2), (3, .int i3), (4, .int i4)], [.int s0])) (aMem Z I, t) (qV Z t r) := by
  intro a0 ha0 i1 i2 i3 i4 s0 I r h
  unfold f232_b74 at h
  refine go_ops aMi232 4 _ (f1 := (80, ([(5, .int s0), (0, .ref a0), (1, .int i1), (2, .int i2), (3, .int i3), (4, .int i4)], [.int (16 : Int32), .int i1, .ref a0]))) rfl ?_
  refine gg_br (b := decide (¬ i1 = (16 : Int32))) (tg := 90) (off := 10) aMi232 rfl rfl rfl rfl (fun hb => ?_) (fun hb => ?_)
  · rw [if_pos (of_decide_eq_true hb)] at h
    refine go_ops aMi232 1 _ (f1 := (92, ([(5, .int s0), (0, .ref a0), (1, .int i1), (2, .int i2), (3, .int i3), (4, .int i4)], [.int s0, .ref a0]))) rfl ?_
    refine gg_br (b := decide (s0 = 0)) (tg := 99) (off := 7) aMi232 rfl rfl rfl rfl (fun hb => ?_) (fun hb => ?_)
    · rw [if_pos (of_decide_eq_true hb)] at h
      refine go_ops aMi232 1 _ (f1 := (101, ([(5, .int s0), (0, .ref a0), (1, .int i1), (2, .int i2), (3, .int i3), (4, .int i4)], [.int i4, .ref a0]))) rfl ?_
      refine go_le (lv1 := [(0, .ref a0), (1, .int i1), (2, .int i2)]) (aLe_of (show (List.map (fun q => q.1) ([(0, .ref a0), (1, .int i1), (2, .int i2)] : ALv)).Nodup from (by show ([0, 1, 2] : List Nat).Nodup; decide)) (aSubL_cons rfl (aSubL_cons rfl (aSubL_cons rfl aSubL_nil)))) ?_
      exact Tf232_b101 hd a0 ha0 i1 i2 i4 I _ h
    · rw [if_neg (of_decide_eq_false hb)] at h
      refine go_ops aMi232 2 _ (f1 := (101, ([(5, .int s0), (0, .ref a0), (1, .int i1), (2, .int i2), (3, .int i3), (4, .int i4)], [.int i3, .ref a0]))) rfl ?_
      refine go_le (lv1 := [(0, .ref a0), (1, .int i1), (2, .int i2)]) (aLe_of (show (List.map (fun q => q.1) ([(0, .ref a0), (1, .int i1), (2, .int i2)] : ALv)).Nodup from (by show ([0, 1, 2] : List Nat).Nodup; decide)) (aSubL_cons rfl (aSubL_cons rfl (aSubL_cons rfl aSubL_nil)))) ?_
      exact Tf232_b101 hd a0 ha0 i1 i2 i3 I _ h
  · rw [if_neg (of_decide_eq_false hb)] at h
    refine go_ops aMi232 1 _ (f1 := (84, ([(5, .int s0), (0, .ref a0), (1, .int i1), (2, .int i2), (3, .int i3), (4, .int i4)], [.ref a0, .ref a0]))) rfl ?_
    obtain ⟨r84_1, hxr84_1, h⟩ := Option.bind_eq_some_iff.mp h
    refine gg_cv (as := []) (r := [.ref a0]) aMi232 rfl rfl rfl aMi220 (Nat.le_of_ble_eq_true rfl) rfl (Nat.le_of_ble_eq_true rfl) (Nat.le_of_ble_eq_true rfl) (by omega) (isK_of (sh11_z ha0)) (Tf220 (by omega) a0 ha0 I _ hxr84_1) ?_
    show aGo kad d 232 (87, ([(5, .int s0), (0, .ref a0), (1, .int i1), (2, .int i2), (3, .int i3), (4, .int i4)], [.int r84_1.1, .ref a0])) (aMem Z r84_1.2, t) _
    refine go_ops aMi232 1 _ (f1 := (101, ([(5, .int s0), (0, .ref a0), (1, .int i1), (2, .int i2), (3, .int i3), (4, .int i4)], [.int r84_1.1, .ref a0]))) rfl ?_
    refine go_le (lv1 := [(0, .ref a0), (1, .int i1), (2, .int i2)]) (aLe_of (show (List.map (fun q => q.1) ([(0, .ref a0), (1, .int i1), (2, .int i2)] : ALv)).Nodup from (by show ([0, 1, 2] : List Nat).Nodup; decide)) (aSubL_cons rfl (aSubL_cons rfl (aSubL_cons rfl aSubL_nil)))) ?_
    exact Tf232_b101 hd a0 ha0 i1 i2 r84_1.1 r84_1.2 _ h
def f232_b69 (kad : Nat → Nat) (N : Nat) (Z : AZ) (a0 : Nat) (i1 : Int32) (i2 : Int32) (i3 : Int32) (i4 : Int32) (I : AI) : Option (Unit × AI) :=
  f232_b74 kad N Z a0 i1 i2 i3 i4 (1 : Int32) I
set_option maxRecDepth 20000 in
theorem Tf232_b69 {kad : Nat → Nat} {N : Nat} {Z : AZ} {d : Nat} {t : Option Nat × (Nat × Nat)} (hd : 3 ≤ d) : ∀ (a0 : Nat) (ha0 : sh11 kad Z a0) (i1 : Int32) (i2 : Int32) (i3 : Int32) (i4 : Int32) (I : AI) (r : Unit × AI), f232_b69 kad N Z a0 i1 i2 i3 i4 I = some r → aGo kad d 232 (69, ([(0, .ref a0), (1, .int i1), (2, .int i2), (3, .int i3), (4, .int i4)], [])) (aMem Z I, t) (qV Z t r) := by
  intro a0 ha0 i1 i2 i3 i4 I r h
  unfold f232_b69 at h
  refine go_ops aMi232 2 _ (f1 := (74, ([(0, .ref a0), (1, .int i1), (2, .int i2), (3, .int i3), (4, .int i4)], [.int (1 : Int32)]))) rfl ?_
  exact Tf232_b74 hd a0 ha0 i1 i2 i3 i4 (1 : Int32) I _ h
def f232_b73 (kad : Nat → Nat) (N : Nat) (Z : AZ) (a0 : Nat) (i1 : Int32) (i2 : Int32) (i3 : Int32) (i4 : Int32) (I : AI) : Option (Unit × AI) :=
  f232_b74 kad N Z a0 i1 i2 i3 i4 (0 : Int32) I
set_option maxRecDepth 20000 in
theorem Tf232_b73 {kad : Nat → Nat} {N : Nat} {Z : AZ} {d : Nat} {t : Option Nat × (Nat × Nat)} (hd : 3 ≤ d) : ∀ (a0 : Nat) (ha0 : sh11 kad Z a0) (i1 : Int32) (i2 : Int32) (i3 : Int32) (i4 : Int32) (I : AI) (r : Unit × AI), f232_b73 kad N Z a0 i1 i2 i3 i4 I = some r → aGo kad d 232 (73, ([(0, .ref a0), (1, .int i1), (2, .int i2), (3, .int i3), (4, .int i4)], [])) (aMem Z I, t) (qV Z t r) := by
  intro a0 ha0 i1 i2 i3 i4 I r h
  unfold f232_b73 at h
  refine go_ops aMi232 1 _ (f1 := (74, ([(0, .ref a0), (1, .int i1), (2, .int i2), (3, .int i3), (4, .int i4)], [.int (0 : Int32)]))) rfl ?_
  exact Tf232_b74 hd a0 ha0 i1 i2 i3 i4 (0 : Int32) I _ h
def f232_b56 (kad : Nat → Nat) (N : Nat) (Z : AZ) (a0 : Nat) (i1 : Int32) (i2 : Int32) (i3 : Int32) (i4 : Int32) (I : AI) : Option (Unit × AI) :=
  if ¬ i1 = (14 : Int32) then
    f232_b73 kad N Z a0 i1 i2 i3 i4 I
  else
    if (I a0 30) = 0 then
      f232_b73 kad N Z a0 i1 i2 i3 i4 I
    else
      f232_b69 kad N Z a0 i1 i2 i3 i4 I
set_option maxRecDepth 20000 in
theorem Tf232_b56 {kad : Nat → Nat} {N : Nat} {Z : AZ} {d : Nat} {t : Option Nat × (Nat × Nat)} (hd : 3 ≤ d) : ∀ (a0 : Nat) (ha0 : sh11 kad Z a0) (i1 : Int32) (i2 : Int32) (i3 : Int32) (i4 : Int32) (I : AI) (r : Unit × AI), f232_b56 kad N Z a0 i1 i2 i3 i4 I = some r → aGo kad d 232 (56, ([(0, .ref a0), (1, .int i1), (2, .int i2), (3, .int i3), (4, .int i4)], [])) (aMem Z I, t) (qV Z t r) := by
  intro a0 ha0 i1 i2 i3 i4 I r h
  unfold f232_b56 at h
  refine go_ops aMi232 2 _ (f1 := (59, ([(0, .ref a0), (1, .int i1), (2, .int i2), (3, .int i3), (4, .int i4)], [.int (14 : Int32), .int i1]))) rfl ?_
  refine gg_br (b := decide (¬ i1 = (14 : Int32))) (tg := 73) (off := 14) aMi232 rfl rfl rfl rfl (fun hb => ?_) (fun hb => ?_)
  · rw [if_pos (of_decide_eq_true hb)] at h
    exact Tf232_b73 hd a0 ha0 i1 i2 i3 i4 I _ h
  · rw [if_neg (of_decide_eq_false hb)] at h
    refine go_ops aMi232 1 _ (f1 := (63, ([(0, .ref a0), (1, .int i1), (2, .int i2), (3, .int i3), (4, .int i4)], [.ref a0]))) rfl ?_
    refine gg_gI aMi232 rfl rfl rfl (gI_of (sh11_z ha0)) ?_
    refine gg_br (b := decide ((I a0 30) = 0)) (tg := 73) (off := 7) aMi232 rfl rfl rfl rfl (fun hb => ?_) (fun hb => ?_)
    · rw [if_pos (of_decide_eq_true hb)] at h
      exact Tf232_b73 hd a0 ha0 i1 i2 i3 i4 I _ h
    · rw [if_neg (of_decide_eq_false hb)] at h
      exact Tf232_b69 hd a0 ha0 i1 i2 i3 i4 I _ h
def f232_b31 (kad : Nat → Nat) (N : Nat) (Z : AZ) (a0 : Nat) (i1 : Int32) (i2 : Int32) (i3 : Int32) (i4 : Int32) (I : AI) : Option (Unit × AI) :=
  if i1 = (12 : Int32) then
    f232_b69 kad N Z a0 i1 i2 i3 i4 I
  else
    if i1 = (15 : Int32) then
      f232_b69 kad N Z a0 i1 i2 i3 i4 I
    else
      if ¬ i1 = (13 : Int32) then
        f232_b56 kad N Z a0 i1 i2 i3 i4 I
      else
        if ¬ (I a0 29) = 0 then
          f232_b69 kad N Z a0 i1 i2 i3 i4 I
        else
          f232_b56 kad N Z a0 i1 i2 i3 i4 I
set_option maxRecDepth 20000 in
theorem Tf232_b31 {kad : Nat → Nat} {N : Nat} {Z : AZ} {d : Nat} {t : Option Nat × (Nat × Nat)} (hd : 3 ≤ d) : ∀ (a0 : Nat) (ha0 : sh11 kad Z a0) (i1 : Int32) (i2 : Int32) (i3 : Int32) (i4 : Int32) (I : AI) (r : Unit × AI), f232_b31 kad N Z a0 i1 i2 i3 i4 I = some r → aGo kad d 232 (31, ([(0, .ref a0), (1, .int i1), (2, .int i2), (3, .int i3), (4, .int i4)], [])) (aMem Z I, t) (qV Z t r) := by
  intro a0 ha0 i1 i2 i3 i4 I r h
  unfold f232_b31 at h
  refine go_ops aMi232 2 _ (f1 := (34, ([(0, .ref a0), (1, .int i1), (2, .int i2), (3, .int i3), (4, .int i4)], [.int (12 : Int32), .int i1]))) rfl ?_
  refine gg_br (b := decide (i1 = (12 : Int32))) (tg := 69) (off := 35) aMi232 rfl rfl rfl rfl (fun hb => ?_) (fun hb => ?_)
  · rw [if_pos (of_decide_eq_true hb)] at h
    exact Tf232_b69 hd a0 ha0 i1 i2 i3 i4 I _ h
  · rw [if_neg (of_decide_eq_false hb)] at h
    refine go_ops aMi232 2 _ (f1 := (40, ([(0, .ref a0), (1, .int i1), (2, .int i2), (3, .int i3), (4, .int i4)], [.int (15 : Int32), .int i1]))) rfl ?_
    refine gg_br (b := decide (i1 = (15 : Int32))) (tg := 69) (off := 29) aMi232 rfl rfl rfl rfl (fun hb => ?_) (fun hb => ?_)
    · rw [if_pos (of_decide_eq_true hb)] at h
      exact Tf232_b69 hd a0 ha0 i1 i2 i3 i4 I _ h
    · rw [if_neg (of_decide_eq_false hb)] at h
      refine go_ops aMi232 2 _ (f1 := (46, ([(0, .ref a0), (1, .int i1), (2, .int i2), (3, .int i3), (4, .int i4)], [.int (13 : Int32), .int i1]))) rfl ?_
      refine gg_br (b := decide (¬ i1 = (13 : Int32))) (tg := 56) (off := 10) aMi232 rfl rfl rfl rfl (fun hb => ?_) (fun hb => ?_)
      · rw [if_pos (of_decide_eq_true hb)] at h
        exact Tf232_b56 hd a0 ha0 i1 i2 i3 i4 I _ h
      · rw [if_neg (of_decide_eq_false hb)] at h
        refine go_ops aMi232 1 _ (f1 := (50, ([(0, .ref a0), (1, .int i1), (2, .int i2), (3, .int i3), (4, .int i4)], [.ref a0]))) rfl ?_
        refine gg_gI aMi232 rfl rfl rfl (gI_of (sh11_z ha0)) ?_
        refine gg_br (b := decide (¬ (I a0 29) = 0)) (tg := 69) (off := 16) aMi232 rfl rfl rfl rfl (fun hb => ?_) (fun hb => ?_)
        · rw [if_pos (of_decide_eq_true hb)] at h
          exact Tf232_b69 hd a0 ha0 i1 i2 i3 i4 I _ h
        · rw [if_neg (of_decide_eq_false hb)] at h
          exact Tf232_b56 hd a0 ha0 i1 i2 i3 i4 I _ h
def f232_b20 (kad : Nat → Nat) (N : Nat) (Z : AZ) (a0 : Nat) (i1 : Int32) (i2 : Int32) (i3 : Int32) (i4 : Int32) (I : AI) : Option (Unit × AI) :=
  if ¬ i1 = (17 : Int32) then
    f232_b31 kad N Z a0 i1 i2 i3 i4 I
  else
    (f219 kad N Z a0 i3 I).bind fun r28_1 =>
    f232_b31 kad N Z a0 i1 i2 i3 i4 r28_1.2
set_option maxRecDepth 20000 in
theorem Tf232_b20 {kad : Nat → Nat} {N : Nat} {Z : AZ} {d : Nat} {t : Option Nat × (Nat × Nat)} (hd : 3 ≤ d) : ∀ (a0 : Nat) (ha0 : sh11 kad Z a0) (i1 : Int32) (i2 : Int32) (i3 : Int32) (i4 : Int32) (I : AI) (r : Unit × AI), f232_b20 kad N Z a0 i1 i2 i3 i4 I = some r → aGo kad d 232 (20, ([(0, .ref a0), (1, .int i1), (2, .int i2), (3, .int i3), (4, .int i4)], [])) (aMem Z I, t) (qV Z t r) := by
  intro a0 ha0 i1 i2 i3 i4 I r h
  unfold f232_b20 at h
  refine go_ops aMi232 2 _ (f1 := (23, ([(0, .ref a0), (1, .int i1), (2, .int i2), (3, .int i3), (4, .int i4)], [.int (17 : Int32), .int i1]))) rfl ?_
  refine gg_br (b := decide (¬ i1 = (17 : Int32))) (tg := 31) (off := 8) aMi232 rfl rfl rfl rfl (fun hb => ?_) (fun hb => ?_)
  · rw [if_pos (of_decide_eq_true hb)] at h
    exact Tf232_b31 hd a0 ha0 i1 i2 i3 i4 I _ h
  · rw [if_neg (of_decide_eq_false hb)] at h
    refine go_ops aMi232 2 _ (f1 := (28, ([(0, .ref a0), (1, .int i1), (2, .int i2), (3, .int i3), (4, .int i4)], [.int i3, .ref a0]))) rfl ?_
    obtain ⟨r28_1, hxr28_1, h⟩ := Option.bind_eq_some_iff.mp h
    refine gg_cv (as := [.int i3]) (r := []) aMi232 rfl rfl rfl aMi219 (Nat.le_of_ble_eq_true rfl) rfl (Nat.le_of_ble_eq_true rfl) (Nat.le_of_ble_eq_true rfl) (by omega) (isK_of (sh11_z ha0)) (Tf219 (by omega) a0 ha0 i3 I _ hxr28_1) ?_
    show aGo kad d 232 (31, ([(0, .ref a0), (1, .int i1), (2, .int i2), (3, .int i3), (4, .int i4)], [])) (aMem Z r28_1.2, t) _
    exact Tf232_b31 hd a0 ha0 i1 i2 i3 i4 r28_1.2 _ h
def f232 (kad : Nat → Nat) (N : Nat) (Z : AZ) (a0 : Nat) (i1 : Int32) (i2 : Int32) (i3 : Int32) (I : AI) : Option (Unit × AI) :=
  if ¬ i1 = (15 : Int32) then
    f232_b20 kad N Z a0 i1 i2 i3 ((I a0 27) + (2 : Int32)) I
  else
    (f219 kad N Z a0 ((I a0 27) + (2 : Int32)) I).bind fun r17_1 =>
    f232_b20 kad N Z a0 i1 i2 i3 ((I a0 27) + (2 : Int32)) r17_1.2
set_option maxRecDepth 20000 in
theorem Tf232 {kad : Nat → Nat} {N : Nat} {Z : AZ} {d : Nat} {t : Option Nat × (Nat × Nat)} (hd : 3 ≤ d) : ∀ (a0 : Nat) (ha0 : sh11 kad Z a0) (i1 : Int32) (i2 : Int32) (i3 : Int32) (I : AI) (r : Unit × AI), f232 kad N Z a0 i1 i2 i3 I = some r → aGo kad d 232 (0, ([(0, .ref a0), (1, .int i1), (2, .int i2), (3, .int i3)], [])) (aMem Z I, t) (qV Z t r) := by
  intro a0 ha0 i1 i2 i3 I r h
  unfold f232 at h
  refine go_ops aMi232 1 _ (f1 := (1, ([(0, .ref a0), (1, .int i1), (2, .int i2), (3, .int i3)], [.ref a0]))) rfl ?_
  refine gg_gI aMi232 rfl rfl rfl (gI_of (sh11_z ha0)) ?_
  refine go_ops aMi232 5 _ (f1 := (11, ([(4, .int ((I a0 27) + (2 : Int32))), (0, .ref a0), (1, .int i1), (2, .int i2), (3, .int i3)], [.int (15 : Int32), .int i1]))) rfl ?_
  refine gg_br (b := decide (¬ i1 = (15 : Int32))) (tg := 20) (off := 9) aMi232 rfl rfl rfl rfl (fun hb => ?_) (fun hb => ?_)
  · rw [if_pos (of_decide_eq_true hb)] at h
    refine go_le (lv1 := [(0, .ref a0), (1, .int i1), (2, .int i2), (3, .int i3), (4, .int ((I a0 27) + (2 : Int32)))]) (aLe_of (show (List.map (fun q => q.1) ([(0, .ref a0), (1, .int i1), (2, .int i2), (3, .int i3), (4, .int ((I a0 27) + (2 : Int32)))] : ALv)).Nodup from (by show ([0, 1, 2, 3, 4] : List Nat).Nodup; decide)) (aSubL_cons rfl (aSubL_cons rfl (aSubL_cons rfl (aSubL_cons rfl (aSubL_cons rfl aSubL_nil)))))) ?_
    exact Tf232_b20 hd a0 ha0 i1 i2 i3 ((I a0 27) + (2 : Int32)) I _ h
  · rw [if_neg (of_decide_eq_false hb)] at h
    refine go_ops aMi232 2 _ (f1 := (17, ([(4, .int ((I a0 27) + (2 : Int32))), (0, .ref a0), (1, .int i1), (2, .int i2), (3, .int i3)], [.int ((I a0 27) + (2 : Int32)), .ref a0]))) rfl ?_
    obtain ⟨r17_1, hxr17_1, h⟩ := Option.bind_eq_some_iff.mp h
    refine gg_cv (as := [.int ((I a0 27) + (2 : Int32))]) (r := []) aMi232 rfl rfl rfl aMi219 (Nat.le_of_ble_eq_true rfl) rfl (Nat.le_of_ble_eq_true rfl) (Nat.le_of_ble_eq_true rfl) (by omega) (isK_of (sh11_z ha0)) (Tf219 (by omega) a0 ha0 ((I a0 27) + (2 : Int32)) I _ hxr17_1) ?_
    show aGo kad d 232 (20, ([(4, .int ((I a0 27) + (2 : Int32))), (0, .ref a0), (1, .int i1), (2, .int i2), (3, .int i3)], [])) (aMem Z r17_1.2, t) _
    refine go_le (lv1 := [(0, .ref a0), (1, .int i1), (2, .int i2), (3, .int i3), (4, .int ((I a0 27) + (2 : Int32)))]) (aLe_of (show (List.map (fun q => q.1) ([(0, .ref a0), (1, .int i1), (2, .int i2), (3, .int i3), (4, .int ((I a0 27) + (2 : Int32)))] : ALv)).Nodup from (by show ([0, 1, 2, 3, 4] : List Nat).Nodup; decide)) (aSubL_cons rfl (aSubL_cons rfl (aSubL_cons rfl (aSubL_cons rfl (aSubL_cons rfl aSubL_nil)))))) ?_
    exact Tf232_b20 hd a0 ha0 i1 i2 i3 ((I a0 27) + (2 : Int32)) r17_1.2 _ h
-- KernelGymModel.entry (I)I
def f235 (kad : Nat → Nat) (N : Nat) (Z : AZ) (i0 : Int32) (I : AI) : Option (Int32 × AI) :=
  some (((40 : Int32) + ((4 : Int32) * i0)), I)
set_option maxRecDepth 20000 in
theorem Tf235 {kad : Nat → Nat} {N : Nat} {Z : AZ} {d : Nat} {t : Option Nat × (Nat × Nat)} (hd : 0 ≤ d) : ∀ (i0 : Int32) (I : AI) (r : Int32 × AI), f235 kad N Z i0 I = some r → aGo kad d 235 (0, ([(0, .int i0)], [])) (aMem Z I, t) (qI Z t r) := by
  intro i0 I r h
  unfold f235 at h
  refine go_ops aMi235 5 _ (f1 := (6, ([(0, .int i0)], [.int ((40 : Int32) + ((4 : Int32) * i0))]))) rfl ?_
  cases h
  exact go_ret aMi235 rfl aRetI ⟨rfl, rfl⟩
-- KernelGymModel.find ([II)I
def f236_b2 (kad : Nat → Nat) (N : Nat) (Z : AZ) : Nat → Nat → Int32 → Int32 → AI → Option (Int32 × AI)
  | 0, _, _, _, _ => none
  | F + 1, b0, i1, i2, I =>
    if (6 : Int32) ≤ i2 then
      some ((Int32.ofInt (-1)), I)
    else
      (f235 kad N Z i2 I).bind fun r10_1 =>
      (lI Z r10_1.2 100 b0 r10_1.1).bind fun x13_2 =>
      if ¬ x13_2 = i1 then
        f236_b2 kad N Z F b0 i1 (i2 + (1 : Int32)) r10_1.2
      else
        some (i2, r10_1.2)
set_option maxRecDepth 20000 in
theorem Tf236_b2 {kad : Nat → Nat} {N : Nat} {Z : AZ} {d : Nat} {t : Option Nat × (Nat × Nat)} (hd : 1 ≤ d) : ∀ (F : Nat) (b0 : Nat) (i1 : Int32) (i2 : Int32) (I : AI) (r : Int32 × AI), f236_b2 kad N Z F b0 i1 i2 I = some r → aGo kad d 236 (2, ([(0, .ref b0), (1, .int i1), (2, .int i2)], [])) (aMem Z I, t) (qI Z t r) := by
  intro F
  induction F with
  | zero => intro b0 i1 i2 I r h; cases h
  | succ F ih =>
    intro b0 i1 i2 I r h
    unfold f236_b2 at h
    refine go_ops aMi236 2 _ (f1 := (5, ([(0, .ref b0), (1, .int i1), (2, .int i2)], [.int (6 : Int32), .int i2]))) rfl ?_
    refine gg_br (b := decide ((6 : Int32) ≤ i2)) (tg := 26) (off := 21) aMi236 rfl rfl rfl rfl (fun hb => ?_) (fun hb => ?_)
    · rw [if_pos (of_decide_eq_true hb)] at h
      refine go_ops aMi236 1 _ (f1 := (27, ([(0, .ref b0), (1, .int i1), (2, .int i2)], [.int (Int32.ofInt (-1))]))) rfl ?_
      cases h
      exact go_ret aMi236 rfl aRetI ⟨rfl, rfl⟩
    · rw [if_neg (of_decide_eq_false hb)] at h
      refine go_ops aMi236 2 _ (f1 := (10, ([(0, .ref b0), (1, .int i1), (2, .int i2)], [.int i2, .ref b0]))) rfl ?_
      obtain ⟨r10_1, hxr10_1, h⟩ := Option.bind_eq_some_iff.mp h
      refine gg_cs (as := [.int i2]) (r := [.ref b0]) aMi236 rfl rfl rfl aMi235 rfl (Nat.le_of_ble_eq_true rfl) (Nat.le_of_ble_eq_true rfl) (by omega) (Tf235 (by omega) i2 I _ hxr10_1) ?_
      show aGo kad d 236 (13, ([(0, .ref b0), (1, .int i1), (2, .int i2)], [.int r10_1.1, .ref b0])) (aMem Z r10_1.2, t) _
      obtain ⟨x13_2, hxx13_2, h⟩ := Option.bind_eq_some_iff.mp h
      refine gg_lI (Or.inl ⟨rfl, rfl⟩) aMi236 rfl hxx13_2 ?_
      refine go_ops aMi236 1 _ (f1 := (15, ([(0, .ref b0), (1, .int i1), (2, .int i2)], [.int i1, .int x13_2]))) rfl ?_
      refine gg_br (b := decide (¬ x13_2 = i1)) (tg := 20) (off := 5) aMi236 rfl rfl rfl rfl (fun hb => ?_) (fun hb => ?_)
      · rw [if_pos (of_decide_eq_true hb)] at h
        refine go_ops aMi236 2 _ (f1 := (2, ([(2, .int (i2 + (1 : Int32))), (0, .ref b0), (1, .int i1)], []))) rfl ?_
        refine go_le (lv1 := [(0, .ref b0), (1, .int i1), (2, .int (i2 + (1 : Int32)))]) (aLe_of (show (List.map (fun q => q.1) ([(0, .ref b0), (1, .int i1), (2, .int (i2 + (1 : Int32)))] : ALv)).Nodup from (by show ([0, 1, 2] : List Nat).Nodup; decide)) (aSubL_cons rfl (aSubL_cons rfl (aSubL_cons rfl aSubL_nil)))) ?_
        exact ih b0 i1 (i2 + (1 : Int32)) r10_1.2 _ h
      · rw [if_neg (of_decide_eq_false hb)] at h
        refine go_ops aMi236 1 _ (f1 := (19, ([(0, .ref b0), (1, .int i1), (2, .int i2)], [.int i2]))) rfl ?_
        cases h
        exact go_ret aMi236 rfl aRetI ⟨rfl, rfl⟩
def f236 (kad : Nat → Nat) (N : Nat) (Z : AZ) (b0 : Nat) (i1 : Int32) (I : AI) : Option (Int32 × AI) :=
  f236_b2 kad N Z N b0 i1 (0 : Int32) I
set_option maxRecDepth 20000 in
theorem Tf236 {kad : Nat → Nat} {N : Nat} {Z : AZ} {d : Nat} {t : Option Nat × (Nat × Nat)} (hd : 1 ≤ d) : ∀ (b0 : Nat) (i1 : Int32) (I : AI) (r : Int32 × AI), f236 kad N Z b0 i1 I = some r → aGo kad d 236 (0, ([(0, .ref b0), (1, .int i1)], [])) (aMem Z I, t) (qI Z t r) := by
  intro b0 i1 I r h
  unfold f236 at h
  refine go_ops aMi236 2 _ (f1 := (2, ([(2, .int (0 : Int32)), (0, .ref b0), (1, .int i1)], []))) rfl ?_
  refine go_le (lv1 := [(0, .ref b0), (1, .int i1), (2, .int (0 : Int32))]) (aLe_of (show (List.map (fun q => q.1) ([(0, .ref b0), (1, .int i1), (2, .int (0 : Int32))] : ALv)).Nodup from (by show ([0, 1, 2] : List Nat).Nodup; decide)) (aSubL_cons rfl (aSubL_cons rfl (aSubL_cons rfl aSubL_nil)))) ?_
  exact Tf236_b2 hd N b0 i1 (0 : Int32) I _ h
-- KernelGymModel.isUsed ([II)Z
def f237_b25 (kad : Nat → Nat) (N : Nat) (Z : AZ) (s0 : Int32) (I : AI) : Option (Int32 × AI) :=
  if s0 = 0 ∨ s0 = 1 then some (s0, I) else none
set_option maxRecDepth 20000 in
theorem Tf237_b25 {kad : Nat → Nat} {N : Nat} {Z : AZ} {d : Nat} {t : Option Nat × (Nat × Nat)} (hd : 0 ≤ d) : ∀ (s0 : Int32) (I : AI) (r : Int32 × AI), f237_b25 kad N Z s0 I = some r → aGo kad d 237 (25, ([], [.int s0])) (aMem Z I, t) (qI Z t r) := by
  intro s0 I r h
  unfold f237_b25 at h
  split at h
  · rename_i hz
    cases h
    exact go_ret aMi237 rfl (aRetZ hz) ⟨rfl, rfl⟩
  · cases h
def f237 (kad : Nat → Nat) (N : Nat) (Z : AZ) (b0 : Nat) (i1 : Int32) (I : AI) : Option (Int32 × AI) :=
  (lI Z I 100 b0 ((32 : Int32) + (i1 / (16 : Int32)))).bind fun x8_1 =>
  if ¬ ((x8_1 >>> ((i1 - i1 / (16 : Int32) * (16 : Int32)) &&& 31)) &&& (1 : Int32)) = (1 : Int32) then
    f237_b25 kad N Z (0 : Int32) I
  else
    f237_b25 kad N Z (1 : Int32) I
set_option maxRecDepth 20000 in
theorem Tf237 {kad : Nat → Nat} {N : Nat} {Z : AZ} {d : Nat} {t : Option Nat × (Nat × Nat)} (hd : 0 ≤ d) : ∀ (b0 : Nat) (i1 : Int32) (I : AI) (r : Int32 × AI), f237 kad N Z b0 i1 I = some r → aGo kad d 237 (0, ([(0, .ref b0), (1, .int i1)], [])) (aMem Z I, t) (qI Z t r) := by
  intro b0 i1 I r h
  unfold f237 at h
  refine go_ops aMi237 6 _ (f1 := (8, ([(0, .ref b0), (1, .int i1)], [.int ((32 : Int32) + (i1 / (16 : Int32))), .ref b0]))) rfl ?_
  obtain ⟨x8_1, hxx8_1, h⟩ := Option.bind_eq_some_iff.mp h
  refine gg_lI (Or.inl ⟨rfl, rfl⟩) aMi237 rfl hxx8_1 ?_
  refine go_ops aMi237 7 _ (f1 := (17, ([(0, .ref b0), (1, .int i1)], [.int (1 : Int32), .int ((x8_1 >>> ((i1 - i1 / (16 : Int32) * (16 : Int32)) &&& 31)) &&& (1 : Int32))]))) rfl ?_
  refine gg_br (b := decide (¬ ((x8_1 >>> ((i1 - i1 / (16 : Int32) * (16 : Int32)) &&& 31)) &&& (1 : Int32)) = (1 : Int32))) (tg := 24) (off := 7) aMi237 rfl rfl rfl rfl (fun hb => ?_) (fun hb => ?_)
  · rw [if_pos (of_decide_eq_true hb)] at h
    refine go_ops aMi237 1 _ (f1 := (25, ([(0, .ref b0), (1, .int i1)], [.int (0 : Int32)]))) rfl ?_
    refine go_le (lv1 := []) (aLe_of (show (List.map (fun q => q.1) ([] : ALv)).Nodup from (by show ([] : List Nat).Nodup; decide)) aSubL_nil) ?_
    exact Tf237_b25 hd (0 : Int32) I _ h
  · rw [if_neg (of_decide_eq_false hb)] at h
    refine go_ops aMi237 2 _ (f1 := (25, ([(0, .ref b0), (1, .int i1)], [.int (1 : Int32)]))) rfl ?_
    refine go_le (lv1 := []) (aLe_of (show (List.map (fun q => q.1) ([] : ALv)).Nodup from (by show ([] : List Nat).Nodup; decide)) aSubL_nil) ?_
    exact Tf237_b25 hd (1 : Int32) I _ h
-- KernelGymModel.freeBlock ()I
def f239_b3 (kad : Nat → Nat) (N : Nat) (Z : AZ) : Nat → Nat → Int32 → AI → Option (Int32 × AI)
  | 0, _, _, _ => none
  | F + 1, a0, i1, I =>
    if (32 : Int32) ≤ i1 then
      some ((Int32.ofInt (-1)), I)
    else
      (f237 kad N Z (a0 + 24) i1 I).bind fun r14_1 =>
      if ¬ r14_1.1 = 0 then
        f239_b3 kad N Z F a0 (i1 + (1 : Int32)) r14_1.2
      else
        some (i1, r14_1.2)
set_option maxRecDepth 20000 in
theorem Tf239_b3 {kad : Nat → Nat} {N : Nat} {Z : AZ} {d : Nat} {t : Option Nat × (Nat × Nat)} (hd : 1 ≤ d) : ∀ (F : Nat) (a0 : Nat) (ha0 : sh11 kad Z a0) (i1 : Int32) (I : AI) (r : Int32 × AI), f239_b3 kad N Z F a0 i1 I = some r → aGo kad d 239 (3, ([(0, .ref a0), (1, .int i1)], [])) (aMem Z I, t) (qI Z t r) := by
  intro F
  induction F with
  | zero => intro a0 ha0 i1 I r h; cases h
  | succ F ih =>
    intro a0 ha0 i1 I r h
    unfold f239_b3 at h
    refine go_ops aMi239 2 _ (f1 := (6, ([(0, .ref a0), (1, .int i1)], [.int (32 : Int32), .int i1]))) rfl ?_
    refine gg_br (b := decide ((32 : Int32) ≤ i1)) (tg := 28) (off := 22) aMi239 rfl rfl rfl rfl (fun hb => ?_) (fun hb => ?_)
    · rw [if_pos (of_decide_eq_true hb)] at h
      refine go_ops aMi239 1 _ (f1 := (29, ([(0, .ref a0), (1, .int i1)], [.int (Int32.ofInt (-1))]))) rfl ?_
      cases h
      exact go_ret aMi239 rfl aRetI ⟨rfl, rfl⟩
    · rw [if_neg (of_decide_eq_false hb)] at h
      refine go_ops aMi239 1 _ (f1 := (10, ([(0, .ref a0), (1, .int i1)], [.ref a0]))) rfl ?_
      refine gg_gR (b := (a0 + 24)) aMi239 rfl rfl rfl (gR_of (sh11_z ha0) (sh11_r50 ha0)) ?_
      refine go_ops aMi239 1 _ (f1 := (14, ([(0, .ref a0), (1, .int i1)], [.int i1, .ref (a0 + 24)]))) rfl ?_
      obtain ⟨r14_1, hxr14_1, h⟩ := Option.bind_eq_some_iff.mp h
      refine gg_cs (as := [.ref (a0 + 24), .int i1]) (r := []) aMi239 rfl rfl rfl aMi237 rfl (Nat.le_of_ble_eq_true rfl) (Nat.le_of_ble_eq_true rfl) (by omega) (Tf237 (by omega) (a0 + 24) i1 I _ hxr14_1) ?_
      show aGo kad d 239 (17, ([(0, .ref a0), (1, .int i1)], [.int r14_1.1])) (aMem Z r14_1.2, t) _
      refine gg_br (b := decide (¬ r14_1.1 = 0)) (tg := 22) (off := 5) aMi239 rfl rfl rfl rfl (fun hb => ?_) (fun hb => ?_)
      · rw [if_pos (of_decide_eq_true hb)] at h
        refine go_ops aMi239 2 _ (f1 := (3, ([(1, .int (i1 + (1 : Int32))), (0, .ref a0)], []))) rfl ?_
        refine go_le (lv1 := [(0, .ref a0), (1, .int (i1 + (1 : Int32)))]) (aLe_of (show (List.map (fun q => q.1) ([(0, .ref a0), (1, .int (i1 + (1 : Int32)))] : ALv)).Nodup from (by show ([0, 1] : List Nat).Nodup; decide)) (aSubL_cons rfl (aSubL_cons rfl aSubL_nil))) ?_
        exact ih a0 ha0 (i1 + (1 : Int32)) r14_1.2 _ h
      · rw [if_neg (of_decide_eq_false hb)] at h
        refine go_ops aMi239 1 _ (f1 := (21, ([(0, .ref a0), (1, .int i1)], [.int i1]))) rfl ?_
        cases h
        exact go_ret aMi239 rfl aRetI ⟨rfl, rfl⟩
def f239 (kad : Nat → Nat) (N : Nat) (Z : AZ) (a0 : Nat) (I : AI) : Option (Int32 × AI) :=
  f239_b3 kad N Z N a0 (8 : Int32) I
set_option maxRecDepth 20000 in
theorem Tf239 {kad : Nat → Nat} {N : Nat} {Z : AZ} {d : Nat} {t : Option Nat × (Nat × Nat)} (hd : 1 ≤ d) : ∀ (a0 : Nat) (ha0 : sh11 kad Z a0) (I : AI) (r : Int32 × AI), f239 kad N Z a0 I = some r → aGo kad d 239 (0, ([(0, .ref a0)], [])) (aMem Z I, t) (qI Z t r) := by
  intro a0 ha0 I r h
  unfold f239 at h
  refine go_ops aMi239 2 _ (f1 := (3, ([(1, .int (8 : Int32)), (0, .ref a0)], []))) rfl ?_
  refine go_le (lv1 := [(0, .ref a0), (1, .int (8 : Int32))]) (aLe_of (show (List.map (fun q => q.1) ([(0, .ref a0), (1, .int (8 : Int32))] : ALv)).Nodup from (by show ([0, 1] : List Nat).Nodup; decide)) (aSubL_cons rfl (aSubL_cons rfl aSubL_nil))) ?_
  exact Tf239_b3 hd N a0 ha0 (8 : Int32) I _ h
-- KernelGymModel.resultOf (II)I
def f240_b59 (kad : Nat → Nat) (N : Nat) (Z : AZ) (a0 : Nat) (s0 : Int32) (I : AI) : Option (Int32 × AI) :=
  some (s0, I)
set_option maxRecDepth 20000 in
theorem Tf240_b59 {kad : Nat → Nat} {N : Nat} {Z : AZ} {d : Nat} {t : Option Nat × (Nat × Nat)} (hd : 2 ≤ d) : ∀ (a0 : Nat) (ha0 : sh11 kad Z a0) (s0 : Int32) (I : AI) (r : Int32 × AI), f240_b59 kad N Z a0 s0 I = some r → aGo kad d 240 (59, ([], [.int s0])) (aMem Z I, t) (qI Z t r) := by
  intro a0 ha0 s0 I r h
  unfold f240_b59 at h
  cases h
  exact go_ret aMi240 rfl aRetI ⟨rfl, rfl⟩
def f240_b38 (kad : Nat → Nat) (N : Nat) (Z : AZ) (a0 : Nat) (I : AI) : Option (Int32 × AI) :=
  f240_b59 kad N Z a0 (1 : Int32) I
set_option maxRecDepth 20000 in
theorem Tf240_b38 {kad : Nat → Nat} {N : Nat} {Z : AZ} {d : Nat} {t : Option Nat × (Nat × Nat)} (hd : 2 ≤ d) : ∀ (a0 : Nat) (ha0 : sh11 kad Z a0) (I : AI) (r : Int32 × AI), f240_b38 kad N Z a0 I = some r → aGo kad d 240 (38, ([], [])) (aMem Z I, t) (qI Z t r) := by
  intro a0 ha0 I r h
  unfold f240_b38 at h
  refine go_ops aMi240 2 _ (f1 := (59, ([], [.int (1 : Int32)]))) rfl ?_
  exact Tf240_b59 hd a0 ha0 (1 : Int32) I _ h
def f240_b88 (kad : Nat → Nat) (N : Nat) (Z : AZ) (a0 : Nat) (I : AI) : Option (Int32 × AI) :=
  some ((1 : Int32), I)
set_option maxRecDepth 20000 in
theorem Tf240_b88 {kad : Nat → Nat} {N : Nat} {Z : AZ} {d : Nat} {t : Option Nat × (Nat × Nat)} (hd : 2 ≤ d) : ∀ (a0 : Nat) (ha0 : sh11 kad Z a0) (I : AI) (r : Int32 × AI), f240_b88 kad N Z a0 I = some r → aGo kad d 240 (88, ([], [])) (aMem Z I, t) (qI Z t r) := by
  intro a0 ha0 I r h
  unfold f240_b88 at h
  refine go_ops aMi240 1 _ (f1 := (89, ([], [.int (1 : Int32)]))) rfl ?_
  cases h
  exact go_ret aMi240 rfl aRetI ⟨rfl, rfl⟩
def f240_b140 (kad : Nat → Nat) (N : Nat) (Z : AZ) (a0 : Nat) (s0 : Int32) (I : AI) : Option (Int32 × AI) :=
  some (s0, I)
set_option maxRecDepth 20000 in
theorem Tf240_b140 {kad : Nat → Nat} {N : Nat} {Z : AZ} {d : Nat} {t : Option Nat × (Nat × Nat)} (hd : 2 ≤ d) : ∀ (a0 : Nat) (ha0 : sh11 kad Z a0) (s0 : Int32) (I : AI) (r : Int32 × AI), f240_b140 kad N Z a0 s0 I = some r → aGo kad d 240 (140, ([], [.int s0])) (aMem Z I, t) (qI Z t r) := by
  intro a0 ha0 s0 I r h
  unfold f240_b140 at h
  cases h
  exact go_ret aMi240 rfl aRetI ⟨rfl, rfl⟩
def f240_b139 (kad : Nat → Nat) (N : Nat) (Z : AZ) (a0 : Nat) (I : AI) : Option (Int32 × AI) :=
  f240_b140 kad N Z a0 (0 : Int32) I
set_option maxRecDepth 20000 in
theorem Tf240_b139 {kad : Nat → Nat} {N : Nat} {Z : AZ} {d : Nat} {t : Option Nat × (Nat × Nat)} (hd : 2 ≤ d) : ∀ (a0 : Nat) (ha0 : sh11 kad Z a0) (I : AI) (r : Int32 × AI), f240_b139 kad N Z a0 I = some r → aGo kad d 240 (139, ([], [])) (aMem Z I, t) (qI Z t r) := by
  intro a0 ha0 I r h
  unfold f240_b139 at h
  refine go_ops aMi240 1 _ (f1 := (140, ([], [.int (0 : Int32)]))) rfl ?_
  exact Tf240_b140 hd a0 ha0 (0 : Int32) I _ h
def f240_b167 (kad : Nat → Nat) (N : Nat) (Z : AZ) (a0 : Nat) (s0 : Int32) (I : AI) : Option (Int32 × AI) :=
  some (s0, I)
set_option maxRecDepth 20000 in
theorem Tf240_b167 {kad : Nat → Nat} {N : Nat} {Z : AZ} {d : Nat} {t : Option Nat × (Nat × Nat)} (hd : 2 ≤ d) : ∀ (a0 : Nat) (ha0 : sh11 kad Z a0) (s0 : Int32) (I : AI) (r : Int32 × AI), f240_b167 kad N Z a0 s0 I = some r → aGo kad d 240 (167, ([], [.int s0])) (aMem Z I, t) (qI Z t r) := by
  intro a0 ha0 s0 I r h
  unfold f240_b167 at h
  cases h
  exact go_ret aMi240 rfl aRetI ⟨rfl, rfl⟩
def f240_b166 (kad : Nat → Nat) (N : Nat) (Z : AZ) (a0 : Nat) (I : AI) : Option (Int32 × AI) :=
  f240_b167 kad N Z a0 (0 : Int32) I
set_option maxRecDepth 20000 in
theorem Tf240_b166 {kad : Nat → Nat} {N : Nat} {Z : AZ} {d : Nat} {t : Option Nat × (Nat × Nat)} (hd : 2 ≤ d) : ∀ (a0 : Nat) (ha0 : sh11 kad Z a0) (I : AI) (r : Int32 × AI), f240_b166 kad N Z a0 I = some r → aGo kad d 240 (166, ([], [])) (aMem Z I, t) (qI Z t r) := by
  intro a0 ha0 I r h
  unfold f240_b166 at h
  refine go_ops aMi240 1 _ (f1 := (167, ([], [.int (0 : Int32)]))) rfl ?_
  exact Tf240_b167 hd a0 ha0 (0 : Int32) I _ h
def f240_b151 (kad : Nat → Nat) (N : Nat) (Z : AZ) (a0 : Nat) (i4 : Int32) (I : AI) : Option (Int32 × AI) :=
  (ixA 4 (1 : Int32)).bind fun j156_1 =>
  if (I (a0 + 16) j156_1) < i4 then
    f240_b166 kad N Z a0 I
  else
    f240_b167 kad N Z a0 (2 : Int32) I
set_option maxRecDepth 20000 in
theorem Tf240_b151 {kad : Nat → Nat} {N : Nat} {Z : AZ} {d : Nat} {t : Option Nat × (Nat × Nat)} (hd : 2 ≤ d) : ∀ (a0 : Nat) (ha0 : sh11 kad Z a0) (i4 : Int32) (I : AI) (r : Int32 × AI), f240_b151 kad N Z a0 i4 I = some r → aGo kad d 240 (151, ([(0, .ref a0), (4, .int i4)], [])) (aMem Z I, t) (qI Z t r) := by
  intro a0 ha0 i4 I r h
  unfold f240_b151 at h
  refine go_ops aMi240 1 _ (f1 := (152, ([(0, .ref a0), (4, .int i4)], [.ref a0]))) rfl ?_
  refine gg_gR (b := (a0 + 16)) aMi240 rfl rfl rfl (gR_of (sh11_z ha0) (sh11_r26 ha0)) ?_
  refine go_ops aMi240 1 _ (f1 := (156, ([(0, .ref a0), (4, .int i4)], [.int (1 : Int32), .ref (a0 + 16)]))) rfl ?_
  obtain ⟨j156_1, hxj156_1, h⟩ := Option.bind_eq_some_iff.mp h
  refine gg_lI (Or.inl ⟨rfl, rfl⟩) aMi240 rfl (lI_of (sh11_a26 ha0) hxj156_1) ?_
  refine go_ops aMi240 1 _ (f1 := (159, ([(0, .ref a0), (4, .int i4)], [.int i4, .int (I (a0 + 16) j156_1)]))) rfl ?_
  refine gg_br (b := decide ((I (a0 + 16) j156_1) < i4)) (tg := 166) (off := 7) aMi240 rfl rfl rfl rfl (fun hb => ?_) (fun hb => ?_)
  · rw [if_pos (of_decide_eq_true hb)] at h
    refine go_le (lv1 := []) (aLe_of (show (List.map (fun q => q.1) ([] : ALv)).Nodup from (by show ([] : List Nat).Nodup; decide)) aSubL_nil) ?_
    exact Tf240_b166 hd a0 ha0 I _ h
  · rw [if_neg (of_decide_eq_false hb)] at h
    refine go_ops aMi240 2 _ (f1 := (167, ([(0, .ref a0), (4, .int i4)], [.int (2 : Int32)]))) rfl ?_
    refine go_le (lv1 := []) (aLe_of (show (List.map (fun q => q.1) ([] : ALv)).Nodup from (by show ([] : List Nat).Nodup; decide)) aSubL_nil) ?_
    exact Tf240_b167 hd a0 ha0 (2 : Int32) I _ h
def f240_b90 (kad : Nat → Nat) (N : Nat) (Z : AZ) (a0 : Nat) (i1 : Int32) (i2 : Int32) (I : AI) : Option (Int32 × AI) :=
  (f235 kad N Z i2 I).bind fun r95_1 =>
  (ixA 256 (r95_1.1 + (1 : Int32))).bind fun j100_2 =>
  if ¬ i1 = (1 : Int32) then
    if i1 = (2 : Int32) then
      f240_b151 kad N Z a0 (r95_1.2 (a0 + 24) j100_2) r95_1.2
    else
      if ¬ i1 = (3 : Int32) then
        f240_b166 kad N Z a0 r95_1.2
      else
        f240_b151 kad N Z a0 (r95_1.2 (a0 + 24) j100_2) r95_1.2
  else
    if ¬ (r95_1.2 (a0 + 24) j100_2) = (16 : Int32) then
      if ¬ ((r95_1.2 (a0 + 24) j100_2) - (r95_1.2 (a0 + 24) j100_2) / (8 : Int32) * (8 : Int32)) = 0 then
        f240_b139 kad N Z a0 r95_1.2
      else
        (f239 kad N Z a0 r95_1.2).bind fun r128_3 =>
        if ¬ r128_3.1 = (Int32.ofInt (-1)) then
          f240_b139 kad N Z a0 r128_3.2
        else
          f240_b140 kad N Z a0 (3 : Int32) r128_3.2
    else
      f240_b140 kad N Z a0 (2 : Int32) r95_1.2
set_option maxRecDepth 20000 in
theorem Tf240_b90 {kad : Nat → Nat} {N : Nat} {Z : AZ} {d : Nat} {t : Option Nat × (Nat × Nat)} (hd : 2 ≤ d) : ∀ (a0 : Nat) (ha0 : sh11 kad Z a0) (i1 : Int32) (i2 : Int32) (I : AI) (r : Int32 × AI), f240_b90 kad N Z a0 i1 i2 I = some r → aGo kad d 240 (90, ([(0, .ref a0), (1, .int i1), (2, .int i2)], [])) (aMem Z I, t) (qI Z t r) := by
  intro a0 ha0 i1 i2 I r h
  unfold f240_b90 at h
  refine go_ops aMi240 1 _ (f1 := (91, ([(0, .ref a0), (1, .int i1), (2, .int i2)], [.ref a0]))) rfl ?_
  refine gg_gR (b := (a0 + 24)) aMi240 rfl rfl rfl (gR_of (sh11_z ha0) (sh11_r50 ha0)) ?_
  refine go_ops aMi240 1 _ (f1 := (95, ([(0, .ref a0), (1, .int i1), (2, .int i2)], [.int i2, .ref (a0 + 24)]))) rfl ?_
  obtain ⟨r95_1, hxr95_1, h⟩ := Option.bind_eq_some_iff.mp h
  refine gg_cs (as := [.int i2]) (r := [.ref (a0 + 24)]) aMi240 rfl rfl rfl aMi235 rfl (Nat.le_of_ble_eq_true rfl) (Nat.le_of_ble_eq_true rfl) (by omega) (Tf235 (by omega) i2 I _ hxr95_1) ?_
  show aGo kad d 240 (98, ([(0, .ref a0), (1, .int i1), (2, .int i2)], [.int r95_1.1, .ref (a0 + 24)])) (aMem Z r95_1.2, t) _
  refine go_ops aMi240 2 _ (f1 := (100, ([(0, .ref a0), (1, .int i1), (2, .int i2)], [.int (r95_1.1 + (1 : Int32)), .ref (a0 + 24)]))) rfl ?_
  obtain ⟨j100_2, hxj100_2, h⟩ := Option.bind_eq_some_iff.mp h
  refine gg_lI (Or.inl ⟨rfl, rfl⟩) aMi240 rfl (lI_of (sh11_a50 ha0) hxj100_2) ?_
  refine go_ops aMi240 3 _ (f1 := (105, ([(4, .int (r95_1.2 (a0 + 24) j100_2)), (0, .ref a0), (1, .int i1), (2, .int i2)], [.int (1 : Int32), .int i1]))) rfl ?_
  refine gg_br (b := decide (¬ i1 = (1 : Int32))) (tg := 141) (off := 36) aMi240 rfl rfl rfl rfl (fun hb => ?_) (fun hb => ?_)
  · rw [if_pos (of_decide_eq_true hb)] at h
    refine go_ops aMi240 2 _ (f1 := (143, ([(4, .int (r95_1.2 (a0 + 24) j100_2)), (0, .ref a0), (1, .int i1), (2, .int i2)], [.int (2 : Int32), .int i1]))) rfl ?_
    refine gg_br (b := decide (i1 = (2 : Int32))) (tg := 151) (off := 8) aMi240 rfl rfl rfl rfl (fun hb => ?_) (fun hb => ?_)
    · rw [if_pos (of_decide_eq_true hb)] at h
      refine go_le (lv1 := [(0, .ref a0), (4, .int (r95_1.2 (a0 + 24) j100_2))]) (aLe_of (show (List.map (fun q => q.1) ([(0, .ref a0), (4, .int (r95_1.2 (a0 + 24) j100_2))] : ALv)).Nodup from (by show ([0, 4] : List Nat).Nodup; decide)) (aSubL_cons rfl (aSubL_cons rfl aSubL_nil))) ?_
      exact Tf240_b151 hd a0 ha0 (r95_1.2 (a0 + 24) j100_2) r95_1.2 _ h
    · rw [if_neg (of_decide_eq_false hb)] at h
      refine go_ops aMi240 2 _ (f1 := (148, ([(4, .int (r95_1.2 (a0 + 24) j100_2)), (0, .ref a0), (1, .int i1), (2, .int i2)], [.int (3 : Int32), .int i1]))) rfl ?_
      refine gg_br (b := decide (¬ i1 = (3 : Int32))) (tg := 166) (off := 18) aMi240 rfl rfl rfl rfl (fun hb => ?_) (fun hb => ?_)
      · rw [if_pos (of_decide_eq_true hb)] at h
        refine go_le (lv1 := []) (aLe_of (show (List.map (fun q => q.1) ([] : ALv)).Nodup from (by show ([] : List Nat).Nodup; decide)) aSubL_nil) ?_
        exact Tf240_b166 hd a0 ha0 r95_1.2 _ h
      · rw [if_neg (of_decide_eq_false hb)] at h
        refine go_le (lv1 := [(0, .ref a0), (4, .int (r95_1.2 (a0 + 24) j100_2))]) (aLe_of (show (List.map (fun q => q.1) ([(0, .ref a0), (4, .int (r95_1.2 (a0 + 24) j100_2))] : ALv)).Nodup from (by show ([0, 4] : List Nat).Nodup; decide)) (aSubL_cons rfl (aSubL_cons rfl aSubL_nil))) ?_
        exact Tf240_b151 hd a0 ha0 (r95_1.2 (a0 + 24) j100_2) r95_1.2 _ h
  · rw [if_neg (of_decide_eq_false hb)] at h
    refine go_ops aMi240 2 _ (f1 := (112, ([(4, .int (r95_1.2 (a0 + 24) j100_2)), (0, .ref a0), (1, .int i1), (2, .int i2)], [.int (16 : Int32), .int (r95_1.2 (a0 + 24) j100_2)]))) rfl ?_
    refine gg_br (b := decide (¬ (r95_1.2 (a0 + 24) j100_2) = (16 : Int32))) (tg := 119) (off := 7) aMi240 rfl rfl rfl rfl (fun hb => ?_) (fun hb => ?_)
    · rw [if_pos (of_decide_eq_true hb)] at h
      refine go_ops aMi240 3 _ (f1 := (124, ([(4, .int (r95_1.2 (a0 + 24) j100_2)), (0, .ref a0), (1, .int i1), (2, .int i2)], [.int ((r95_1.2 (a0 + 24) j100_2) - (r95_1.2 (a0 + 24) j100_2) / (8 : Int32) * (8 : Int32))]))) rfl ?_
      refine gg_br (b := decide (¬ ((r95_1.2 (a0 + 24) j100_2) - (r95_1.2 (a0 + 24) j100_2) / (8 : Int32) * (8 : Int32)) = 0)) (tg := 139) (off := 15) aMi240 rfl rfl rfl rfl (fun hb => ?_) (fun hb => ?_)
      · rw [if_pos (of_decide_eq_true hb)] at h
        refine go_le (lv1 := []) (aLe_of (show (List.map (fun q => q.1) ([] : ALv)).Nodup from (by show ([] : List Nat).Nodup; decide)) aSubL_nil) ?_
        exact Tf240_b139 hd a0 ha0 r95_1.2 _ h
      · rw [if_neg (of_decide_eq_false hb)] at h
        refine go_ops aMi240 1 _ (f1 := (128, ([(4, .int (r95_1.2 (a0 + 24) j100_2)), (0, .ref a0), (1, .int i1), (2, .int i2)], [.ref a0]))) rfl ?_
        obtain ⟨r128_3, hxr128_3, h⟩ := Option.bind_eq_some_iff.mp h
        refine gg_cv (as := []) (r := []) aMi240 rfl rfl rfl aMi239 (Nat.le_of_ble_eq_true rfl) rfl (Nat.le_of_ble_eq_true rfl) (Nat.le_of_ble_eq_true rfl) (by omega) (isK_of (sh11_z ha0)) (Tf239 (by omega) a0 ha0 r95_1.2 _ hxr128_3) ?_
        show aGo kad d 240 (131, ([(4, .int (r95_1.2 (a0 + 24) j100_2)), (0, .ref a0), (1, .int i1), (2, .int i2)], [.int r128_3.1])) (aMem Z r128_3.2, t) _
        refine go_ops aMi240 1 _ (f1 := (132, ([(4, .int (r95_1.2 (a0 + 24) j100_2)), (0, .ref a0), (1, .int i1), (2, .int i2)], [.int (Int32.ofInt (-1)), .int r128_3.1]))) rfl ?_
        refine gg_br (b := decide (¬ r128_3.1 = (Int32.ofInt (-1)))) (tg := 139) (off := 7) aMi240 rfl rfl rfl rfl (fun hb => ?_) (fun hb => ?_)
        · rw [if_pos (of_decide_eq_true hb)] at h
          refine go_le (lv1 := []) (aLe_of (show (List.map (fun q => q.1) ([] : ALv)).Nodup from (by show ([] : List Nat).Nodup; decide)) aSubL_nil) ?_
          exact Tf240_b139 hd a0 ha0 r128_3.2 _ h
        · rw [if_neg (of_decide_eq_false hb)] at h
          refine go_ops aMi240 2 _ (f1 := (140, ([(4, .int (r95_1.2 (a0 + 24) j100_2)), (0, .ref a0), (1, .int i1), (2, .int i2)], [.int (3 : Int32)]))) rfl ?_
          refine go_le (lv1 := []) (aLe_of (show (List.map (fun q => q.1) ([] : ALv)).Nodup from (by show ([] : List Nat).Nodup; decide)) aSubL_nil) ?_
          exact Tf240_b140 hd a0 ha0 (3 : Int32) r128_3.2 _ h
    · rw [if_neg (of_decide_eq_false hb)] at h
      refine go_ops aMi240 2 _ (f1 := (140, ([(4, .int (r95_1.2 (a0 + 24) j100_2)), (0, .ref a0), (1, .int i1), (2, .int i2)], [.int (2 : Int32)]))) rfl ?_
      refine go_le (lv1 := []) (aLe_of (show (List.map (fun q => q.1) ([] : ALv)).Nodup from (by show ([] : List Nat).Nodup; decide)) aSubL_nil) ?_
      exact Tf240_b140 hd a0 ha0 (2 : Int32) r95_1.2 _ h
def f240_b19 (kad : Nat → Nat) (N : Nat) (Z : AZ) (a0 : Nat) (i1 : Int32) (i2 : Int32) (s0 : Int32) (I : AI) : Option (Int32 × AI) :=
  if ¬ i1 = 0 then
    if i1 ≤ (6 : Int32) then
      if ¬ s0 = 0 then
        f240_b88 kad N Z a0 I
      else
        if ¬ i1 = (6 : Int32) then
          f240_b90 kad N Z a0 i1 i2 I
        else
          (ixA 4 (1 : Int32)).bind fun j84_1 =>
          if ¬ (I (a0 + 16) j84_1) = 0 then
            f240_b90 kad N Z a0 i1 i2 I
          else
            f240_b88 kad N Z a0 I
    else
      some ((9 : Int32), I)
  else
    (ixA 4 (0 : Int32)).bind fun j29_2 =>
    if (I (a0 + 16) j29_2) = 0 then
      f240_b38 kad N Z a0 I
    else
      if i2 = (Int32.ofInt (-1)) then
        (f236 kad N Z (a0 + 24) (0 : Int32) I).bind fun r47_3 =>
        if ¬ r47_3.1 = (Int32.ofInt (-1)) then
          f240_b59 kad N Z a0 (0 : Int32) r47_3.2
        else
          f240_b59 kad N Z a0 (2 : Int32) r47_3.2
      else
        f240_b38 kad N Z a0 I
set_option maxRecDepth 20000 in
theorem Tf240_b19 {kad : Nat → Nat} {N : Nat} {Z : AZ} {d : Nat} {t : Option Nat × (Nat × Nat)} (hd : 2 ≤ d) : ∀ (a0 : Nat) (ha0 : sh11 kad Z a0) (i1 : Int32) (i2 : Int32) (s0 : Int32) (I : AI) (r : Int32 × AI), f240_b19 kad N Z a0 i1 i2 s0 I = some r → aGo kad d 240 (19, ([(0, .ref a0), (1, .int i1), (2, .int i2)], [.int s0])) (aMem Z I, t) (qI Z t r) := by
  intro a0 ha0 i1 i2 s0 I r h
  unfold f240_b19 at h
  refine go_ops aMi240 2 _ (f1 := (21, ([(3, .int s0), (0, .ref a0), (1, .int i1), (2, .int i2)], [.int i1]))) rfl ?_
  refine gg_br (b := decide (¬ i1 = 0)) (tg := 60) (off := 39) aMi240 rfl rfl rfl rfl (fun hb => ?_) (fun hb => ?_)
  · rw [if_pos (of_decide_eq_true hb)] at h
    refine go_ops aMi240 2 _ (f1 := (63, ([(3, .int s0), (0, .ref a0), (1, .int i1), (2, .int i2)], [.int (6 : Int32), .int i1]))) rfl ?_
    refine gg_br (b := decide (i1 ≤ (6 : Int32))) (tg := 69) (off := 6) aMi240 rfl rfl rfl rfl (fun hb => ?_) (fun hb => ?_)
    · rw [if_pos (of_decide_eq_true hb)] at h
      refine go_ops aMi240 1 _ (f1 := (70, ([(3, .int s0), (0, .ref a0), (1, .int i1), (2, .int i2)], [.int s0]))) rfl ?_
      refine gg_br (b := decide (¬ s0 = 0)) (tg := 88) (off := 18) aMi240 rfl rfl rfl rfl (fun hb => ?_) (fun hb => ?_)
      · rw [if_pos (of_decide_eq_true hb)] at h
        refine go_le (lv1 := []) (aLe_of (show (List.map (fun q => q.1) ([] : ALv)).Nodup from (by show ([] : List Nat).Nodup; decide)) aSubL_nil) ?_
        exact Tf240_b88 hd a0 ha0 I _ h
      · rw [if_neg (of_decide_eq_false hb)] at h
        refine go_ops aMi240 2 _ (f1 := (76, ([(3, .int s0), (0, .ref a0), (1, .int i1), (2, .int i2)], [.int (6 : Int32), .int i1]))) rfl ?_
        refine gg_br (b := decide (¬ i1 = (6 : Int32))) (tg := 90) (off := 14) aMi240 rfl rfl rfl rfl (fun hb => ?_) (fun hb => ?_)
        · rw [if_pos (of_decide_eq_true hb)] at h
          refine go_le (lv1 := [(0, .ref a0), (1, .int i1), (2, .int i2)]) (aLe_of (show (List.map (fun q => q.1) ([(0, .ref a0), (1, .int i1), (2, .int i2)] : ALv)).Nodup from (by show ([0, 1, 2] : List Nat).Nodup; decide)) (aSubL_cons rfl (aSubL_cons rfl (aSubL_cons rfl aSubL_nil)))) ?_
          exact Tf240_b90 hd a0 ha0 i1 i2 I _ h
        · rw [if_neg (of_decide_eq_false hb)] at h
          refine go_ops aMi240 1 _ (f1 := (80, ([(3, .int s0), (0, .ref a0), (1, .int i1), (2, .int i2)], [.ref a0]))) rfl ?_
          refine gg_gR (b := (a0 + 16)) aMi240 rfl rfl rfl (gR_of (sh11_z ha0) (sh11_r26 ha0)) ?_
          refine go_ops aMi240 1 _ (f1 := (84, ([(3, .int s0), (0, .ref a0), (1, .int i1), (2, .int i2)], [.int (1 : Int32), .ref (a0 + 16)]))) rfl ?_
          obtain ⟨j84_1, hxj84_1, h⟩ := Option.bind_eq_some_iff.mp h
          refine gg_lI (Or.inl ⟨rfl, rfl⟩) aMi240 rfl (lI_of (sh11_a26 ha0) hxj84_1) ?_
          refine gg_br (b := decide (¬ (I (a0 + 16) j84_1) = 0)) (tg := 90) (off := 5) aMi240 rfl rfl rfl rfl (fun hb => ?_) (fun hb => ?_)
          · rw [if_pos (of_decide_eq_true hb)] at h
            refine go_le (lv1 := [(0, .ref a0), (1, .int i1), (2, .int i2)]) (aLe_of (show (List.map (fun q => q.1) ([(0, .ref a0), (1, .int i1), (2, .int i2)] : ALv)).Nodup from (by show ([0, 1, 2] : List Nat).Nodup; decide)) (aSubL_cons rfl (aSubL_cons rfl (aSubL_cons rfl aSubL_nil)))) ?_
            exact Tf240_b90 hd a0 ha0 i1 i2 I _ h
          · rw [if_neg (of_decide_eq_false hb)] at h
            refine go_le (lv1 := []) (aLe_of (show (List.map (fun q => q.1) ([] : ALv)).Nodup from (by show ([] : List Nat).Nodup; decide)) aSubL_nil) ?_
            exact Tf240_b88 hd a0 ha0 I _ h
    · rw [if_neg (of_decide_eq_false hb)] at h
      refine go_ops aMi240 1 _ (f1 := (68, ([(3, .int s0), (0, .ref a0), (1, .int i1), (2, .int i2)], [.int (9 : Int32)]))) rfl ?_
      cases h
      exact go_ret aMi240 rfl aRetI ⟨rfl, rfl⟩
  · rw [if_neg (of_decide_eq_false hb)] at h
    refine go_ops aMi240 1 _ (f1 := (25, ([(3, .int s0), (0, .ref a0), (1, .int i1), (2, .int i2)], [.ref a0]))) rfl ?_
    refine gg_gR (b := (a0 + 16)) aMi240 rfl rfl rfl (gR_of (sh11_z ha0) (sh11_r26 ha0)) ?_
    refine go_ops aMi240 1 _ (f1 := (29, ([(3, .int s0), (0, .ref a0), (1, .int i1), (2, .int i2)], [.int (0 : Int32), .ref (a0 + 16)]))) rfl ?_
    obtain ⟨j29_2, hxj29_2, h⟩ := Option.bind_eq_some_iff.mp h
    refine gg_lI (Or.inl ⟨rfl, rfl⟩) aMi240 rfl (lI_of (sh11_a26 ha0) hxj29_2) ?_
    refine gg_br (b := decide ((I (a0 + 16) j29_2) = 0)) (tg := 38) (off := 8) aMi240 rfl rfl rfl rfl (fun hb => ?_) (fun hb => ?_)
    · rw [if_pos (of_decide_eq_true hb)] at h
      refine go_le (lv1 := []) (aLe_of (show (List.map (fun q => q.1) ([] : ALv)).Nodup from (by show ([] : List Nat).Nodup; decide)) aSubL_nil) ?_
      exact Tf240_b38 hd a0 ha0 I _ h
    · rw [if_neg (of_decide_eq_false hb)] at h
      refine go_ops aMi240 2 _ (f1 := (35, ([(3, .int s0), (0, .ref a0), (1, .int i1), (2, .int i2)], [.int (Int32.ofInt (-1)), .int i2]))) rfl ?_
      refine gg_br (b := decide (i2 = (Int32.ofInt (-1)))) (tg := 42) (off := 7) aMi240 rfl rfl rfl rfl (fun hb => ?_) (fun hb => ?_)
      · rw [if_pos (of_decide_eq_true hb)] at h
        refine go_ops aMi240 1 _ (f1 := (43, ([(3, .int s0), (0, .ref a0), (1, .int i1), (2, .int i2)], [.ref a0]))) rfl ?_
        refine gg_gR (b := (a0 + 24)) aMi240 rfl rfl rfl (gR_of (sh11_z ha0) (sh11_r50 ha0)) ?_
        refine go_ops aMi240 1 _ (f1 := (47, ([(3, .int s0), (0, .ref a0), (1, .int i1), (2, .int i2)], [.int (0 : Int32), .ref (a0 + 24)]))) rfl ?_
        obtain ⟨r47_3, hxr47_3, h⟩ := Option.bind_eq_some_iff.mp h
        refine gg_cs (as := [.ref (a0 + 24), .int (0 : Int32)]) (r := []) aMi240 rfl rfl rfl aMi236 rfl (Nat.le_of_ble_eq_true rfl) (Nat.le_of_ble_eq_true rfl) (by omega) (Tf236 (by omega) (a0 + 24) (0 : Int32) I _ hxr47_3) ?_
        show aGo kad d 240 (50, ([(3, .int s0), (0, .ref a0), (1, .int i1), (2, .int i2)], [.int r47_3.1])) (aMem Z r47_3.2, t) _
        refine go_ops aMi240 1 _ (f1 := (51, ([(3, .int s0), (0, .ref a0), (1, .int i1), (2, .int i2)], [.int (Int32.ofInt (-1)), .int r47_3.1]))) rfl ?_
        refine gg_br (b := decide (¬ r47_3.1 = (Int32.ofInt (-1)))) (tg := 58) (off := 7) aMi240 rfl rfl rfl rfl (fun hb => ?_) (fun hb => ?_)
        · rw [if_pos (of_decide_eq_true hb)] at h
          refine go_ops aMi240 1 _ (f1 := (59, ([(3, .int s0), (0, .ref a0), (1, .int i1), (2, .int i2)], [.int (0 : Int32)]))) rfl ?_
          refine go_le (lv1 := []) (aLe_of (show (List.map (fun q => q.1) ([] : ALv)).Nodup from (by show ([] : List Nat).Nodup; decide)) aSubL_nil) ?_
          exact Tf240_b59 hd a0 ha0 (0 : Int32) r47_3.2 _ h
        · rw [if_neg (of_decide_eq_false hb)] at h
          refine go_ops aMi240 2 _ (f1 := (59, ([(3, .int s0), (0, .ref a0), (1, .int i1), (2, .int i2)], [.int (2 : Int32)]))) rfl ?_
          refine go_le (lv1 := []) (aLe_of (show (List.map (fun q => q.1) ([] : ALv)).Nodup from (by show ([] : List Nat).Nodup; decide)) aSubL_nil) ?_
          exact Tf240_b59 hd a0 ha0 (2 : Int32) r47_3.2 _ h
      · rw [if_neg (of_decide_eq_false hb)] at h
        refine go_le (lv1 := []) (aLe_of (show (List.map (fun q => q.1) ([] : ALv)).Nodup from (by show ([] : List Nat).Nodup; decide)) aSubL_nil) ?_
        exact Tf240_b38 hd a0 ha0 I _ h
def f240_b14 (kad : Nat → Nat) (N : Nat) (Z : AZ) (a0 : Nat) (i1 : Int32) (i2 : Int32) (I : AI) : Option (Int32 × AI) :=
  f240_b19 kad N Z a0 i1 i2 (1 : Int32) I
set_option maxRecDepth 20000 in
theorem Tf240_b14 {kad : Nat → Nat} {N : Nat} {Z : AZ} {d : Nat} {t : Option Nat × (Nat × Nat)} (hd : 2 ≤ d) : ∀ (a0 : Nat) (ha0 : sh11 kad Z a0) (i1 : Int32) (i2 : Int32) (I : AI) (r : Int32 × AI), f240_b14 kad N Z a0 i1 i2 I = some r → aGo kad d 240 (14, ([(0, .ref a0), (1, .int i1), (2, .int i2)], [])) (aMem Z I, t) (qI Z t r) := by
  intro a0 ha0 i1 i2 I r h
  unfold f240_b14 at h
  refine go_ops aMi240 2 _ (f1 := (19, ([(0, .ref a0), (1, .int i1), (2, .int i2)], [.int (1 : Int32)]))) rfl ?_
  exact Tf240_b19 hd a0 ha0 i1 i2 (1 : Int32) I _ h
def f240 (kad : Nat → Nat) (N : Nat) (Z : AZ) (a0 : Nat) (i1 : Int32) (i2 : Int32) (I : AI) : Option (Int32 × AI) :=
  (ixA 4 (0 : Int32)).bind fun j5_1 =>
  if (I (a0 + 16) j5_1) = 0 then
    f240_b14 kad N Z a0 i1 i2 I
  else
    if ¬ i2 = (Int32.ofInt (-1)) then
      f240_b19 kad N Z a0 i1 i2 (0 : Int32) I
    else
      f240_b14 kad N Z a0 i1 i2 I
set_option maxRecDepth 20000 in
theorem Tf240 {kad : Nat → Nat} {N : Nat} {Z : AZ} {d : Nat} {t : Option Nat × (Nat × Nat)} (hd : 2 ≤ d) : ∀ (a0 : Nat) (ha0 : sh11 kad Z a0) (i1 : Int32) (i2 : Int32) (I : AI) (r : Int32 × AI), f240 kad N Z a0 i1 i2 I = some r → aGo kad d 240 (0, ([(0, .ref a0), (1, .int i1), (2, .int i2)], [])) (aMem Z I, t) (qI Z t r) := by
  intro a0 ha0 i1 i2 I r h
  unfold f240 at h
  refine go_ops aMi240 1 _ (f1 := (1, ([(0, .ref a0), (1, .int i1), (2, .int i2)], [.ref a0]))) rfl ?_
  refine gg_gR (b := (a0 + 16)) aMi240 rfl rfl rfl (gR_of (sh11_z ha0) (sh11_r26 ha0)) ?_
  refine go_ops aMi240 1 _ (f1 := (5, ([(0, .ref a0), (1, .int i1), (2, .int i2)], [.int (0 : Int32), .ref (a0 + 16)]))) rfl ?_
  obtain ⟨j5_1, hxj5_1, h⟩ := Option.bind_eq_some_iff.mp h
  refine gg_lI (Or.inl ⟨rfl, rfl⟩) aMi240 rfl (lI_of (sh11_a26 ha0) hxj5_1) ?_
  refine gg_br (b := decide ((I (a0 + 16) j5_1) = 0)) (tg := 14) (off := 8) aMi240 rfl rfl rfl rfl (fun hb => ?_) (fun hb => ?_)
  · rw [if_pos (of_decide_eq_true hb)] at h
    exact Tf240_b14 hd a0 ha0 i1 i2 I _ h
  · rw [if_neg (of_decide_eq_false hb)] at h
    refine go_ops aMi240 2 _ (f1 := (11, ([(0, .ref a0), (1, .int i1), (2, .int i2)], [.int (Int32.ofInt (-1)), .int i2]))) rfl ?_
    refine gg_br (b := decide (¬ i2 = (Int32.ofInt (-1)))) (tg := 18) (off := 7) aMi240 rfl rfl rfl rfl (fun hb => ?_) (fun hb => ?_)
    · rw [if_pos (of_decide_eq_true hb)] at h
      refine go_ops aMi240 1 _ (f1 := (19, ([(0, .ref a0), (1, .int i1), (2, .int i2)], [.int (0 : Int32)]))) rfl ?_
      exact Tf240_b19 hd a0 ha0 i1 i2 (0 : Int32) I _ h
    · rw [if_neg (of_decide_eq_false hb)] at h
      exact Tf240_b14 hd a0 ha0 i1 i2 I _ h
-- KernelGymModel.blockOf ([III)I
def f241 (kad : Nat → Nat) (N : Nat) (Z : AZ) (a0 : Nat) (b1 : Nat) (i2 : Int32) (i3 : Int32) (I : AI) : Option (Int32 × AI) :=
  (f235 kad N Z i2 I).bind fun r2_1 =>
  (lI Z r2_1.2 100 b1 ((r2_1.1 + (2 : Int32)) + (i3 / (8 : Int32)))).bind fun x12_2 =>
  some (x12_2, r2_1.2)
set_option maxRecDepth 20000 in
theorem Tf241 {kad : Nat → Nat} {N : Nat} {Z : AZ} {d : Nat} {t : Option Nat × (Nat × Nat)} (hd : 1 ≤ d) : ∀ (a0 : Nat) (ha0 : sh11 kad Z a0) (b1 : Nat) (i2 : Int32) (i3 : Int32) (I : AI) (r : Int32 × AI), f241 kad N Z a0 b1 i2 i3 I = some r → aGo kad d 241 (0, ([(0, .ref a0), (1, .ref b1), (2, .int i2), (3, .int i3)], [])) (aMem Z I, t) (qI Z t r) := by
  intro a0 ha0 b1 i2 i3 I r h
  unfold f241 at h
  refine go_ops aMi241 2 _ (f1 := (2, ([(0, .ref a0), (1, .ref b1), (2, .int i2), (3, .int i3)], [.int i2, .ref b1]))) rfl ?_
  obtain ⟨r2_1, hxr2_1, h⟩ := Option.bind_eq_some_iff.mp h
  refine gg_cs (as := [.int i2]) (r := [.ref b1]) aMi241 rfl rfl rfl aMi235 rfl (Nat.le_of_ble_eq_true rfl) (Nat.le_of_ble_eq_true rfl) (by omega) (Tf235 (by omega) i2 I _ hxr2_1) ?_
  show aGo kad d 241 (5, ([(0, .ref a0), (1, .ref b1), (2, .int i2), (3, .int i3)], [.int r2_1.1, .ref b1])) (aMem Z r2_1.2, t) _
  refine go_ops aMi241 6 _ (f1 := (12, ([(0, .ref a0), (1, .ref b1), (2, .int i2), (3, .int i3)], [.int ((r2_1.1 + (2 : Int32)) + (i3 / (8 : Int32))), .ref b1]))) rfl ?_
  obtain ⟨x12_2, hxx12_2, h⟩ := Option.bind_eq_some_iff.mp h
  refine gg_lI (Or.inl ⟨rfl, rfl⟩) aMi241 rfl hxx12_2 ?_
  cases h
  exact go_ret aMi241 rfl aRetI ⟨rfl, rfl⟩
-- KernelGymModel.blockOfEntry (I)I
def f243 (kad : Nat → Nat) (N : Nat) (Z : AZ) (i0 : Int32) (I : AI) : Option (Int32 × AI) :=
  some (((1 : Int32) <<< (((5 : Int32) + (i0 / (2 : Int32))) &&& 31)), I)
set_option maxRecDepth 20000 in
theorem Tf243 {kad : Nat → Nat} {N : Nat} {Z : AZ} {d : Nat} {t : Option Nat × (Nat × Nat)} (hd : 0 ≤ d) : ∀ (i0 : Int32) (I : AI) (r : Int32 × AI), f243 kad N Z i0 I = some r → aGo kad d 243 (0, ([(0, .int i0)], [])) (aMem Z I, t) (qI Z t r) := by
  intro i0 I r h
  unfold f243 at h
  refine go_ops aMi243 7 _ (f1 := (7, ([(0, .int i0)], [.int ((1 : Int32) <<< (((5 : Int32) + (i0 / (2 : Int32))) &&& 31))]))) rfl ?_
  cases h
  exact go_ret aMi243 rfl aRetI ⟨rfl, rfl⟩
-- KernelGymModel.makesFile ()I
def f244 (kad : Nat → Nat) (N : Nat) (Z : AZ) (a0 : Nat) (I : AI) : Option (Int32 × AI) :=
  (f236 kad N Z (a0 + 24) (0 : Int32) I).bind fun r5_1 =>
  (f235 kad N Z r5_1.1 r5_1.2).bind fun r14_2 =>
  (ixA 4 (0 : Int32)).bind fun j22_3 =>
  (ixA 256 r14_2.1).bind fun j23_5 =>
  (wI r14_2.2 (a0 + 25) j23_5 (r14_2.2 (a0 + 16) j22_3)).bind fun I23_4 =>
  (f235 kad N Z r5_1.1 I23_4).bind fun r29_6 =>
  (ixA 256 (r29_6.1 + (1 : Int32))).bind fun j35_8 =>
  (wI r29_6.2 (a0 + 25) j35_8 (0 : Int32)).bind fun I35_7 =>
  (f235 kad N Z r5_1.1 I35_7).bind fun r41_9 =>
  (ixA 256 (r41_9.1 + (2 : Int32))).bind fun j47_11 =>
  (wI r41_9.2 (a0 + 25) j47_11 (0 : Int32)).bind fun I47_10 =>
  (f235 kad N Z r5_1.1 I47_10).bind fun r53_12 =>
  (ixA 256 (r53_12.1 + (3 : Int32))).bind fun j59_14 =>
  (wI r53_12.2 (a0 + 25) j59_14 (0 : Int32)).bind fun I59_13 =>
  (f243 kad N Z r5_1.1 I59_13).bind fun r61_15 =>
  some (r61_15.1, r61_15.2)
set_option maxRecDepth 20000 in
theorem Tf244 {kad : Nat → Nat} {N : Nat} {Z : AZ} {d : Nat} {t : Option Nat × (Nat × Nat)} (hd : 2 ≤ d) : ∀ (a0 : Nat) (ha0 : sh11 kad Z a0) (I : AI) (r : Int32 × AI), f244 kad N Z a0 I = some r → aGo kad d 244 (0, ([(0, .ref a0)], [])) (aMem Z I, t) (qI Z t r) := by
  intro a0 ha0 I r h
  unfold f244 at h
  refine go_ops aMi244 1 _ (f1 := (1, ([(0, .ref a0)], [.ref a0]))) rfl ?_
  refine gg_gR (b := (a0 + 24)) aMi244 rfl rfl rfl (gR_of (sh11_z ha0) (sh11_r50 ha0)) ?_
  refine go_ops aMi244 1 _ (f1 := (5, ([(0, .ref a0)], [.int (0 : Int32), .ref (a0 + 24)]))) rfl ?_
  obtain ⟨r5_1, hxr5_1, h⟩ := Option.bind_eq_some_iff.mp h
  refine gg_cs (as := [.ref (a0 + 24), .int (0 : Int32)]) (r := []) aMi244 rfl rfl rfl aMi236 rfl (Nat.le_of_ble_eq_true rfl) (Nat.le_of_ble_eq_true rfl) (by omega) (Tf236 (by omega) (a0 + 24) (0 : Int32) I _ hxr5_1) ?_
  show aGo kad d 244 (8, ([(0, .ref a0)], [.int r5_1.1])) (aMem Z r5_1.2, t) _
  refine go_ops aMi244 2 _ (f1 := (10, ([(1, .int r5_1.1), (0, .ref a0)], [.ref a0]))) rfl ?_
  refine gg_gR (b := (a0 + 25)) aMi244 rfl rfl rfl (gR_of (sh11_z ha0) (sh11_r51 ha0)) ?_
  refine go_ops aMi244 1 _ (f1 := (14, ([(1, .int r5_1.1), (0, .ref a0)], [.int r5_1.1, .ref (a0 + 25)]))) rfl ?_
  obtain ⟨r14_2, hxr14_2, h⟩ := Option.bind_eq_some_iff.mp h
  refine gg_cs (as := [.int r5_1.1]) (r := [.ref (a0 + 25)]) aMi244 rfl rfl rfl aMi235 rfl (Nat.le_of_ble_eq_true rfl) (Nat.le_of_ble_eq_true rfl) (by omega) (Tf235 (by omega) r5_1.1 r5_1.2 _ hxr14_2) ?_
  show aGo kad d 244 (17, ([(1, .int r5_1.1), (0, .ref a0)], [.int r14_2.1, .ref (a0 + 25)])) (aMem Z r14_2.2, t) _
  refine go_ops aMi244 1 _ (f1 := (18, ([(1, .int r5_1.1), (0, .ref a0)], [.ref a0, .int r14_2.1, .ref (a0 + 25)]))) rfl ?_
  refine gg_gR (b := (a0 + 16)) aMi244 rfl rfl rfl (gR_of (sh11_z ha0) (sh11_r26 ha0)) ?_
  refine go_ops aMi244 1 _ (f1 := (22, ([(1, .int r5_1.1), (0, .ref a0)], [.int (0 : Int32), .ref (a0 + 16), .int r14_2.1, .ref (a0 + 25)]))) rfl ?_
  obtain ⟨j22_3, hxj22_3, h⟩ := Option.bind_eq_some_iff.mp h
  refine gg_lI (Or.inl ⟨rfl, rfl⟩) aMi244 rfl (lI_of (sh11_a26 ha0) hxj22_3) ?_
  obtain ⟨j23_5, hxj23_5, h⟩ := Option.bind_eq_some_iff.mp h
  obtain ⟨I23_4, hxI23_4, h⟩ := Option.bind_eq_some_iff.mp h
  refine gg_sI (Or.inl ⟨rfl, rfl⟩) aMi244 rfl (sI_of (sh11_a51 ha0) hxj23_5 hxI23_4) ?_
  refine go_ops aMi244 1 _ (f1 := (25, ([(1, .int r5_1.1), (0, .ref a0)], [.ref a0]))) rfl ?_
  refine gg_gR (b := (a0 + 25)) aMi244 rfl rfl rfl (gR_of (sh11_z ha0) (sh11_r51 ha0)) ?_
  refine go_ops aMi244 1 _ (f1 := (29, ([(1, .int r5_1.1), (0, .ref a0)], [.int r5_1.1, .ref (a0 + 25)]))) rfl ?_
  obtain ⟨r29_6, hxr29_6, h⟩ := Option.bind_eq_some_iff.mp h
  refine gg_cs (as := [.int r5_1.1]) (r := [.ref (a0 + 25)]) aMi244 rfl rfl rfl aMi235 rfl (Nat.le_of_ble_eq_true rfl) (Nat.le_of_ble_eq_true rfl) (by omega) (Tf235 (by omega) r5_1.1 I23_4 _ hxr29_6) ?_
  show aGo kad d 244 (32, ([(1, .int r5_1.1), (0, .ref a0)], [.int r29_6.1, .ref (a0 + 25)])) (aMem Z r29_6.2, t) _
  refine go_ops aMi244 3 _ (f1 := (35, ([(1, .int r5_1.1), (0, .ref a0)], [.int (0 : Int32), .int (r29_6.1 + (1 : Int32)), .ref (a0 + 25)]))) rfl ?_
  obtain ⟨j35_8, hxj35_8, h⟩ := Option.bind_eq_some_iff.mp h
  obtain ⟨I35_7, hxI35_7, h⟩ := Option.bind_eq_some_iff.mp h
  refine gg_sI (Or.inl ⟨rfl, rfl⟩) aMi244 rfl (sI_of (sh11_a51 ha0) hxj35_8 hxI35_7) ?_
  refine go_ops aMi244 1 _ (f1 := (37, ([(1, .int r5_1.1), (0, .ref a0)], [.ref a0]))) rfl ?_
  refine gg_gR (b := (a0 + 25)) aMi244 rfl rfl rfl (gR_of (sh11_z ha0) (sh11_r51 ha0)) ?_
  refine go_ops aMi244 1 _ (f1 := (41, ([(1, .int r5_1.1), (0, .ref a0)], [.int r5_1.1, .ref (a0 + 25)]))) rfl ?_
  obtain ⟨r41_9, hxr41_9, h⟩ := Option.bind_eq_some_iff.mp h
  refine gg_cs (as := [.int r5_1.1]) (r := [.ref (a0 + 25)]) aMi244 rfl rfl rfl aMi235 rfl (Nat.le_of_ble_eq_true rfl) (Nat.le_of_ble_eq_true rfl) (by omega) (Tf235 (by omega) r5_1.1 I35_7 _ hxr41_9) ?_
  show aGo kad d 244 (44, ([(1, .int r5_1.1), (0, .ref a0)], [.int r41_9.1, .ref (a0 + 25)])) (aMem Z r41_9.2, t) _
  refine go_ops aMi244 3 _ (f1 := (47, ([(1, .int r5_1.1), (0, .ref a0)], [.int (0 : Int32), .int (r41_9.1 + (2 : Int32)), .ref (a0 + 25)]))) rfl ?_
  obtain ⟨j47_11, hxj47_11, h⟩ := Option.bind_eq_some_iff.mp h
  obtain ⟨I47_10, hxI47_10, h⟩ := Option.bind_eq_some_iff.mp h
  refine gg_sI (Or.inl ⟨rfl, rfl⟩) aMi244 rfl (sI_of (sh11_a51 ha0) hxj47_11 hxI47_10) ?_
  refine go_ops aMi244 1 _ (f1 := (49, ([(1, .int r5_1.1), (0, .ref a0)], [.ref a0]))) rfl ?_
  refine gg_gR (b := (a0 + 25)) aMi244 rfl rfl rfl (gR_of (sh11_z ha0) (sh11_r51 ha0)) ?_
  refine go_ops aMi244 1 _ (f1 := (53, ([(1, .int r5_1.1), (0, .ref a0)], [.int r5_1.1, .ref (a0 + 25)]))) rfl ?_
  obtain ⟨r53_12, hxr53_12, h⟩ := Option.bind_eq_some_iff.mp h
  refine gg_cs (as := [.int r5_1.1]) (r := [.ref (a0 + 25)]) aMi244 rfl rfl rfl aMi235 rfl (Nat.le_of_ble_eq_true rfl) (Nat.le_of_ble_eq_true rfl) (by omega) (Tf235 (by omega) r5_1.1 I47_10 _ hxr53_12) ?_
  show aGo kad d 244 (56, ([(1, .int r5_1.1), (0, .ref a0)], [.int r53_12.1, .ref (a0 + 25)])) (aMem Z r53_12.2, t) _
  refine go_ops aMi244 3 _ (f1 := (59, ([(1, .int r5_1.1), (0, .ref a0)], [.int (0 : Int32), .int (r53_12.1 + (3 : Int32)), .ref (a0 + 25)]))) rfl ?_
  obtain ⟨j59_14, hxj59_14, h⟩ := Option.bind_eq_some_iff.mp h
  obtain ⟨I59_13, hxI59_13, h⟩ := Option.bind_eq_some_iff.mp h
  refine gg_sI (Or.inl ⟨rfl, rfl⟩) aMi244 rfl (sI_of (sh11_a51 ha0) hxj59_14 hxI59_13) ?_
  refine go_ops aMi244 1 _ (f1 := (61, ([(1, .int r5_1.1), (0, .ref a0)], [.int r5_1.1]))) rfl ?_
  obtain ⟨r61_15, hxr61_15, h⟩ := Option.bind_eq_some_iff.mp h
  refine gg_cs (as := [.int r5_1.1]) (r := []) aMi244 rfl rfl rfl aMi243 rfl (Nat.le_of_ble_eq_true rfl) (Nat.le_of_ble_eq_true rfl) (by omega) (Tf243 (by omega) r5_1.1 I59_13 _ hxr61_15) ?_
  show aGo kad d 244 (64, ([(1, .int r5_1.1), (0, .ref a0)], [.int r61_15.1])) (aMem Z r61_15.2, t) _
  cases h
  exact go_ret aMi244 rfl aRetI ⟨rfl, rfl⟩
-- KernelGymModel.turns ([II)V
def f238 (kad : Nat → Nat) (N : Nat) (Z : AZ) (b0 : Nat) (i1 : Int32) (I : AI) : Option (Unit × AI) :=
  (lI Z I 100 b0 ((32 : Int32) + (i1 / (16 : Int32)))).bind fun x9_1 =>
  (sI Z I 100 b0 ((32 : Int32) + (i1 / (16 : Int32))) (x9_1 ^^^ ((1 : Int32) <<< ((i1 - i1 / (16 : Int32) * (16 : Int32)) &&& 31)))).bind fun I17_2 =>
  some ((), I17_2)
set_option maxRecDepth 20000 in
theorem Tf238 {kad : Nat → Nat} {N : Nat} {Z : AZ} {d : Nat} {t : Option Nat × (Nat × Nat)} (hd : 0 ≤ d) : ∀ (b0 : Nat) (i1 : Int32) (I : AI) (r : Unit × AI), f238 kad N Z b0 i1 I = some r → aGo kad d 238 (0, ([(0, .ref b0), (1, .int i1)], [])) (aMem Z I, t) (qV Z t r) := by
  intro b0 i1 I r h
  unfold f238 at h
  refine go_ops aMi238 7 _ (f1 := (9, ([(0, .ref b0), (1, .int i1)], [.int ((32 : Int32) + (i1 / (16 : Int32))), .ref b0, .int ((32 : Int32) + (i1 / (16 : Int32))), .ref b0]))) rfl ?_
  obtain ⟨x9_1, hxx9_1, h⟩ := Option.bind_eq_some_iff.mp h
  refine gg_lI (Or.inl ⟨rfl, rfl⟩) aMi238 rfl hxx9_1 ?_
  refine go_ops aMi238 6 _ (f1 := (17, ([(0, .ref b0), (1, .int i1)], [.int (x9_1 ^^^ ((1 : Int32) <<< ((i1 - i1 / (16 : Int32) * (16 : Int32)) &&& 31))), .int ((32 : Int32) + (i1 / (16 : Int32))), .ref b0]))) rfl ?_
  obtain ⟨I17_2, hxI17_2, h⟩ := Option.bind_eq_some_iff.mp h
  refine gg_sI (Or.inl ⟨rfl, rfl⟩) aMi238 rfl hxI17_2 ?_
  cases h
  exact go_ret aMi238 rfl rfl ⟨rfl, rfl⟩
-- KernelGymModel.appends (I)I
def f245_b92 (kad : Nat → Nat) (N : Nat) (Z : AZ) (a0 : Nat) (i1 : Int32) (i2 : Int32) (i3 : Int32) (I : AI) : Option (Int32 × AI) :=
  (f241 kad N Z a0 (a0 + 25) i1 i2 I).bind fun r99_1 =>
  (ixA 4 (1 : Int32)).bind fun j123_2 =>
  (ixA 256 (((8 : Int32) * r99_1.1) + (i2 - i2 / (8 : Int32) * (8 : Int32)))).bind fun j124_4 =>
  (wI r99_1.2 (a0 + 25) j124_4 (r99_1.2 (a0 + 16) j123_2)).bind fun I124_3 =>
  (f235 kad N Z i1 I124_3).bind fun r130_5 =>
  (ixA 256 (r130_5.1 + (1 : Int32))).bind fun j138_7 =>
  (wI r130_5.2 (a0 + 25) j138_7 (i2 + (1 : Int32))).bind fun I138_6 =>
  some ((i3 ||| ((1 : Int32) <<< (r99_1.1 &&& 31))), I138_6)
set_option maxRecDepth 20000 in
theorem Tf245_b92 {kad : Nat → Nat} {N : Nat} {Z : AZ} {d : Nat} {t : Option Nat × (Nat × Nat)} (hd : 2 ≤ d) : ∀ (a0 : Nat) (ha0 : sh11 kad Z a0) (i1 : Int32) (i2 : Int32) (i3 : Int32) (I : AI) (r : Int32 × AI), f245_b92 kad N Z a0 i1 i2 i3 I = some r → aGo kad d 245 (92, ([(0, .ref a0), (1, .int i1), (2, .int i2), (3, .int i3)], [])) (aMem Z I, t) (qI Z t r) := by
  intro a0 ha0 i1 i2 i3 I r h
  unfold f245_b92 at h
  refine go_ops aMi245 2 _ (f1 := (94, ([(0, .ref a0), (1, .int i1), (2, .int i2), (3, .int i3)], [.ref a0, .ref a0]))) rfl ?_
  refine gg_gR (b := (a0 + 25)) aMi245 rfl rfl rfl (gR_of (sh11_z ha0) (sh11_r51 ha0)) ?_
  refine go_ops aMi245 2 _ (f1 := (99, ([(0, .ref a0), (1, .int i1), (2, .int i2), (3, .int i3)], [.int i2, .int i1, .ref (a0 + 25), .ref a0]))) rfl ?_
  obtain ⟨r99_1, hxr99_1, h⟩ := Option.bind_eq_some_iff.mp h
  refine gg_cv (as := [.ref (a0 + 25), .int i1, .int i2]) (r := []) aMi245 rfl rfl rfl aMi241 (Nat.le_of_ble_eq_true rfl) rfl (Nat.le_of_ble_eq_true rfl) (Nat.le_of_ble_eq_true rfl) (by omega) (isK_of (sh11_z ha0)) (Tf241 (by omega) a0 ha0 (a0 + 25) i1 i2 I _ hxr99_1) ?_
  show aGo kad d 245 (102, ([(0, .ref a0), (1, .int i1), (2, .int i2), (3, .int i3)], [.int r99_1.1])) (aMem Z r99_1.2, t) _
  refine go_ops aMi245 2 _ (f1 := (105, ([(4, .int r99_1.1), (0, .ref a0), (1, .int i1), (2, .int i2), (3, .int i3)], [.ref a0]))) rfl ?_
  refine gg_gR (b := (a0 + 25)) aMi245 rfl rfl rfl (gR_of (sh11_z ha0) (sh11_r51 ha0)) ?_
  refine go_ops aMi245 8 _ (f1 := (119, ([(4, .int r99_1.1), (0, .ref a0), (1, .int i1), (2, .int i2), (3, .int i3)], [.ref a0, .int (((8 : Int32) * r99_1.1) + (i2 - i2 / (8 : Int32) * (8 : Int32))), .ref (a0 + 25)]))) rfl ?_
  refine gg_gR (b := (a0 + 16)) aMi245 rfl rfl rfl (gR_of (sh11_z ha0) (sh11_r26 ha0)) ?_
  refine go_ops aMi245 1 _ (f1 := (123, ([(4, .int r99_1.1), (0, .ref a0), (1, .int i1), (2, .int i2), (3, .int i3)], [.int (1 : Int32), .ref (a0 + 16), .int (((8 : Int32) * r99_1.1) + (i2 - i2 / (8 : Int32) * (8 : Int32))), .ref (a0 + 25)]))) rfl ?_
  obtain ⟨j123_2, hxj123_2, h⟩ := Option.bind_eq_some_iff.mp h
  refine gg_lI (Or.inl ⟨rfl, rfl⟩) aMi245 rfl (lI_of (sh11_a26 ha0) hxj123_2) ?_
  obtain ⟨j124_4, hxj124_4, h⟩ := Option.bind_eq_some_iff.mp h
  obtain ⟨I124_3, hxI124_3, h⟩ := Option.bind_eq_some_iff.mp h
  refine gg_sI (Or.inl ⟨rfl, rfl⟩) aMi245 rfl (sI_of (sh11_a51 ha0) hxj124_4 hxI124_3) ?_
  refine go_ops aMi245 1 _ (f1 := (126, ([(4, .int r99_1.1), (0, .ref a0), (1, .int i1), (2, .int i2), (3, .int i3)], [.ref a0]))) rfl ?_
  refine gg_gR (b := (a0 + 25)) aMi245 rfl rfl rfl (gR_of (sh11_z ha0) (sh11_r51 ha0)) ?_
  refine go_ops aMi245 1 _ (f1 := (130, ([(4, .int r99_1.1), (0, .ref a0), (1, .int i1), (2, .int i2), (3, .int i3)], [.int i1, .ref (a0 + 25)]))) rfl ?_
  obtain ⟨r130_5, hxr130_5, h⟩ := Option.bind_eq_some_iff.mp h
  refine gg_cs (as := [.int i1]) (r := [.ref (a0 + 25)]) aMi245 rfl rfl rfl aMi235 rfl (Nat.le_of_ble_eq_true rfl) (Nat.le_of_ble_eq_true rfl) (by omega) (Tf235 (by omega) i1 I124_3 _ hxr130_5) ?_
  show aGo kad d 245 (133, ([(4, .int r99_1.1), (0, .ref a0), (1, .int i1), (2, .int i2), (3, .int i3)], [.int r130_5.1, .ref (a0 + 25)])) (aMem Z r130_5.2, t) _
  refine go_ops aMi245 5 _ (f1 := (138, ([(4, .int r99_1.1), (0, .ref a0), (1, .int i1), (2, .int i2), (3, .int i3)], [.int (i2 + (1 : Int32)), .int (r130_5.1 + (1 : Int32)), .ref (a0 + 25)]))) rfl ?_
  obtain ⟨j138_7, hxj138_7, h⟩ := Option.bind_eq_some_iff.mp h
  obtain ⟨I138_6, hxI138_6, h⟩ := Option.bind_eq_some_iff.mp h
  refine gg_sI (Or.inl ⟨rfl, rfl⟩) aMi245 rfl (sI_of (sh11_a51 ha0) hxj138_7 hxI138_6) ?_
  refine go_ops aMi245 5 _ (f1 := (145, ([(4, .int r99_1.1), (0, .ref a0), (1, .int i1), (2, .int i2), (3, .int i3)], [.int (i3 ||| ((1 : Int32) <<< (r99_1.1 &&& 31)))]))) rfl ?_
  cases h
  exact go_ret aMi245 rfl aRetI ⟨rfl, rfl⟩
def f245_b60 (kad : Nat → Nat) (N : Nat) (Z : AZ) : Nat → Nat → Int32 → Int32 → Int32 → Int32 → Int32 → AI → Option (Int32 × AI)
  | 0, _, _, _, _, _, _, _ => none
  | F + 1, a0, i1, i2, i3, i4, i5, I =>
    if (8 : Int32) ≤ i5 then
      f245_b92 kad N Z a0 i1 i2 (i3 ||| (16 : Int32)) I
    else
      (ixA 256 (((8 : Int32) * i4) + i5)).bind fun j80_2 =>
      (wI I (a0 + 25) j80_2 (0 : Int32)).bind fun I80_1 =>
      f245_b60 kad N Z F a0 i1 i2 i3 i4 (i5 + (1 : Int32)) I80_1
set_option maxRecDepth 20000 in
theorem Tf245_b60 {kad : Nat → Nat} {N : Nat} {Z : AZ} {d : Nat} {t : Option Nat × (Nat × Nat)} (hd : 2 ≤ d) : ∀ (F : Nat) (a0 : Nat) (ha0 : sh11 kad Z a0) (i1 : Int32) (i2 : Int32) (i3 : Int32) (i4 : Int32) (i5 : Int32) (I : AI) (r : Int32 × AI), f245_b60 kad N Z F a0 i1 i2 i3 i4 i5 I = some r → aGo kad d 245 (60, ([(0, .ref a0), (1, .int i1), (2, .int i2), (3, .int i3), (4, .int i4), (5, .int i5)], [])) (aMem Z I, t) (qI Z t r) := by
  intro F
  induction F with
  | zero => intro a0 ha0 i1 i2 i3 i4 i5 I r h; cases h
  | succ F ih =>
    intro a0 ha0 i1 i2 i3 i4 i5 I r h
    unfold f245_b60 at h
    refine go_ops aMi245 2 _ (f1 := (64, ([(0, .ref a0), (1, .int i1), (2, .int i2), (3, .int i3), (4, .int i4), (5, .int i5)], [.int (8 : Int32), .int i5]))) rfl ?_
    refine gg_br (b := decide ((8 : Int32) ≤ i5)) (tg := 87) (off := 23) aMi245 rfl rfl rfl rfl (fun hb => ?_) (fun hb => ?_)
    · rw [if_pos (of_decide_eq_true hb)] at h
      refine go_ops aMi245 4 _ (f1 := (92, ([(3, .int (i3 ||| (16 : Int32))), (0, .ref a0), (1, .int i1), (2, .int i2), (4, .int i4), (5, .int i5)], []))) rfl ?_
      refine go_le (lv1 := [(0, .ref a0), (1, .int i1), (2, .int i2), (3, .int (i3 ||| (16 : Int32)))]) (aLe_of (show (List.map (fun q => q.1) ([(0, .ref a0), (1, .int i1), (2, .int i2), (3, .int (i3 ||| (16 : Int32)))] : ALv)).Nodup from (by show ([0, 1, 2, 3] : List Nat).Nodup; decide)) (aSubL_cons rfl (aSubL_cons rfl (aSubL_cons rfl (aSubL_cons rfl aSubL_nil))))) ?_
      exact Tf245_b92 hd a0 ha0 i1 i2 (i3 ||| (16 : Int32)) I _ h
    · rw [if_neg (of_decide_eq_false hb)] at h
      refine go_ops aMi245 1 _ (f1 := (68, ([(0, .ref a0), (1, .int i1), (2, .int i2), (3, .int i3), (4, .int i4), (5, .int i5)], [.ref a0]))) rfl ?_
      refine gg_gR (b := (a0 + 25)) aMi245 rfl rfl rfl (gR_of (sh11_z ha0) (sh11_r51 ha0)) ?_
      refine go_ops aMi245 6 _ (f1 := (80, ([(0, .ref a0), (1, .int i1), (2, .int i2), (3, .int i3), (4, .int i4), (5, .int i5)], [.int (0 : Int32), .int (((8 : Int32) * i4) + i5), .ref (a0 + 25)]))) rfl ?_
      obtain ⟨j80_2, hxj80_2, h⟩ := Option.bind_eq_some_iff.mp h
      obtain ⟨I80_1, hxI80_1, h⟩ := Option.bind_eq_some_iff.mp h
      refine gg_sI (Or.inl ⟨rfl, rfl⟩) aMi245 rfl (sI_of (sh11_a51 ha0) hxj80_2 hxI80_1) ?_
      refine go_ops aMi245 2 _ (f1 := (60, ([(5, .int (i5 + (1 : Int32))), (0, .ref a0), (1, .int i1), (2, .int i2), (3, .int i3), (4, .int i4)], []))) rfl ?_
      refine go_le (lv1 := [(0, .ref a0), (1, .int i1), (2, .int i2), (3, .int i3), (4, .int i4), (5, .int (i5 + (1 : Int32)))]) (aLe_of (show (List.map (fun q => q.1) ([(0, .ref a0), (1, .int i1), (2, .int i2), (3, .int i3), (4, .int i4), (5, .int (i5 + (1 : Int32)))] : ALv)).Nodup from (by show ([0, 1, 2, 3, 4, 5] : List Nat).Nodup; decide)) (aSubL_cons rfl (aSubL_cons rfl (aSubL_cons rfl (aSubL_cons rfl (aSubL_cons rfl (aSubL_cons rfl aSubL_nil))))))) ?_
      exact ih a0 ha0 i1 i2 i3 i4 (i5 + (1 : Int32)) I80_1 _ h
def f245 (kad : Nat → Nat) (N : Nat) (Z : AZ) (a0 : Nat) (i1 : Int32) (I : AI) : Option (Int32 × AI) :=
  (f235 kad N Z i1 I).bind fun r5_1 =>
  (ixA 256 (r5_1.1 + (1 : Int32))).bind fun j10_2 =>
  (f243 kad N Z i1 r5_1.2).bind fun r13_3 =>
  if ¬ ((r5_1.2 (a0 + 25) j10_2) - (r5_1.2 (a0 + 25) j10_2) / (8 : Int32) * (8 : Int32)) = 0 then
    f245_b92 kad N Z a0 i1 (r5_1.2 (a0 + 25) j10_2) r13_3.1 r13_3.2
  else
    (f239 kad N Z a0 r13_3.2).bind fun r25_4 =>
    (f238 kad N Z (a0 + 25) r25_4.1 r25_4.2).bind fun r36_5 =>
    (f235 kad N Z i1 r36_5.2).bind fun r44_6 =>
    (ixA 256 ((r44_6.1 + (2 : Int32)) + ((r5_1.2 (a0 + 25) j10_2) / (8 : Int32)))).bind fun j56_8 =>
    (wI r44_6.2 (a0 + 25) j56_8 r25_4.1).bind fun I56_7 =>
    f245_b60 kad N Z N a0 i1 (r5_1.2 (a0 + 25) j10_2) r13_3.1 r25_4.1 (0 : Int32) I56_7
set_option maxRecDepth 20000 in
theorem Tf245 {kad : Nat → Nat} {N : Nat} {Z : AZ} {d : Nat} {t : Option Nat × (Nat × Nat)} (hd : 2 ≤ d) : ∀ (a0 : Nat) (ha0 : sh11 kad Z a0) (i1 : Int32) (I : AI) (r : Int32 × AI), f245 kad N Z a0 i1 I = some r → aGo kad d 245 (0, ([(0, .ref a0), (1, .int i1)], [])) (aMem Z I, t) (qI Z t r) := by
  intro a0 ha0 i1 I r h
  unfold f245 at h
  refine go_ops aMi245 1 _ (f1 := (1, ([(0, .ref a0), (1, .int i1)], [.ref a0]))) rfl ?_
  refine gg_gR (b := (a0 + 25)) aMi245 rfl rfl rfl (gR_of (sh11_z ha0) (sh11_r51 ha0)) ?_
  refine go_ops aMi245 1 _ (f1 := (5, ([(0, .ref a0), (1, .int i1)], [.int i1, .ref (a0 + 25)]))) rfl ?_
  obtain ⟨r5_1, hxr5_1, h⟩ := Option.bind_eq_some_iff.mp h
  refine gg_cs (as := [.int i1]) (r := [.ref (a0 + 25)]) aMi245 rfl rfl rfl aMi235 rfl (Nat.le_of_ble_eq_true rfl) (Nat.le_of_ble_eq_true rfl) (by omega) (Tf235 (by omega) i1 I _ hxr5_1) ?_
  show aGo kad d 245 (8, ([(0, .ref a0), (1, .int i1)], [.int r5_1.1, .ref (a0 + 25)])) (aMem Z r5_1.2, t) _
  refine go_ops aMi245 2 _ (f1 := (10, ([(0, .ref a0), (1, .int i1)], [.int (r5_1.1 + (1 : Int32)), .ref (a0 + 25)]))) rfl ?_
  obtain ⟨j10_2, hxj10_2, h⟩ := Option.bind_eq_some_iff.mp h
  refine gg_lI (Or.inl ⟨rfl, rfl⟩) aMi245 rfl (lI_of (sh11_a51 ha0) hxj10_2) ?_
  refine go_ops aMi245 2 _ (f1 := (13, ([(2, .int (r5_1.2 (a0 + 25) j10_2)), (0, .ref a0), (1, .int i1)], [.int i1]))) rfl ?_
  obtain ⟨r13_3, hxr13_3, h⟩ := Option.bind_eq_some_iff.mp h
  refine gg_cs (as := [.int i1]) (r := []) aMi245 rfl rfl rfl aMi243 rfl (Nat.le_of_ble_eq_true rfl) (Nat.le_of_ble_eq_true rfl) (by omega) (Tf243 (by omega) i1 r5_1.2 _ hxr13_3) ?_
  show aGo kad d 245 (16, ([(2, .int (r5_1.2 (a0 + 25) j10_2)), (0, .ref a0), (1, .int i1)], [.int r13_3.1])) (aMem Z r13_3.2, t) _
  refine go_ops aMi245 4 _ (f1 := (21, ([(3, .int r13_3.1), (2, .int (r5_1.2 (a0 + 25) j10_2)), (0, .ref a0), (1, .int i1)], [.int ((r5_1.2 (a0 + 25) j10_2) - (r5_1.2 (a0 + 25) j10_2) / (8 : Int32) * (8 : Int32))]))) rfl ?_
  refine gg_br (b := decide (¬ ((r5_1.2 (a0 + 25) j10_2) - (r5_1.2 (a0 + 25) j10_2) / (8 : Int32) * (8 : Int32)) = 0)) (tg := 92) (off := 71) aMi245 rfl rfl rfl rfl (fun hb => ?_) (fun hb => ?_)
  · rw [if_pos (of_decide_eq_true hb)] at h
    refine go_le (lv1 := [(0, .ref a0), (1, .int i1), (2, .int (r5_1.2 (a0 + 25) j10_2)), (3, .int r13_3.1)]) (aLe_of (show (List.map (fun q => q.1) ([(0, .ref a0), (1, .int i1), (2, .int (r5_1.2 (a0 + 25) j10_2)), (3, .int r13_3.1)] : ALv)).Nodup from (by show ([0, 1, 2, 3] : List Nat).Nodup; decide)) (aSubL_cons rfl (aSubL_cons rfl (aSubL_cons rfl (aSubL_cons rfl aSubL_nil))))) ?_
    exact Tf245_b92 hd a0 ha0 i1 (r5_1.2 (a0 + 25) j10_2) r13_3.1 r13_3.2 _ h
  · rw [if_neg (of_decide_eq_false hb)] at h
    refine go_ops aMi245 1 _ (f1 := (25, ([(3, .int r13_3.1), (2, .int (r5_1.2 (a0 + 25) j10_2)), (0, .ref a0), (1, .int i1)], [.ref a0]))) rfl ?_
    obtain ⟨r25_4, hxr25_4, h⟩ := Option.bind_eq_some_iff.mp h
    refine gg_cv (as := []) (r := []) aMi245 rfl rfl rfl aMi239 (Nat.le_of_ble_eq_true rfl) rfl (Nat.le_of_ble_eq_true rfl) (Nat.le_of_ble_eq_true rfl) (by omega) (isK_of (sh11_z ha0)) (Tf239 (by omega) a0 ha0 r13_3.2 _ hxr25_4) ?_
    show aGo kad d 245 (28, ([(3, .int r13_3.1), (2, .int (r5_1.2 (a0 + 25) j10_2)), (0, .ref a0), (1, .int i1)], [.int r25_4.1])) (aMem Z r25_4.2, t) _
    refine go_ops aMi245 2 _ (f1 := (31, ([(4, .int r25_4.1), (3, .int r13_3.1), (2, .int (r5_1.2 (a0 + 25) j10_2)), (0, .ref a0), (1, .int i1)], [.ref a0]))) rfl ?_
    refine gg_gR (b := (a0 + 25)) aMi245 rfl rfl rfl (gR_of (sh11_z ha0) (sh11_r51 ha0)) ?_
    refine go_ops aMi245 1 _ (f1 := (36, ([(4, .int r25_4.1), (3, .int r13_3.1), (2, .int (r5_1.2 (a0 + 25) j10_2)), (0, .ref a0), (1, .int i1)], [.int r25_4.1, .ref (a0 + 25)]))) rfl ?_
    obtain ⟨r36_5, hxr36_5, h⟩ := Option.bind_eq_some_iff.mp h
    refine gg_cs (as := [.ref (a0 + 25), .int r25_4.1]) (r := []) aMi245 rfl rfl rfl aMi238 rfl (Nat.le_of_ble_eq_true rfl) (Nat.le_of_ble_eq_true rfl) (by omega) (Tf238 (by omega) (a0 + 25) r25_4.1 r25_4.2 _ hxr36_5) ?_
    show aGo kad d 245 (39, ([(4, .int r25_4.1), (3, .int r13_3.1), (2, .int (r5_1.2 (a0 + 25) j10_2)), (0, .ref a0), (1, .int i1)], [])) (aMem Z r36_5.2, t) _
    refine go_ops aMi245 1 _ (f1 := (40, ([(4, .int r25_4.1), (3, .int r13_3.1), (2, .int (r5_1.2 (a0 + 25) j10_2)), (0, .ref a0), (1, .int i1)], [.ref a0]))) rfl ?_
    refine gg_gR (b := (a0 + 25)) aMi245 rfl rfl rfl (gR_of (sh11_z ha0) (sh11_r51 ha0)) ?_
    refine go_ops aMi245 1 _ (f1 := (44, ([(4, .int r25_4.1), (3, .int r13_3.1), (2, .int (r5_1.2 (a0 + 25) j10_2)), (0, .ref a0), (1, .int i1)], [.int i1, .ref (a0 + 25)]))) rfl ?_
    obtain ⟨r44_6, hxr44_6, h⟩ := Option.bind_eq_some_iff.mp h
    refine gg_cs (as := [.int i1]) (r := [.ref (a0 + 25)]) aMi245 rfl rfl rfl aMi235 rfl (Nat.le_of_ble_eq_true rfl) (Nat.le_of_ble_eq_true rfl) (by omega) (Tf235 (by omega) i1 r36_5.2 _ hxr44_6) ?_
    show aGo kad d 245 (47, ([(4, .int r25_4.1), (3, .int r13_3.1), (2, .int (r5_1.2 (a0 + 25) j10_2)), (0, .ref a0), (1, .int i1)], [.int r44_6.1, .ref (a0 + 25)])) (aMem Z r44_6.2, t) _
    refine go_ops aMi245 7 _ (f1 := (56, ([(4, .int r25_4.1), (3, .int r13_3.1), (2, .int (r5_1.2 (a0 + 25) j10_2)), (0, .ref a0), (1, .int i1)], [.int r25_4.1, .int ((r44_6.1 + (2 : Int32)) + ((r5_1.2 (a0 + 25) j10_2) / (8 : Int32))), .ref (a0 + 25)]))) rfl ?_
    obtain ⟨j56_8, hxj56_8, h⟩ := Option.bind_eq_some_iff.mp h
    obtain ⟨I56_7, hxI56_7, h⟩ := Option.bind_eq_some_iff.mp h
    refine gg_sI (Or.inl ⟨rfl, rfl⟩) aMi245 rfl (sI_of (sh11_a51 ha0) hxj56_8 hxI56_7) ?_
    refine go_ops aMi245 2 _ (f1 := (60, ([(5, .int (0 : Int32)), (4, .int r25_4.1), (3, .int r13_3.1), (2, .int (r5_1.2 (a0 + 25) j10_2)), (0, .ref a0), (1, .int i1)], []))) rfl ?_
    refine go_le (lv1 := [(0, .ref a0), (1, .int i1), (2, .int (r5_1.2 (a0 + 25) j10_2)), (3, .int r13_3.1), (4, .int r25_4.1), (5, .int (0 : Int32))]) (aLe_of (show (List.map (fun q => q.1) ([(0, .ref a0), (1, .int i1), (2, .int (r5_1.2 (a0 + 25) j10_2)), (3, .int r13_3.1), (4, .int r25_4.1), (5, .int (0 : Int32))] : ALv)).Nodup from (by show ([0, 1, 2, 3, 4, 5] : List Nat).Nodup; decide)) (aSubL_cons rfl (aSubL_cons rfl (aSubL_cons rfl (aSubL_cons rfl (aSubL_cons rfl (aSubL_cons rfl aSubL_nil))))))) ?_
    exact Tf245_b60 hd N a0 ha0 i1 (r5_1.2 (a0 + 25) j10_2) r13_3.1 r25_4.1 (0 : Int32) I56_7 _ h
-- KernelGymModel.replaces (I)I
def f246 (kad : Nat → Nat) (N : Nat) (Z : AZ) (a0 : Nat) (i1 : Int32) (I : AI) : Option (Int32 × AI) :=
  (ixA 4 (1 : Int32)).bind fun j11_1 =>
  (f241 kad N Z a0 (a0 + 25) i1 (I (a0 + 16) j11_1) I).bind fun r12_2 =>
  (ixA 4 (1 : Int32)).bind fun j29_3 =>
  (ixA 4 (2 : Int32)).bind fun j39_4 =>
  (ixA 256 (((8 : Int32) * r12_2.1) + ((r12_2.2 (a0 + 16) j29_3) - (r12_2.2 (a0 + 16) j29_3) / (8 : Int32) * (8 : Int32)))).bind fun j40_6 =>
  (wI r12_2.2 (a0 + 25) j40_6 (r12_2.2 (a0 + 16) j39_4)).bind fun I40_5 =>
  some (((1 : Int32) <<< (r12_2.1 &&& 31)), I40_5)
set_option maxRecDepth 20000 in
theorem Tf246 {kad : Nat → Nat} {N : Nat} {Z : AZ} {d : Nat} {t : Option Nat × (Nat × Nat)} (hd : 2 ≤ d) : ∀ (a0 : Nat) (ha0 : sh11 kad Z a0) (i1 : Int32) (I : AI) (r : Int32 × AI), f246 kad N Z a0 i1 I = some r → aGo kad d 246 (0, ([(0, .ref a0), (1, .int i1)], [])) (aMem Z I, t) (qI Z t r) := by
  intro a0 ha0 i1 I r h
  unfold f246 at h
  refine go_ops aMi246 2 _ (f1 := (2, ([(0, .ref a0), (1, .int i1)], [.ref a0, .ref a0]))) rfl ?_
  refine gg_gR (b := (a0 + 25)) aMi246 rfl rfl rfl (gR_of (sh11_z ha0) (sh11_r51 ha0)) ?_
  refine go_ops aMi246 2 _ (f1 := (7, ([(0, .ref a0), (1, .int i1)], [.ref a0, .int i1, .ref (a0 + 25), .ref a0]))) rfl ?_
  refine gg_gR (b := (a0 + 16)) aMi246 rfl rfl rfl (gR_of (sh11_z ha0) (sh11_r26 ha0)) ?_
  refine go_ops aMi246 1 _ (f1 := (11, ([(0, .ref a0), (1, .int i1)], [.int (1 : Int32), .ref (a0 + 16), .int i1, .ref (a0 + 25), .ref a0]))) rfl ?_
  obtain ⟨j11_1, hxj11_1, h⟩ := Option.bind_eq_some_iff.mp h
  refine gg_lI (Or.inl ⟨rfl, rfl⟩) aMi246 rfl (lI_of (sh11_a26 ha0) hxj11_1) ?_
  obtain ⟨r12_2, hxr12_2, h⟩ := Option.bind_eq_some_iff.mp h
  refine gg_cv (as := [.ref (a0 + 25), .int i1, .int (I (a0 + 16) j11_1)]) (r := []) aMi246 rfl rfl rfl aMi241 (Nat.le_of_ble_eq_true rfl) rfl (Nat.le_of_ble_eq_true rfl) (Nat.le_of_ble_eq_true rfl) (by omega) (isK_of (sh11_z ha0)) (Tf241 (by omega) a0 ha0 (a0 + 25) i1 (I (a0 + 16) j11_1) I _ hxr12_2) ?_
  show aGo kad d 246 (15, ([(0, .ref a0), (1, .int i1)], [.int r12_2.1])) (aMem Z r12_2.2, t) _
  refine go_ops aMi246 2 _ (f1 := (17, ([(2, .int r12_2.1), (0, .ref a0), (1, .int i1)], [.ref a0]))) rfl ?_
  refine gg_gR (b := (a0 + 25)) aMi246 rfl rfl rfl (gR_of (sh11_z ha0) (sh11_r51 ha0)) ?_
  refine go_ops aMi246 4 _ (f1 := (25, ([(2, .int r12_2.1), (0, .ref a0), (1, .int i1)], [.ref a0, .int ((8 : Int32) * r12_2.1), .ref (a0 + 25)]))) rfl ?_
  refine gg_gR (b := (a0 + 16)) aMi246 rfl rfl rfl (gR_of (sh11_z ha0) (sh11_r26 ha0)) ?_
  refine go_ops aMi246 1 _ (f1 := (29, ([(2, .int r12_2.1), (0, .ref a0), (1, .int i1)], [.int (1 : Int32), .ref (a0 + 16), .int ((8 : Int32) * r12_2.1), .ref (a0 + 25)]))) rfl ?_
  obtain ⟨j29_3, hxj29_3, h⟩ := Option.bind_eq_some_iff.mp h
  refine gg_lI (Or.inl ⟨rfl, rfl⟩) aMi246 rfl (lI_of (sh11_a26 ha0) hxj29_3) ?_
  refine go_ops aMi246 4 _ (f1 := (35, ([(2, .int r12_2.1), (0, .ref a0), (1, .int i1)], [.ref a0, .int (((8 : Int32) * r12_2.1) + ((r12_2.2 (a0 + 16) j29_3) - (r12_2.2 (a0 + 16) j29_3) / (8 : Int32) * (8 : Int32))), .ref (a0 + 25)]))) rfl ?_
  refine gg_gR (b := (a0 + 16)) aMi246 rfl rfl rfl (gR_of (sh11_z ha0) (sh11_r26 ha0)) ?_
  refine go_ops aMi246 1 _ (f1 := (39, ([(2, .int r12_2.1), (0, .ref a0), (1, .int i1)], [.int (2 : Int32), .ref (a0 + 16), .int (((8 : Int32) * r12_2.1) + ((r12_2.2 (a0 + 16) j29_3) - (r12_2.2 (a0 + 16) j29_3) / (8 : Int32) * (8 : Int32))), .ref (a0 + 25)]))) rfl ?_
  obtain ⟨j39_4, hxj39_4, h⟩ := Option.bind_eq_some_iff.mp h
  refine gg_lI (Or.inl ⟨rfl, rfl⟩) aMi246 rfl (lI_of (sh11_a26 ha0) hxj39_4) ?_
  obtain ⟨j40_6, hxj40_6, h⟩ := Option.bind_eq_some_iff.mp h
  obtain ⟨I40_5, hxI40_5, h⟩ := Option.bind_eq_some_iff.mp h
  refine gg_sI (Or.inl ⟨rfl, rfl⟩) aMi246 rfl (sI_of (sh11_a51 ha0) hxj40_6 hxI40_5) ?_
  refine go_ops aMi246 3 _ (f1 := (44, ([(2, .int r12_2.1), (0, .ref a0), (1, .int i1)], [.int ((1 : Int32) <<< (r12_2.1 &&& 31))]))) rfl ?_
  cases h
  exact go_ret aMi246 rfl aRetI ⟨rfl, rfl⟩
-- KernelGymModel.removes (I)I
def f247_b44 (kad : Nat → Nat) (N : Nat) (Z : AZ) (k7 : Nat → Int32 → Int32 → Int32 → AI → Option (Int32 × AI)) (a0 : Nat) (i1 : Int32) (i2 : Int32) (i3 : Int32) (I : AI) : Option (Int32 × AI) :=
  k7 a0 i1 i2 (i3 + (1 : Int32)) I
set_option maxRecDepth 20000 in
theorem Tf247_b44 {kad : Nat → Nat} {N : Nat} {Z : AZ} {d : Nat} {t : Option Nat × (Nat × Nat)} (hd : 1 ≤ d) (k7 : Nat → Int32 → Int32 → Int32 → AI → Option (Int32 × AI))  (hk7 : ∀ (a0 : Nat) (ha0 : sh11 kad Z a0) (i1 : Int32) (i2 : Int32) (i3 : Int32) (I : AI) (r : Int32 × AI), k7 a0 i1 i2 i3 I = some r → aGo kad d 247 (7, ([(0, .ref a0), (1, .int i1), (2, .int i2), (3, .int i3)], [])) (aMem Z I, t) (qI Z t r)) : ∀ (a0 : Nat) (ha0 : sh11 kad Z a0) (i1 : Int32) (i2 : Int32) (i3 : Int32) (I : AI) (r : Int32 × AI), f247_b44 kad N Z k7 a0 i1 i2 i3 I = some r → aGo kad d 247 (44, ([(0, .ref a0), (1, .int i1), (2, .int i2), (3, .int i3)], [])) (aMem Z I, t) (qI Z t r) := by
  intro a0 ha0 i1 i2 i3 I r h
  unfold f247_b44 at h
  refine go_ops aMi247 2 _ (f1 := (7, ([(3, .int (i3 + (1 : Int32))), (0, .ref a0), (1, .int i1), (2, .int i2)], []))) rfl ?_
  refine go_le (lv1 := [(0, .ref a0), (1, .int i1), (2, .int i2), (3, .int (i3 + (1 : Int32)))]) (aLe_of (show (List.map (fun q => q.1) ([(0, .ref a0), (1, .int i1), (2, .int i2), (3, .int (i3 + (1 : Int32)))] : ALv)).Nodup from (by show ([0, 1, 2, 3] : List Nat).Nodup; decide)) (aSubL_cons rfl (aSubL_cons rfl (aSubL_cons rfl (aSubL_cons rfl aSubL_nil))))) ?_
  exact hk7 a0 ha0 i1 i2 (i3 + (1 : Int32)) I _ h
def f247_b52 (kad : Nat → Nat) (N : Nat) (Z : AZ) : Nat → Nat → Int32 → Int32 → Int32 → AI → Option (Int32 × AI)
  | 0, _, _, _, _, _ => none
  | F + 1, a0, i1, i2, i3, I =>
    if (4 : Int32) ≤ i3 then
      some (i2, I)
    else
      (f235 kad N Z i1 I).bind fun r62_1 =>
      (ixA 256 (r62_1.1 + i3)).bind fun j68_3 =>
      (wI r62_1.2 (a0 + 25) j68_3 (0 : Int32)).bind fun I68_2 =>
      f247_b52 kad N Z F a0 i1 i2 (i3 + (1 : Int32)) I68_2
set_option maxRecDepth 20000 in
theorem Tf247_b52 {kad : Nat → Nat} {N : Nat} {Z : AZ} {d : Nat} {t : Option Nat × (Nat × Nat)} (hd : 1 ≤ d) : ∀ (F : Nat) (a0 : Nat) (ha0 : sh11 kad Z a0) (i1 : Int32) (i2 : Int32) (i3 : Int32) (I : AI) (r : Int32 × AI), f247_b52 kad N Z F a0 i1 i2 i3 I = some r → aGo kad d 247 (52, ([(0, .ref a0), (1, .int i1), (2, .int i2), (3, .int i3)], [])) (aMem Z I, t) (qI Z t r) := by
  intro F
  induction F with
  | zero => intro a0 ha0 i1 i2 i3 I r h; cases h
  | succ F ih =>
    intro a0 ha0 i1 i2 i3 I r h
    unfold f247_b52 at h
    refine go_ops aMi247 2 _ (f1 := (54, ([(0, .ref a0), (1, .int i1), (2, .int i2), (3, .int i3)], [.int (4 : Int32), .int i3]))) rfl ?_
    refine gg_br (b := decide ((4 : Int32) ≤ i3)) (tg := 75) (off := 21) aMi247 rfl rfl rfl rfl (fun hb => ?_) (fun hb => ?_)
    · rw [if_pos (of_decide_eq_true hb)] at h
      refine go_ops aMi247 1 _ (f1 := (76, ([(0, .ref a0), (1, .int i1), (2, .int i2), (3, .int i3)], [.int i2]))) rfl ?_
      cases h
      exact go_ret aMi247 rfl aRetI ⟨rfl, rfl⟩
    · rw [if_neg (of_decide_eq_false hb)] at h
      refine go_ops aMi247 1 _ (f1 := (58, ([(0, .ref a0), (1, .int i1), (2, .int i2), (3, .int i3)], [.ref a0]))) rfl ?_
      refine gg_gR (b := (a0 + 25)) aMi247 rfl rfl rfl (gR_of (sh11_z ha0) (sh11_r51 ha0)) ?_
      refine go_ops aMi247 1 _ (f1 := (62, ([(0, .ref a0), (1, .int i1), (2, .int i2), (3, .int i3)], [.int i1, .ref (a0 + 25)]))) rfl ?_
      obtain ⟨r62_1, hxr62_1, h⟩ := Option.bind_eq_some_iff.mp h
      refine gg_cs (as := [.int i1]) (r := [.ref (a0 + 25)]) aMi247 rfl rfl rfl aMi235 rfl (Nat.le_of_ble_eq_true rfl) (Nat.le_of_ble_eq_true rfl) (by omega) (Tf235 (by omega) i1 I _ hxr62_1) ?_
      show aGo kad d 247 (65, ([(0, .ref a0), (1, .int i1), (2, .int i2), (3, .int i3)], [.int r62_1.1, .ref (a0 + 25)])) (aMem Z r62_1.2, t) _
      refine go_ops aMi247 3 _ (f1 := (68, ([(0, .ref a0), (1, .int i1), (2, .int i2), (3, .int i3)], [.int (0 : Int32), .int (r62_1.1 + i3), .ref (a0 + 25)]))) rfl ?_
      obtain ⟨j68_3, hxj68_3, h⟩ := Option.bind_eq_some_iff.mp h
      obtain ⟨I68_2, hxI68_2, h⟩ := Option.bind_eq_some_iff.mp h
      refine gg_sI (Or.inl ⟨rfl, rfl⟩) aMi247 rfl (sI_of (sh11_a51 ha0) hxj68_3 hxI68_2) ?_
      refine go_ops aMi247 2 _ (f1 := (52, ([(3, .int (i3 + (1 : Int32))), (0, .ref a0), (1, .int i1), (2, .int i2)], []))) rfl ?_
      refine go_le (lv1 := [(0, .ref a0), (1, .int i1), (2, .int i2), (3, .int (i3 + (1 : Int32)))]) (aLe_of (show (List.map (fun q => q.1) ([(0, .ref a0), (1, .int i1), (2, .int i2), (3, .int (i3 + (1 : Int32)))] : ALv)).Nodup from (by show ([0, 1, 2, 3] : List Nat).Nodup; decide)) (aSubL_cons rfl (aSubL_cons rfl (aSubL_cons rfl (aSubL_cons rfl aSubL_nil))))) ?_
      exact ih a0 ha0 i1 i2 (i3 + (1 : Int32)) I68_2 _ h
def f247_b7 (kad : Nat → Nat) (N : Nat) (Z : AZ) : Nat → Nat → Int32 → Int32 → Int32 → AI → Option (Int32 × AI)
  | 0, _, _, _, _, _ => none
  | F + 1, a0, i1, i2, i3, I =>
    if (4 : Int32) ≤ i3 then
      f247_b52 kad N Z N a0 i1 i2 (0 : Int32) I
    else
      (f235 kad N Z i1 I).bind fun r17_1 =>
      (ixA 256 (r17_1.1 + i3)).bind fun j22_2 =>
      if (r17_1.2 (a0 + 25) j22_2) = 0 then
        f247_b44 kad N Z (fun p0 p1 p2 p3 I => f247_b7 kad N Z F p0 p1 p2 p3 I) a0 i1 i2 i3 r17_1.2
      else
        (f238 kad N Z (a0 + 25) (r17_1.2 (a0 + 25) j22_2) r17_1.2).bind fun r36_3 =>
        f247_b44 kad N Z (fun p0 p1 p2 p3 I => f247_b7 kad N Z F p0 p1 p2 p3 I) a0 i1 (i2 ||| (16 : Int32)) i3 r36_3.2
set_option maxRecDepth 20000 in
theorem Tf247_b7 {kad : Nat → Nat} {N : Nat} {Z : AZ} {d : Nat} {t : Option Nat × (Nat × Nat)} (hd : 1 ≤ d) : ∀ (F : Nat) (a0 : Nat) (ha0 : sh11 kad Z a0) (i1 : Int32) (i2 : Int32) (i3 : Int32) (I : AI) (r : Int32 × AI), f247_b7 kad N Z F a0 i1 i2 i3 I = some r → aGo kad d 247 (7, ([(0, .ref a0), (1, .int i1), (2, .int i2), (3, .int i3)], [])) (aMem Z I, t) (qI Z t r) := by
  intro F
  induction F with
  | zero => intro a0 ha0 i1 i2 i3 I r h; cases h
  | succ F ih =>
    intro a0 ha0 i1 i2 i3 I r h
    unfold f247_b7 at h
    refine go_ops aMi247 2 _ (f1 := (9, ([(0, .ref a0), (1, .int i1), (2, .int i2), (3, .int i3)], [.int (4 : Int32), .int i3]))) rfl ?_
    refine gg_br (b := decide ((4 : Int32) ≤ i3)) (tg := 50) (off := 41) aMi247 rfl rfl rfl rfl (fun hb => ?_) (fun hb => ?_)
    · rw [if_pos (of_decide_eq_true hb)] at h
      refine go_ops aMi247 2 _ (f1 := (52, ([(3, .int (0 : Int32)), (0, .ref a0), (1, .int i1), (2, .int i2)], []))) rfl ?_
      refine go_le (lv1 := [(0, .ref a0), (1, .int i1), (2, .int i2), (3, .int (0 : Int32))]) (aLe_of (show (List.map (fun q => q.1) ([(0, .ref a0), (1, .int i1), (2, .int i2), (3, .int (0 : Int32))] : ALv)).Nodup from (by show ([0, 1, 2, 3] : List Nat).Nodup; decide)) (aSubL_cons rfl (aSubL_cons rfl (aSubL_cons rfl (aSubL_cons rfl aSubL_nil))))) ?_
      exact Tf247_b52 hd N a0 ha0 i1 i2 (0 : Int32) I _ h
    · rw [if_neg (of_decide_eq_false hb)] at h
      refine go_ops aMi247 1 _ (f1 := (13, ([(0, .ref a0), (1, .int i1), (2, .int i2), (3, .int i3)], [.ref a0]))) rfl ?_
      refine gg_gR (b := (a0 + 25)) aMi247 rfl rfl rfl (gR_of (sh11_z ha0) (sh11_r51 ha0)) ?_
      refine go_ops aMi247 1 _ (f1 := (17, ([(0, .ref a0), (1, .int i1), (2, .int i2), (3, .int i3)], [.int i1, .ref (a0 + 25)]))) rfl ?_
      obtain ⟨r17_1, hxr17_1, h⟩ := Option.bind_eq_some_iff.mp h
      refine gg_cs (as := [.int i1]) (r := [.ref (a0 + 25)]) aMi247 rfl rfl rfl aMi235 rfl (Nat.le_of_ble_eq_true rfl) (Nat.le_of_ble_eq_true rfl) (by omega) (Tf235 (by omega) i1 I _ hxr17_1) ?_
      show aGo kad d 247 (20, ([(0, .ref a0), (1, .int i1), (2, .int i2), (3, .int i3)], [.int r17_1.1, .ref (a0 + 25)])) (aMem Z r17_1.2, t) _
      refine go_ops aMi247 2 _ (f1 := (22, ([(0, .ref a0), (1, .int i1), (2, .int i2), (3, .int i3)], [.int (r17_1.1 + i3), .ref (a0 + 25)]))) rfl ?_
      obtain ⟨j22_2, hxj22_2, h⟩ := Option.bind_eq_some_iff.mp h
      refine gg_lI (Or.inl ⟨rfl, rfl⟩) aMi247 rfl (lI_of (sh11_a51 ha0) hxj22_2) ?_
      refine go_ops aMi247 2 _ (f1 := (27, ([(4, .int (r17_1.2 (a0 + 25) j22_2)), (0, .ref a0), (1, .int i1), (2, .int i2), (3, .int i3)], [.int (r17_1.2 (a0 + 25) j22_2)]))) rfl ?_
      refine gg_br (b := decide ((r17_1.2 (a0 + 25) j22_2) = 0)) (tg := 44) (off := 17) aMi247 rfl rfl rfl rfl (fun hb => ?_) (fun hb => ?_)
      · rw [if_pos (of_decide_eq_true hb)] at h
        refine go_le (lv1 := [(0, .ref a0), (1, .int i1), (2, .int i2), (3, .int i3)]) (aLe_of (show (List.map (fun q => q.1) ([(0, .ref a0), (1, .int i1), (2, .int i2), (3, .int i3)] : ALv)).Nodup from (by show ([0, 1, 2, 3] : List Nat).Nodup; decide)) (aSubL_cons rfl (aSubL_cons rfl (aSubL_cons rfl (aSubL_cons rfl aSubL_nil))))) ?_
        exact Tf247_b44 hd (fun p0 p1 p2 p3 I => f247_b7 kad N Z F p0 p1 p2 p3 I) (fun p0 q0 p1 p2 p3 I r hh => ih p0 q0 p1 p2 p3 I r hh) a0 ha0 i1 i2 i3 r17_1.2 _ h
      · rw [if_neg (of_decide_eq_false hb)] at h
        refine go_ops aMi247 1 _ (f1 := (31, ([(4, .int (r17_1.2 (a0 + 25) j22_2)), (0, .ref a0), (1, .int i1), (2, .int i2), (3, .int i3)], [.ref a0]))) rfl ?_
        refine gg_gR (b := (a0 + 25)) aMi247 rfl rfl rfl (gR_of (sh11_z ha0) (sh11_r51 ha0)) ?_
        refine go_ops aMi247 1 _ (f1 := (36, ([(4, .int (r17_1.2 (a0 + 25) j22_2)), (0, .ref a0), (1, .int i1), (2, .int i2), (3, .int i3)], [.int (r17_1.2 (a0 + 25) j22_2), .ref (a0 + 25)]))) rfl ?_
        obtain ⟨r36_3, hxr36_3, h⟩ := Option.bind_eq_some_iff.mp h
        refine gg_cs (as := [.ref (a0 + 25), .int (r17_1.2 (a0 + 25) j22_2)]) (r := []) aMi247 rfl rfl rfl aMi238 rfl (Nat.le_of_ble_eq_true rfl) (Nat.le_of_ble_eq_true rfl) (by omega) (Tf238 (by omega) (a0 + 25) (r17_1.2 (a0 + 25) j22_2) r17_1.2 _ hxr36_3) ?_
        show aGo kad d 247 (39, ([(4, .int (r17_1.2 (a0 + 25) j22_2)), (0, .ref a0), (1, .int i1), (2, .int i2), (3, .int i3)], [])) (aMem Z r36_3.2, t) _
        refine go_ops aMi247 4 _ (f1 := (44, ([(2, .int (i2 ||| (16 : Int32))), (4, .int (r17_1.2 (a0 + 25) j22_2)), (0, .ref a0), (1, .int i1), (3, .int i3)], []))) rfl ?_
        refine go_le (lv1 := [(0, .ref a0), (1, .int i1), (2, .int (i2 ||| (16 : Int32))), (3, .int i3)]) (aLe_of (show (List.map (fun q => q.1) ([(0, .ref a0), (1, .int i1), (2, .int (i2 ||| (16 : Int32))), (3, .int i3)] : ALv)).Nodup from (by show ([0, 1, 2, 3] : List Nat).Nodup; decide)) (aSubL_cons rfl (aSubL_cons rfl (aSubL_cons rfl (aSubL_cons rfl aSubL_nil))))) ?_
        exact Tf247_b44 hd (fun p0 p1 p2 p3 I => f247_b7 kad N Z F p0 p1 p2 p3 I) (fun p0 q0 p1 p2 p3 I r hh => ih p0 q0 p1 p2 p3 I r hh) a0 ha0 i1 (i2 ||| (16 : Int32)) i3 r36_3.2 _ h
def f247 (kad : Nat → Nat) (N : Nat) (Z : AZ) (a0 : Nat) (i1 : Int32) (I : AI) : Option (Int32 × AI) :=
  (f243 kad N Z i1 I).bind fun r1_1 =>
  f247_b7 kad N Z N a0 i1 r1_1.1 (2 : Int32) r1_1.2
set_option maxRecDepth 20000 in
theorem Tf247 {kad : Nat → Nat} {N : Nat} {Z : AZ} {d : Nat} {t : Option Nat × (Nat × Nat)} (hd : 1 ≤ d) : ∀ (a0 : Nat) (ha0 : sh11 kad Z a0) (i1 : Int32) (I : AI) (r : Int32 × AI), f247 kad N Z a0 i1 I = some r → aGo kad d 247 (0, ([(0, .ref a0), (1, .int i1)], [])) (aMem Z I, t) (qI Z t r) := by
  intro a0 ha0 i1 I r h
  unfold f247 at h
  refine go_ops aMi247 1 _ (f1 := (1, ([(0, .ref a0), (1, .int i1)], [.int i1]))) rfl ?_
  obtain ⟨r1_1, hxr1_1, h⟩ := Option.bind_eq_some_iff.mp h
  refine gg_cs (as := [.int i1]) (r := []) aMi247 rfl rfl rfl aMi243 rfl (Nat.le_of_ble_eq_true rfl) (Nat.le_of_ble_eq_true rfl) (by omega) (Tf243 (by omega) i1 I _ hxr1_1) ?_
  show aGo kad d 247 (4, ([(0, .ref a0), (1, .int i1)], [.int r1_1.1])) (aMem Z r1_1.2, t) _
  refine go_ops aMi247 3 _ (f1 := (7, ([(3, .int (2 : Int32)), (2, .int r1_1.1), (0, .ref a0), (1, .int i1)], []))) rfl ?_
  refine go_le (lv1 := [(0, .ref a0), (1, .int i1), (2, .int r1_1.1), (3, .int (2 : Int32))]) (aLe_of (show (List.map (fun q => q.1) ([(0, .ref a0), (1, .int i1), (2, .int r1_1.1), (3, .int (2 : Int32))] : ALv)).Nodup from (by show ([0, 1, 2, 3] : List Nat).Nodup; decide)) (aSubL_cons rfl (aSubL_cons rfl (aSubL_cons rfl (aSubL_cons rfl aSubL_nil))))) ?_
  exact Tf247_b7 hd N a0 ha0 i1 r1_1.1 (2 : Int32) r1_1.2 _ h
-- KernelGymModel.renames (I)I
def f248_b28 (kad : Nat → Nat) (N : Nat) (Z : AZ) (a0 : Nat) (i1 : Int32) (s0 : Int32) (I : AI) : Option (Int32 × AI) :=
  (f235 kad N Z i1 I).bind fun r34_1 =>
  (ixA 4 (1 : Int32)).bind fun j42_2 =>
  (ixA 256 r34_1.1).bind fun j43_4 =>
  (wI r34_1.2 (a0 + 25) j43_4 (r34_1.2 (a0 + 16) j42_2)).bind fun I43_3 =>
  (f243 kad N Z i1 I43_3).bind fun r46_5 =>
  some ((s0 ||| r46_5.1), r46_5.2)
set_option maxRecDepth 20000 in
theorem Tf248_b28 {kad : Nat → Nat} {N : Nat} {Z : AZ} {d : Nat} {t : Option Nat × (Nat × Nat)} (hd : 2 ≤ d) : ∀ (a0 : Nat) (ha0 : sh11 kad Z a0) (i1 : Int32) (s0 : Int32) (I : AI) (r : Int32 × AI), f248_b28 kad N Z a0 i1 s0 I = some r → aGo kad d 248 (28, ([(0, .ref a0), (1, .int i1)], [.int s0])) (aMem Z I, t) (qI Z t r) := by
  intro a0 ha0 i1 s0 I r h
  unfold f248_b28 at h
  refine go_ops aMi248 2 _ (f1 := (30, ([(3, .int s0), (0, .ref a0), (1, .int i1)], [.ref a0]))) rfl ?_
  refine gg_gR (b := (a0 + 25)) aMi248 rfl rfl rfl (gR_of (sh11_z ha0) (sh11_r51 ha0)) ?_
  refine go_ops aMi248 1 _ (f1 := (34, ([(3, .int s0), (0, .ref a0), (1, .int i1)], [.int i1, .ref (a0 + 25)]))) rfl ?_
  obtain ⟨r34_1, hxr34_1, h⟩ := Option.bind_eq_some_iff.mp h
  refine gg_cs (as := [.int i1]) (r := [.ref (a0 + 25)]) aMi248 rfl rfl rfl aMi235 rfl (Nat.le_of_ble_eq_true rfl) (Nat.le_of_ble_eq_true rfl) (by omega) (Tf235 (by omega) i1 I _ hxr34_1) ?_
  show aGo kad d 248 (37, ([(3, .int s0), (0, .ref a0), (1, .int i1)], [.int r34_1.1, .ref (a0 + 25)])) (aMem Z r34_1.2, t) _
  refine go_ops aMi248 1 _ (f1 := (38, ([(3, .int s0), (0, .ref a0), (1, .int i1)], [.ref a0, .int r34_1.1, .ref (a0 + 25)]))) rfl ?_
  refine gg_gR (b := (a0 + 16)) aMi248 rfl rfl rfl (gR_of (sh11_z ha0) (sh11_r26 ha0)) ?_
  refine go_ops aMi248 1 _ (f1 := (42, ([(3, .int s0), (0, .ref a0), (1, .int i1)], [.int (1 : Int32), .ref (a0 + 16), .int r34_1.1, .ref (a0 + 25)]))) rfl ?_
  obtain ⟨j42_2, hxj42_2, h⟩ := Option.bind_eq_some_iff.mp h
  refine gg_lI (Or.inl ⟨rfl, rfl⟩) aMi248 rfl (lI_of (sh11_a26 ha0) hxj42_2) ?_
  obtain ⟨j43_4, hxj43_4, h⟩ := Option.bind_eq_some_iff.mp h
  obtain ⟨I43_3, hxI43_3, h⟩ := Option.bind_eq_some_iff.mp h
  refine gg_sI (Or.inl ⟨rfl, rfl⟩) aMi248 rfl (sI_of (sh11_a51 ha0) hxj43_4 hxI43_3) ?_
  refine go_ops aMi248 2 _ (f1 := (46, ([(3, .int s0), (0, .ref a0), (1, .int i1)], [.int i1, .int s0]))) rfl ?_
  obtain ⟨r46_5, hxr46_5, h⟩ := Option.bind_eq_some_iff.mp h
  refine gg_cs (as := [.int i1]) (r := [.int s0]) aMi248 rfl rfl rfl aMi243 rfl (Nat.le_of_ble_eq_true rfl) (Nat.le_of_ble_eq_true rfl) (by omega) (Tf243 (by omega) i1 I43_3 _ hxr46_5) ?_
  show aGo kad d 248 (49, ([(3, .int s0), (0, .ref a0), (1, .int i1)], [.int r46_5.1, .int s0])) (aMem Z r46_5.2, t) _
  refine go_ops aMi248 1 _ (f1 := (50, ([(3, .int s0), (0, .ref a0), (1, .int i1)], [.int (s0 ||| r46_5.1)]))) rfl ?_
  cases h
  exact go_ret aMi248 rfl aRetI ⟨rfl, rfl⟩
def f248 (kad : Nat → Nat) (N : Nat) (Z : AZ) (a0 : Nat) (i1 : Int32) (I : AI) : Option (Int32 × AI) :=
  (ixA 4 (1 : Int32)).bind fun j9_1 =>
  (f236 kad N Z (a0 + 24) (I (a0 + 16) j9_1) I).bind fun r10_2 =>
  if ¬ r10_2.1 = (Int32.ofInt (-1)) then
    (f247 kad N Z a0 r10_2.1 r10_2.2).bind fun r25_3 =>
    f248_b28 kad N Z a0 i1 r25_3.1 r25_3.2
  else
    f248_b28 kad N Z a0 i1 (0 : Int32) r10_2.2
set_option maxRecDepth 20000 in
theorem Tf248 {kad : Nat → Nat} {N : Nat} {Z : AZ} {d : Nat} {t : Option Nat × (Nat × Nat)} (hd : 2 ≤ d) : ∀ (a0 : Nat) (ha0 : sh11 kad Z a0) (i1 : Int32) (I : AI) (r : Int32 × AI), f248 kad N Z a0 i1 I = some r → aGo kad d 248 (0, ([(0, .ref a0), (1, .int i1)], [])) (aMem Z I, t) (qI Z t r) := by
  intro a0 ha0 i1 I r h
  unfold f248 at h
  refine go_ops aMi248 1 _ (f1 := (1, ([(0, .ref a0), (1, .int i1)], [.ref a0]))) rfl ?_
  refine gg_gR (b := (a0 + 24)) aMi248 rfl rfl rfl (gR_of (sh11_z ha0) (sh11_r50 ha0)) ?_
  refine go_ops aMi248 1 _ (f1 := (5, ([(0, .ref a0), (1, .int i1)], [.ref a0, .ref (a0 + 24)]))) rfl ?_
  refine gg_gR (b := (a0 + 16)) aMi248 rfl rfl rfl (gR_of (sh11_z ha0) (sh11_r26 ha0)) ?_
  refine go_ops aMi248 1 _ (f1 := (9, ([(0, .ref a0), (1, .int i1)], [.int (1 : Int32), .ref (a0 + 16), .ref (a0 + 24)]))) rfl ?_
  obtain ⟨j9_1, hxj9_1, h⟩ := Option.bind_eq_some_iff.mp h
  refine gg_lI (Or.inl ⟨rfl, rfl⟩) aMi248 rfl (lI_of (sh11_a26 ha0) hxj9_1) ?_
  obtain ⟨r10_2, hxr10_2, h⟩ := Option.bind_eq_some_iff.mp h
  refine gg_cs (as := [.ref (a0 + 24), .int (I (a0 + 16) j9_1)]) (r := []) aMi248 rfl rfl rfl aMi236 rfl (Nat.le_of_ble_eq_true rfl) (Nat.le_of_ble_eq_true rfl) (by omega) (Tf236 (by omega) (a0 + 24) (I (a0 + 16) j9_1) I _ hxr10_2) ?_
  show aGo kad d 248 (13, ([(0, .ref a0), (1, .int i1)], [.int r10_2.1])) (aMem Z r10_2.2, t) _
  refine go_ops aMi248 3 _ (f1 := (16, ([(2, .int r10_2.1), (0, .ref a0), (1, .int i1)], [.int (Int32.ofInt (-1)), .int r10_2.1]))) rfl ?_
  refine gg_br (b := decide (¬ r10_2.1 = (Int32.ofInt (-1)))) (tg := 23) (off := 7) aMi248 rfl rfl rfl rfl (fun hb => ?_) (fun hb => ?_)
  · rw [if_pos (of_decide_eq_true hb)] at h
    refine go_ops aMi248 2 _ (f1 := (25, ([(2, .int r10_2.1), (0, .ref a0), (1, .int i1)], [.int r10_2.1, .ref a0]))) rfl ?_
    obtain ⟨r25_3, hxr25_3, h⟩ := Option.bind_eq_some_iff.mp h
    refine gg_cv (as := [.int r10_2.1]) (r := []) aMi248 rfl rfl rfl aMi247 (Nat.le_of_ble_eq_true rfl) rfl (Nat.le_of_ble_eq_true rfl) (Nat.le_of_ble_eq_true rfl) (by omega) (isK_of (sh11_z ha0)) (Tf247 (by omega) a0 ha0 r10_2.1 r10_2.2 _ hxr25_3) ?_
    show aGo kad d 248 (28, ([(2, .int r10_2.1), (0, .ref a0), (1, .int i1)], [.int r25_3.1])) (aMem Z r25_3.2, t) _
    refine go_le (lv1 := [(0, .ref a0), (1, .int i1)]) (aLe_of (show (List.map (fun q => q.1) ([(0, .ref a0), (1, .int i1)] : ALv)).Nodup from (by show ([0, 1] : List Nat).Nodup; decide)) (aSubL_cons rfl (aSubL_cons rfl aSubL_nil))) ?_
    exact Tf248_b28 hd a0 ha0 i1 r25_3.1 r25_3.2 _ h
  · rw [if_neg (of_decide_eq_false hb)] at h
    refine go_ops aMi248 2 _ (f1 := (28, ([(2, .int r10_2.1), (0, .ref a0), (1, .int i1)], [.int (0 : Int32)]))) rfl ?_
    refine go_le (lv1 := [(0, .ref a0), (1, .int i1)]) (aLe_of (show (List.map (fun q => q.1) ([(0, .ref a0), (1, .int i1)] : ALv)).Nodup from (by show ([0, 1] : List Nat).Nodup; decide)) (aSubL_cons rfl (aSubL_cons rfl aSubL_nil))) ?_
    exact Tf248_b28 hd a0 ha0 i1 (0 : Int32) r10_2.2 _ h
-- KernelGymModel.prepares (I)V
def f249_b81 (kad : Nat → Nat) (N : Nat) (Z : AZ) (k7 : Nat → Int32 → Int32 → AI → Option (Unit × AI)) (a0 : Nat) (i1 : Int32) (i2 : Int32) (I : AI) : Option (Unit × AI) :=
  k7 a0 i1 (i2 + (1 : Int32)) I
set_option maxRecDepth 20000 in
theorem Tf249_b81 {kad : Nat → Nat} {N : Nat} {Z : AZ} {d : Nat} {t : Option Nat × (Nat × Nat)} (hd : 0 ≤ d) (k7 : Nat → Int32 → Int32 → AI → Option (Unit × AI))  (hk7 : ∀ (a0 : Nat) (ha0 : sh11 kad Z a0) (i1 : Int32) (i2 : Int32) (I : AI) (r : Unit × AI), k7 a0 i1 i2 I = some r → aGo kad d 249 (7, ([(0, .ref a0), (1, .int i1), (2, .int i2)], [])) (aMem Z I, t) (qV Z t r)) : ∀ (a0 : Nat) (ha0 : sh11 kad Z a0) (i1 : Int32) (i2 : Int32) (I : AI) (r : Unit × AI), f249_b81 kad N Z k7 a0 i1 i2 I = some r → aGo kad d 249 (81, ([(0, .ref a0), (1, .int i1), (2, .int i2)], [])) (aMem Z I, t) (qV Z t r) := by
  intro a0 ha0 i1 i2 I r h
  unfold f249_b81 at h
  refine go_ops aMi249 2 _ (f1 := (7, ([(2, .int (i2 + (1 : Int32))), (0, .ref a0), (1, .int i1)], []))) rfl ?_
  refine go_le (lv1 := [(0, .ref a0), (1, .int i1), (2, .int (i2 + (1 : Int32)))]) (aLe_of (show (List.map (fun q => q.1) ([(0, .ref a0), (1, .int i1), (2, .int (i2 + (1 : Int32)))] : ALv)).Nodup from (by show ([0, 1, 2] : List Nat).Nodup; decide)) (aSubL_cons rfl (aSubL_cons rfl (aSubL_cons rfl aSubL_nil)))) ?_
  exact hk7 a0 ha0 i1 (i2 + (1 : Int32)) I _ h
def f249_b34 (kad : Nat → Nat) (N : Nat) (Z : AZ) (k7 : Nat → Int32 → Int32 → AI → Option (Unit × AI)) : Nat → Nat → Int32 → Int32 → Int32 → AI → Option (Unit × AI)
  | 0, _, _, _, _, _ => none
  | F + 1, a0, i1, i2, i3, I =>
    if (8 : Int32) ≤ i3 then
      (wI I a0 47 ((I a0 47) + (1 : Int32))).bind fun I78_1 =>
      f249_b81 kad N Z k7 a0 i1 i2 I78_1
    else
      (ixA 256 (((8 : Int32) * i2) + i3)).bind fun j63_2 =>
      (ixA 24 (((8 : Int32) * (I a0 47)) + i3)).bind fun j64_4 =>
      (wI I (a0 + 23) j64_4 (I (a0 + 25) j63_2)).bind fun I64_3 =>
      f249_b34 kad N Z k7 F a0 i1 i2 (i3 + (1 : Int32)) I64_3
set_option maxRecDepth 20000 in
theorem Tf249_b34 {kad : Nat → Nat} {N : Nat} {Z : AZ} {d : Nat} {t : Option Nat × (Nat × Nat)} (hd : 0 ≤ d) (k7 : Nat → Int32 → Int32 → AI → Option (Unit × AI))  (hk7 : ∀ (a0 : Nat) (ha0 : sh11 kad Z a0) (i1 : Int32) (i2 : Int32) (I : AI) (r : Unit × AI), k7 a0 i1 i2 I = some r → aGo kad d 249 (7, ([(0, .ref a0), (1, .int i1), (2, .int i2)], [])) (aMem Z I, t) (qV Z t r)) : ∀ (F : Nat) (a0 : Nat) (ha0 : sh11 kad Z a0) (i1 : Int32) (i2 : Int32) (i3 : Int32) (I : AI) (r : Unit × AI), f249_b34 kad N Z k7 F a0 i1 i2 i3 I = some r → aGo kad d 249 (34, ([(0, .ref a0), (1, .int i1), (2, .int i2), (3, .int i3)], [])) (aMem Z I, t) (qV Z t r) := by
  intro F
  induction F with
  | zero => intro a0 ha0 i1 i2 i3 I r h; cases h
  | succ F ih =>
    intro a0 ha0 i1 i2 i3 I r h
    unfold f249_b34 at h
    refine go_ops aMi249 2 _ (f1 := (37, ([(0, .ref a0), (1, .int i1), (2, .int i2), (3, .int i3)], [.int (8 : Int32), .int i3]))) rfl ?_
    refine gg_br (b := decide ((8 : Int32) ≤ i3)) (tg := 71) (off := 34) aMi249 rfl rfl rfl rfl (fun hb => ?_) (fun hb => ?_)
    · rw [if_pos (of_decide_eq_true hb)] at h
      refine go_ops aMi249 2 _ (f1 := (73, ([(0, .ref a0), (1, .int i1), (2, .int i2), (3, .int i3)], [.ref a0, .ref a0]))) rfl ?_
      refine gg_gI aMi249 rfl rfl rfl (gI_of (sh11_z ha0)) ?_
      refine go_ops aMi249 2 _ (f1 := (78, ([(0, .ref a0), (1, .int i1), (2, .int i2), (3, .int i3)], [.int ((I a0 47) + (1 : Int32)), .ref a0]))) rfl ?_
      obtain ⟨I78_1, hxI78_1, h⟩ := Option.bind_eq_some_iff.mp h
      refine gg_pI aMi249 rfl rfl rfl rfl (by decide) (pI_of (sh11_z ha0) hxI78_1) ?_
      refine go_le (lv1 := [(0, .ref a0), (1, .int i1), (2, .int i2)]) (aLe_of (show (List.map (fun q => q.1) ([(0, .ref a0), (1, .int i1), (2, .int i2)] : ALv)).Nodup from (by show ([0, 1, 2] : List Nat).Nodup; decide)) (aSubL_cons rfl (aSubL_cons rfl (aSubL_cons rfl aSubL_nil)))) ?_
      exact Tf249_b81 hd k7 hk7 a0 ha0 i1 i2 I78_1 _ h
    · rw [if_neg (of_decide_eq_false hb)] at h
      refine go_ops aMi249 1 _ (f1 := (41, ([(0, .ref a0), (1, .int i1), (2, .int i2), (3, .int i3)], [.ref a0]))) rfl ?_
      refine gg_gR (b := (a0 + 23)) aMi249 rfl rfl rfl (gR_of (sh11_z ha0) (sh11_r49 ha0)) ?_
      refine go_ops aMi249 2 _ (f1 := (47, ([(0, .ref a0), (1, .int i1), (2, .int i2), (3, .int i3)], [.ref a0, .int (8 : Int32), .ref (a0 + 23)]))) rfl ?_
      refine gg_gI aMi249 rfl rfl rfl (gI_of (sh11_z ha0)) ?_
      refine go_ops aMi249 4 _ (f1 := (54, ([(0, .ref a0), (1, .int i1), (2, .int i2), (3, .int i3)], [.ref a0, .int (((8 : Int32) * (I a0 47)) + i3), .ref (a0 + 23)]))) rfl ?_
      refine gg_gR (b := (a0 + 25)) aMi249 rfl rfl rfl (gR_of (sh11_z ha0) (sh11_r51 ha0)) ?_
      refine go_ops aMi249 5 _ (f1 := (63, ([(0, .ref a0), (1, .int i1), (2, .int i2), (3, .int i3)], [.int (((8 : Int32) * i2) + i3), .ref (a0 + 25), .int (((8 : Int32) * (I a0 47)) + i3), .ref (a0 + 23)]))) rfl ?_
      obtain ⟨j63_2, hxj63_2, h⟩ := Option.bind_eq_some_iff.mp h
      refine gg_lI (Or.inl ⟨rfl, rfl⟩) aMi249 rfl (lI_of (sh11_a51 ha0) hxj63_2) ?_
      obtain ⟨j64_4, hxj64_4, h⟩ := Option.bind_eq_some_iff.mp h
      obtain ⟨I64_3, hxI64_3, h⟩ := Option.bind_eq_some_iff.mp h
      refine gg_sI (Or.inl ⟨rfl, rfl⟩) aMi249 rfl (sI_of (sh11_a49 ha0) hxj64_4 hxI64_3) ?_
      refine go_ops aMi249 2 _ (f1 := (34, ([(3, .int (i3 + (1 : Int32))), (0, .ref a0), (1, .int i1), (2, .int i2)], []))) rfl ?_
      refine go_le (lv1 := [(0, .ref a0), (1, .int i1), (2, .int i2), (3, .int (i3 + (1 : Int32)))]) (aLe_of (show (List.map (fun q => q.1) ([(0, .ref a0), (1, .int i1), (2, .int i2), (3, .int (i3 + (1 : Int32)))] : ALv)).Nodup from (by show ([0, 1, 2, 3] : List Nat).Nodup; decide)) (aSubL_cons rfl (aSubL_cons rfl (aSubL_cons rfl (aSubL_cons rfl aSubL_nil))))) ?_
      exact ih a0 ha0 i1 i2 (i3 + (1 : Int32)) I64_3 _ h
def f249_b7 (kad : Nat → Nat) (N : Nat) (Z : AZ) : Nat → Nat → Int32 → Int32 → AI → Option (Unit × AI)
  | 0, _, _, _, _ => none
  | F + 1, a0, i1, i2, I =>
    if (32 : Int32) ≤ i2 then
      (wI I a0 46 (((2 : Int32) * (I a0 47)) + (2 : Int32))).bind fun I96_1 =>
      some ((), I96_1)
    else
      if ¬ ((i1 >>> (i2 &&& 31)) &&& (1 : Int32)) = (1 : Int32) then
        f249_b81 kad N Z (fun p0 p1 p2 I => f249_b7 kad N Z F p0 p1 p2 I) a0 i1 i2 I
      else
        (ixA 3 (I a0 47)).bind fun j31_3 =>
        (wI I (a0 + 22) j31_3 i2).bind fun I31_2 =>
        f249_b34 kad N Z (fun p0 p1 p2 I => f249_b7 kad N Z F p0 p1 p2 I) N a0 i1 i2 (0 : Int32) I31_2
set_option maxRecDepth 20000 in
theorem Tf249_b7 {kad : Nat → Nat} {N : Nat} {Z : AZ} {d : Nat} {t : Option Nat × (Nat × Nat)} (hd : 0 ≤ d) : ∀ (F : Nat) (a0 : Nat) (ha0 : sh11 kad Z a0) (i1 : Int32) (i2 : Int32) (I : AI) (r : Unit × AI), f249_b7 kad N Z F a0 i1 i2 I = some r → aGo kad d 249 (7, ([(0, .ref a0), (1, .int i1), (2, .int i2)], [])) (aMem Z I, t) (qV Z t r) := by
  intro F
  induction F with
  | zero => intro a0 ha0 i1 i2 I r h; cases h
  | succ F ih =>
    intro a0 ha0 i1 i2 I r h
    unfold f249_b7 at h
    refine go_ops aMi249 2 _ (f1 := (10, ([(0, .ref a0), (1, .int i1), (2, .int i2)], [.int (32 : Int32), .int i2]))) rfl ?_
    refine gg_br (b := decide ((32 : Int32) ≤ i2)) (tg := 87) (off := 77) aMi249 rfl rfl rfl rfl (fun hb => ?_) (fun hb => ?_)
    · rw [if_pos (of_decide_eq_true hb)] at h
      refine go_ops aMi249 3 _ (f1 := (90, ([(0, .ref a0), (1, .int i1), (2, .int i2)], [.ref a0, .int (2 : Int32), .ref a0]))) rfl ?_
      refine gg_gI aMi249 rfl rfl rfl (gI_of (sh11_z ha0)) ?_
      refine go_ops aMi249 3 _ (f1 := (96, ([(0, .ref a0), (1, .int i1), (2, .int i2)], [.int (((2 : Int32) * (I a0 47)) + (2 : Int32)), .ref a0]))) rfl ?_
      obtain ⟨I96_1, hxI96_1, h⟩ := Option.bind_eq_some_iff.mp h
      refine gg_pI aMi249 rfl rfl rfl rfl (by decide) (pI_of (sh11_z ha0) hxI96_1) ?_
      cases h
      exact go_ret aMi249 rfl rfl ⟨rfl, rfl⟩
    · rw [if_neg (of_decide_eq_false hb)] at h
      refine go_ops aMi249 6 _ (f1 := (19, ([(0, .ref a0), (1, .int i1), (2, .int i2)], [.int (1 : Int32), .int ((i1 >>> (i2 &&& 31)) &&& (1 : Int32))]))) rfl ?_
      refine gg_br (b := decide (¬ ((i1 >>> (i2 &&& 31)) &&& (1 : Int32)) = (1 : Int32))) (tg := 81) (off := 62) aMi249 rfl rfl rfl rfl (fun hb => ?_) (fun hb => ?_)
      · rw [if_pos (of_decide_eq_true hb)] at h
        exact Tf249_b81 hd (fun p0 p1 p2 I => f249_b7 kad N Z F p0 p1 p2 I) (fun p0 q0 p1 p2 I r hh => ih p0 q0 p1 p2 I r hh) a0 ha0 i1 i2 I _ h
      · rw [if_neg (of_decide_eq_false hb)] at h
        refine go_ops aMi249 1 _ (f1 := (23, ([(0, .ref a0), (1, .int i1), (2, .int i2)], [.ref a0]))) rfl ?_
        refine gg_gR (b := (a0 + 22)) aMi249 rfl rfl rfl (gR_of (sh11_z ha0) (sh11_r48 ha0)) ?_
        refine go_ops aMi249 1 _ (f1 := (27, ([(0, .ref a0), (1, .int i1), (2, .int i2)], [.ref a0, .ref (a0 + 22)]))) rfl ?_
        refine gg_gI aMi249 rfl rfl rfl (gI_of (sh11_z ha0)) ?_
        refine go_ops aMi249 1 _ (f1 := (31, ([(0, .ref a0), (1, .int i1), (2, .int i2)], [.int i2, .int (I a0 47), .ref (a0 + 22)]))) rfl ?_
        obtain ⟨j31_3, hxj31_3, h⟩ := Option.bind_eq_some_iff.mp h
        obtain ⟨I31_2, hxI31_2, h⟩ := Option.bind_eq_some_iff.mp h
        refine gg_sI (Or.inl ⟨rfl, rfl⟩) aMi249 rfl (sI_of (sh11_a48 ha0) hxj31_3 hxI31_2) ?_
        refine go_ops aMi249 2 _ (f1 := (34, ([(3, .int (0 : Int32)), (0, .ref a0), (1, .int i1), (2, .int i2)], []))) rfl ?_
        refine go_le (lv1 := [(0, .ref a0), (1, .int i1), (2, .int i2), (3, .int (0 : Int32))]) (aLe_of (show (List.map (fun q => q.1) ([(0, .ref a0), (1, .int i1), (2, .int i2), (3, .int (0 : Int32))] : ALv)).Nodup from (by show ([0, 1, 2, 3] : List Nat).Nodup; decide)) (aSubL_cons rfl (aSubL_cons rfl (aSubL_cons rfl (aSubL_cons rfl aSubL_nil))))) ?_
        exact Tf249_b34 hd (fun p0 p1 p2 I => f249_b7 kad N Z F p0 p1 p2 I) (fun p0 q0 p1 p2 I r hh => ih p0 q0 p1 p2 I r hh) N a0 ha0 i1 i2 (0 : Int32) I31_2 _ h
def f249 (kad : Nat → Nat) (N : Nat) (Z : AZ) (a0 : Nat) (i1 : Int32) (I : AI) : Option (Unit × AI) :=
  (wI I a0 47 (0 : Int32)).bind fun I2_1 =>
  f249_b7 kad N Z N a0 i1 (0 : Int32) I2_1
set_option maxRecDepth 20000 in
theorem Tf249 {kad : Nat → Nat} {N : Nat} {Z : AZ} {d : Nat} {t : Option Nat × (Nat × Nat)} (hd : 0 ≤ d) : ∀ (a0 : Nat) (ha0 : sh11 kad Z a0) (i1 : Int32) (I : AI) (r : Unit × AI), f249 kad N Z a0 i1 I = some r → aGo kad d 249 (0, ([(0, .ref a0), (1, .int i1)], [])) (aMem Z I, t) (qV Z t r) := by
  intro a0 ha0 i1 I r h
  unfold f249 at h
  refine go_ops aMi249 2 _ (f1 := (2, ([(0, .ref a0), (1, .int i1)], [.int (0 : Int32), .ref a0]))) rfl ?_
  obtain ⟨I2_1, hxI2_1, h⟩ := Option.bind_eq_some_iff.mp h
  refine gg_pI aMi249 rfl rfl rfl rfl (by decide) (pI_of (sh11_z ha0) hxI2_1) ?_
  refine go_ops aMi249 2 _ (f1 := (7, ([(2, .int (0 : Int32)), (0, .ref a0), (1, .int i1)], []))) rfl ?_
  refine go_le (lv1 := [(0, .ref a0), (1, .int i1), (2, .int (0 : Int32))]) (aLe_of (show (List.map (fun q => q.1) ([(0, .ref a0), (1, .int i1), (2, .int (0 : Int32))] : ALv)).Nodup from (by show ([0, 1, 2] : List Nat).Nodup; decide)) (aSubL_cons rfl (aSubL_cons rfl (aSubL_cons rfl aSubL_nil)))) ?_
  exact Tf249_b7 hd N a0 ha0 i1 (0 : Int32) I2_1 _ h
