-- KernelGymModel.shifted (IIZ)I
def f229_b16 (kad : Nat → Nat) (N : Nat) (Z : AZ) (s0 : Int32) (I : AI) : Option (Int32 × AI) :=
  some (s0, I)
set_option maxRecDepth 20000 in
theorem Tf229_b16 {kad : Nat → Nat} {N : Nat} {Z : AZ} {d : Nat} {t : Option Nat × (Nat × Nat)} (hd : 0 ≤ d) : ∀ (s0 : Int32) (I : AI) (r : Int32 × AI), f229_b16 kad N Z s0 I = some r → aGo kad d 229 (16, ([], [.int s0])) (aMem Z I, t) (qI Z t r) := by
  intro s0 I r h
  unfold f229_b16 at h
  cases h
  exact go_ret aMi229 rfl aRetI ⟨rfl, rfl⟩
def f229 (kad : Nat → Nat) (N : Nat) (Z : AZ) (i0 : Int32) (i1 : Int32) (i2 : Int32) (I : AI) : Option (Int32 × AI) :=
  if i2 = 0 then
    f229_b16 kad N Z (i0 >>> (i1 &&& 31)) I
  else
    f229_b16 kad N Z ((i0 <<< (i1 &&& 31)) - (i0 <<< (i1 &&& 31)) / (65536 : Int32) * (65536 : Int32)) I
set_option maxRecDepth 20000 in
theorem Tf229 {kad : Nat → Nat} {N : Nat} {Z : AZ} {d : Nat} {t : Option Nat × (Nat × Nat)} (hd : 0 ≤ d) : ∀ (i0 : Int32) (i1 : Int32) (i2 : Int32) (I : AI) (r : Int32 × AI), f229 kad N Z i0 i1 i2 I = some r → aGo kad d 229 (0, ([(0, .int i0), (1, .int i1), (2, .int i2)], [])) (aMem Z I, t) (qI Z t r) := by
  intro i0 i1 i2 I r h
  unfold f229 at h
  refine go_ops aMi229 1 _ (f1 := (1, ([(0, .int i0), (1, .int i1), (2, .int i2)], [.int i2]))) rfl ?_
  refine gg_br (b := decide (i2 = 0)) (tg := 13) (off := 12) aMi229 rfl rfl rfl rfl (fun hb => ?_) (fun hb => ?_)
  · rw [if_pos (of_decide_eq_true hb)] at h
    refine go_ops aMi229 3 _ (f1 := (16, ([(0, .int i0), (1, .int i1), (2, .int i2)], [.int (i0 >>> (i1 &&& 31))]))) rfl ?_
    refine go_le (lv1 := []) (aLe_of (show (List.map (fun q => q.1) ([] : ALv)).Nodup from (by show ([] : List Nat).Nodup; decide)) aSubL_nil) ?_
    exact Tf229_b16 hd (i0 >>> (i1 &&& 31)) I _ h
  · rw [if_neg (of_decide_eq_false hb)] at h
    refine go_ops aMi229 3 _ (f1 := (7, ([(0, .int i0), (1, .int i1), (2, .int i2)], [.int (i0 <<< (i1 &&& 31))]))) rfl ?_
    refine gg_kI (Or.inl ⟨rfl, rfl⟩) aMi229 rfl rfl ?_
    refine go_ops aMi229 2 _ (f1 := (16, ([(0, .int i0), (1, .int i1), (2, .int i2)], [.int ((i0 <<< (i1 &&& 31)) - (i0 <<< (i1 &&& 31)) / (65536 : Int32) * (65536 : Int32))]))) rfl ?_
    refine go_le (lv1 := []) (aLe_of (show (List.map (fun q => q.1) ([] : ALv)).Nodup from (by show ([] : List Nat).Nodup; decide)) aSubL_nil) ?_
    exact Tf229_b16 hd ((i0 <<< (i1 &&& 31)) - (i0 <<< (i1 &&& 31)) / (65536 : Int32) * (65536 : Int32)) I _ h
-- KernelGymModel.made (III)J
def f230_b92 (kad : Nat → Nat) (N : Nat) (Z : AZ) (s0 : Int64) (I : AI) : Option (Int64 × AI) :=
  some (s0, I)
set_option maxRecDepth 20000 in
theorem Tf230_b92 {kad : Nat → Nat} {N : Nat} {Z : AZ} {d : Nat} {t : Option Nat × (Nat × Nat)} (hd : 1 ≤ d) : ∀ (s0 : Int64) (I : AI) (r : Int64 × AI), f230_b92 kad N Z s0 I = some r → aGo kad d 230 (92, ([], [.long s0])) (aMem Z I, t) (qJ Z t r) := by
  intro s0 I r h
  unfold f230_b92 at h
  cases h
  exact go_ret aMi230 rfl rfl ⟨rfl, rfl⟩
def f230_b24 (kad : Nat → Nat) (N : Nat) (Z : AZ) (i1 : Int32) (i2 : Int32) (I : AI) : Option (Int64 × AI) :=
  f230_b92 kad N Z ((i1.toInt64) - (i2.toInt64)) I
set_option maxRecDepth 20000 in
theorem Tf230_b24 {kad : Nat → Nat} {N : Nat} {Z : AZ} {d : Nat} {t : Option Nat × (Nat × Nat)} (hd : 1 ≤ d) : ∀ (i1 : Int32) (i2 : Int32) (I : AI) (r : Int64 × AI), f230_b24 kad N Z i1 i2 I = some r → aGo kad d 230 (24, ([(1, .int i1), (2, .int i2)], [])) (aMem Z I, t) (qJ Z t r) := by
  intro i1 i2 I r h
  unfold f230_b24 at h
  refine go_ops aMi230 6 _ (f1 := (92, ([(1, .int i1), (2, .int i2)], [.long ((i1.toInt64) - (i2.toInt64))]))) rfl ?_
  refine go_le (lv1 := []) (aLe_of (show (List.map (fun q => q.1) ([] : ALv)).Nodup from (by show ([] : List Nat).Nodup; decide)) aSubL_nil) ?_
  exact Tf230_b92 hd ((i1.toInt64) - (i2.toInt64)) I _ h
def f230_b88 (kad : Nat → Nat) (N : Nat) (Z : AZ) (s0 : Int32) (s1 : Int32) (s2 : Int32) (I : AI) : Option (Int64 × AI) :=
  (f229 kad N Z s2 s1 s0 I).bind fun r88_1 =>
  f230_b92 kad N Z (r88_1.1.toInt64) r88_1.2
set_option maxRecDepth 20000 in
theorem Tf230_b88 {kad : Nat → Nat} {N : Nat} {Z : AZ} {d : Nat} {t : Option Nat × (Nat × Nat)} (hd : 1 ≤ d) : ∀ (s0 : Int32) (s1 : Int32) (s2 : Int32) (I : AI) (r : Int64 × AI), f230_b88 kad N Z s0 s1 s2 I = some r → aGo kad d 230 (88, ([], [.int s0, .int s1, .int s2])) (aMem Z I, t) (qJ Z t r) := by
  intro s0 s1 s2 I r h
  unfold f230_b88 at h
  obtain ⟨r88_1, hxr88_1, h⟩ := Option.bind_eq_some_iff.mp h
  refine gg_cs (as := [.int s2, .int s1, .int s0]) (r := []) aMi230 rfl rfl rfl aMi229 rfl (Nat.le_of_ble_eq_true rfl) (Nat.le_of_ble_eq_true rfl) (by omega) (Tf229 (by omega) s2 s1 s0 I _ hxr88_1) ?_
  show aGo kad d 230 (91, ([], [.int r88_1.1])) (aMem Z r88_1.2, t) _
  refine go_ops aMi230 1 _ (f1 := (92, ([], [.long (r88_1.1.toInt64)]))) rfl ?_
  exact Tf230_b92 hd (r88_1.1.toInt64) r88_1.2 _ h
def f230 (kad : Nat → Nat) (N : Nat) (Z : AZ) (i0 : Int32) (i1 : Int32) (i2 : Int32) (I : AI) : Option (Int64 × AI) :=
  if ¬ i0 = (4 : Int32) then
    if i0 = (5 : Int32) then
      f230_b24 kad N Z i1 i2 I
    else
      if ¬ i0 = (11 : Int32) then
        if ¬ i0 = (6 : Int32) then
          if ¬ i0 = (7 : Int32) then
            if ¬ i0 = (8 : Int32) then
              if ¬ i0 = (9 : Int32) then
                f230_b88 kad N Z (0 : Int32) (i2 - i2 / (16 : Int32) * (16 : Int32)) i1 I
              else
                f230_b88 kad N Z (1 : Int32) (i2 - i2 / (16 : Int32) * (16 : Int32)) i1 I
            else
              f230_b92 kad N Z ((i1 ^^^ i2).toInt64) I
          else
            f230_b92 kad N Z ((i1 &&& i2).toInt64) I
        else
          f230_b92 kad N Z ((i1.toInt64) * (i2.toInt64)) I
      else
        f230_b24 kad N Z i1 i2 I
  else
    f230_b92 kad N Z ((i1.toInt64) + (i2.toInt64)) I
set_option maxRecDepth 20000 in
theorem Tf230 {kad : Nat → Nat} {N : Nat} {Z : AZ} {d : Nat} {t : Option Nat × (Nat × Nat)} (hd : 1 ≤ d) : ∀ (i0 : Int32) (i1 : Int32) (i2 : Int32) (I : AI) (r : Int64 × AI), f230 kad N Z i0 i1 i2 I = some r → aGo kad d 230 (0, ([(0, .int i0), (1, .int i1), (2, .int i2)], [])) (aMem Z I, t) (qJ Z t r) := by
  intro i0 i1 i2 I r h
  unfold f230 at h
  refine go_ops aMi230 2 _ (f1 := (2, ([(0, .int i0), (1, .int i1), (2, .int i2)], [.int (4 : Int32), .int i0]))) rfl ?_
  refine gg_br (b := decide (¬ i0 = (4 : Int32))) (tg := 13) (off := 11) aMi230 rfl rfl rfl rfl (fun hb => ?_) (fun hb => ?_)
  · rw [if_pos (of_decide_eq_true hb)] at h
    refine go_ops aMi230 2 _ (f1 := (15, ([(0, .int i0), (1, .int i1), (2, .int i2)], [.int (5 : Int32), .int i0]))) rfl ?_
    refine gg_br (b := decide (i0 = (5 : Int32))) (tg := 24) (off := 9) aMi230 rfl rfl rfl rfl (fun hb => ?_) (fun hb => ?_)
    · rw [if_pos (of_decide_eq_true hb)] at h
      refine go_le (lv1 := [(1, .int i1), (2, .int i2)]) (aLe_of (show (List.map (fun q => q.1) ([(1, .int i1), (2, .int i2)] : ALv)).Nodup from (by show ([1, 2] : List Nat).Nodup; decide)) (aSubL_cons rfl (aSubL_cons rfl aSubL_nil))) ?_
      exact Tf230_b24 hd i1 i2 I _ h
    · rw [if_neg (of_decide_eq_false hb)] at h
      refine go_ops aMi230 2 _ (f1 := (21, ([(0, .int i0), (1, .int i1), (2, .int i2)], [.int (11 : Int32), .int i0]))) rfl ?_
      refine gg_br (b := decide (¬ i0 = (11 : Int32))) (tg := 32) (off := 11) aMi230 rfl rfl rfl rfl (fun hb => ?_) (fun hb => ?_)
      · rw [if_pos (of_decide_eq_true hb)] at h
        refine go_ops aMi230 2 _ (f1 := (35, ([(0, .int i0), (1, .int i1), (2, .int i2)], [.int (6 : Int32), .int i0]))) rfl ?_
        refine gg_br (b := decide (¬ i0 = (6 : Int32))) (tg := 46) (off := 11) aMi230 rfl rfl rfl rfl (fun hb => ?_) (fun hb => ?_)
        · rw [if_pos (of_decide_eq_true hb)] at h
          refine go_ops aMi230 2 _ (f1 := (49, ([(0, .int i0), (1, .int i1), (2, .int i2)], [.int (7 : Int32), .int i0]))) rfl ?_
          refine gg_br (b := decide (¬ i0 = (7 : Int32))) (tg := 59) (off := 10) aMi230 rfl rfl rfl rfl (fun hb => ?_) (fun hb => ?_)
          · rw [if_pos (of_decide_eq_true hb)] at h
            refine go_ops aMi230 2 _ (f1 := (62, ([(0, .int i0), (1, .int i1), (2, .int i2)], [.int (8 : Int32), .int i0]))) rfl ?_
            refine gg_br (b := decide (¬ i0 = (8 : Int32))) (tg := 72) (off := 10) aMi230 rfl rfl rfl rfl (fun hb => ?_) (fun hb => ?_)
            · rw [if_pos (of_decide_eq_true hb)] at h
              refine go_ops aMi230 6 _ (f1 := (80, ([(0, .int i0), (1, .int i1), (2, .int i2)], [.int (9 : Int32), .int i0, .int (i2 - i2 / (16 : Int32) * (16 : Int32)), .int i1]))) rfl ?_
              refine gg_br (b := decide (¬ i0 = (9 : Int32))) (tg := 87) (off := 7) aMi230 rfl rfl rfl rfl (fun hb => ?_) (fun hb => ?_)
              · rw [if_pos (of_decide_eq_true hb)] at h
                refine go_ops aMi230 1 _ (f1 := (88, ([(0, .int i0), (1, .int i1), (2, .int i2)], [.int (0 : Int32), .int (i2 - i2 / (16 : Int32) * (16 : Int32)), .int i1]))) rfl ?_
                refine go_le (lv1 := []) (aLe_of (show (List.map (fun q => q.1) ([] : ALv)).Nodup from (by show ([] : List Nat).Nodup; decide)) aSubL_nil) ?_
                exact Tf230_b88 hd (0 : Int32) (i2 - i2 / (16 : Int32) * (16 : Int32)) i1 I _ h
              · rw [if_neg (of_decide_eq_false hb)] at h
                refine go_ops aMi230 2 _ (f1 := (88, ([(0, .int i0), (1, .int i1), (2, .int i2)], [.int (1 : Int32), .int (i2 - i2 / (16 : Int32) * (16 : Int32)), .int i1]))) rfl ?_
                refine go_le (lv1 := []) (aLe_of (show (List.map (fun q => q.1) ([] : ALv)).Nodup from (by show ([] : List Nat).Nodup; decide)) aSubL_nil) ?_
                exact Tf230_b88 hd (1 : Int32) (i2 - i2 / (16 : Int32) * (16 : Int32)) i1 I _ h
            · rw [if_neg (of_decide_eq_false hb)] at h
              refine go_ops aMi230 5 _ (f1 := (92, ([(0, .int i0), (1, .int i1), (2, .int i2)], [.long ((i1 ^^^ i2).toInt64)]))) rfl ?_
              refine go_le (lv1 := []) (aLe_of (show (List.map (fun q => q.1) ([] : ALv)).Nodup from (by show ([] : List Nat).Nodup; decide)) aSubL_nil) ?_
              exact Tf230_b92 hd ((i1 ^^^ i2).toInt64) I _ h
          · rw [if_neg (of_decide_eq_false hb)] at h
            refine go_ops aMi230 5 _ (f1 := (92, ([(0, .int i0), (1, .int i1), (2, .int i2)], [.long ((i1 &&& i2).toInt64)]))) rfl ?_
            refine go_le (lv1 := []) (aLe_of (show (List.map (fun q => q.1) ([] : ALv)).Nodup from (by show ([] : List Nat).Nodup; decide)) aSubL_nil) ?_
            exact Tf230_b92 hd ((i1 &&& i2).toInt64) I _ h
        · rw [if_neg (of_decide_eq_false hb)] at h
          refine go_ops aMi230 6 _ (f1 := (92, ([(0, .int i0), (1, .int i1), (2, .int i2)], [.long ((i1.toInt64) * (i2.toInt64))]))) rfl ?_
          refine go_le (lv1 := []) (aLe_of (show (List.map (fun q => q.1) ([] : ALv)).Nodup from (by show ([] : List Nat).Nodup; decide)) aSubL_nil) ?_
          exact Tf230_b92 hd ((i1.toInt64) * (i2.toInt64)) I _ h
      · rw [if_neg (of_decide_eq_false hb)] at h
        refine go_le (lv1 := [(1, .int i1), (2, .int i2)]) (aLe_of (show (List.map (fun q => q.1) ([(1, .int i1), (2, .int i2)] : ALv)).Nodup from (by show ([1, 2] : List Nat).Nodup; decide)) (aSubL_cons rfl (aSubL_cons rfl aSubL_nil))) ?_
        exact Tf230_b24 hd i1 i2 I _ h
  · rw [if_neg (of_decide_eq_false hb)] at h
    refine go_ops aMi230 6 _ (f1 := (92, ([(0, .int i0), (1, .int i1), (2, .int i2)], [.long ((i1.toInt64) + (i2.toInt64))]))) rfl ?_
    refine go_le (lv1 := []) (aLe_of (show (List.map (fun q => q.1) ([] : ALv)).Nodup from (by show ([] : List Nat).Nodup; decide)) aSubL_nil) ?_
    exact Tf230_b92 hd ((i1.toInt64) + (i2.toInt64)) I _ h
-- KernelGymModel.reckons (III)V
def f231_b162 (kad : Nat → Nat) (N : Nat) (Z : AZ)  (I : AI) : Option (Unit × AI) :=
  some ((), I)
set_option maxRecDepth 20000 in
theorem Tf231_b162 {kad : Nat → Nat} {N : Nat} {Z : AZ} {d : Nat} {t : Option Nat × (Nat × Nat)} (hd : 2 ≤ d) : ∀  (I : AI) (r : Unit × AI), f231_b162 kad N Z  I = some r → aGo kad d 231 (162, ([], [])) (aMem Z I, t) (qV Z t r) := by
  intro  I r h
  unfold f231_b162 at h
  cases h
  exact go_ret aMi231 rfl rfl ⟨rfl, rfl⟩
def f231_b161 (kad : Nat → Nat) (N : Nat) (Z : AZ) (s0 : Int32) (s1 : Int32) (s2 : Nat) (I : AI) : Option (Unit × AI) :=
  (sI Z I 100 s2 s1 s0).bind fun I161_1 =>
  f231_b162 kad N Z  I161_1
set_option maxRecDepth 20000 in
theorem Tf231_b161 {kad : Nat → Nat} {N : Nat} {Z : AZ} {d : Nat} {t : Option Nat × (Nat × Nat)} (hd : 2 ≤ d) : ∀ (s0 : Int32) (s1 : Int32) (s2 : Nat) (I : AI) (r : Unit × AI), f231_b161 kad N Z s0 s1 s2 I = some r → aGo kad d 231 (161, ([], [.int s0, .int s1, .ref s2])) (aMem Z I, t) (qV Z t r) := by
  intro s0 s1 s2 I r h
  unfold f231_b161 at h
  obtain ⟨I161_1, hxI161_1, h⟩ := Option.bind_eq_some_iff.mp h
  refine gg_sI (Or.inl ⟨rfl, rfl⟩) aMi231 rfl hxI161_1 ?_
  exact Tf231_b162 hd  I161_1 _ h
def f231_b136 (kad : Nat → Nat) (N : Nat) (Z : AZ) (a0 : Nat) (i1 : Int32) (i2 : Int32) (i6 : Int32) (s0 : Int32) (s1 : Nat) (I : AI) : Option (Unit × AI) :=
  (pB Z I 11 29 s1 s0).bind fun I136_1 =>
  (gR Z I136_1 11 26 a0).bind fun b140_2 =>
  if ¬ i1 = (11 : Int32) then
    f231_b161 kad N Z i6 i2 b140_2 I136_1
  else
    (gR Z I136_1 11 26 a0).bind fun b151_3 =>
    (lI Z I136_1 100 b151_3 i2).bind fun x155_4 =>
    f231_b161 kad N Z x155_4 i2 b140_2 I136_1
set_option maxRecDepth 20000 in
theorem Tf231_b136 {kad : Nat → Nat} {N : Nat} {Z : AZ} {d : Nat} {t : Option Nat × (Nat × Nat)} (hd : 2 ≤ d) : ∀ (a0 : Nat) (i1 : Int32) (i2 : Int32) (i6 : Int32) (s0 : Int32) (s1 : Nat) (I : AI) (r : Unit × AI), f231_b136 kad N Z a0 i1 i2 i6 s0 s1 I = some r → aGo kad d 231 (136, ([(0, .ref a0), (1, .int i1), (2, .int i2), (6, .int i6)], [.int s0, .ref s1])) (aMem Z I, t) (qV Z t r) := by
  intro a0 i1 i2 i6 s0 s1 I r h
  unfold f231_b136 at h
  obtain ⟨I136_1, hxI136_1, h⟩ := Option.bind_eq_some_iff.mp h
  refine gg_pB aMi231 rfl rfl rfl rfl (by decide) hxI136_1 ?_
  refine go_ops aMi231 1 _ (f1 := (140, ([(0, .ref a0), (1, .int i1), (2, .int i2), (6, .int i6)], [.ref a0]))) rfl ?_
  obtain ⟨b140_2, hxb140_2, h⟩ := Option.bind_eq_some_iff.mp h
  refine gg_gR aMi231 rfl rfl rfl hxb140_2 ?_
  refine go_ops aMi231 3 _ (f1 := (147, ([(0, .ref a0), (1, .int i1), (2, .int i2), (6, .int i6)], [.int (11 : Int32), .int i1, .int i2, .ref b140_2]))) rfl ?_
  refine gg_br (b := decide (¬ i1 = (11 : Int32))) (tg := 159) (off := 12) aMi231 rfl rfl rfl rfl (fun hb => ?_) (fun hb => ?_)
  · rw [if_pos (of_decide_eq_true hb)] at h
    refine go_ops aMi231 1 _ (f1 := (161, ([(0, .ref a0), (1, .int i1), (2, .int i2), (6, .int i6)], [.int i6, .int i2, .ref b140_2]))) rfl ?_
    refine go_le (lv1 := []) (aLe_of (show (List.map (fun q => q.1) ([] : ALv)).Nodup from (by show ([] : List Nat).Nodup; decide)) aSubL_nil) ?_
    exact Tf231_b161 hd i6 i2 b140_2 I136_1 _ h
  · rw [if_neg (of_decide_eq_false hb)] at h
    refine go_ops aMi231 1 _ (f1 := (151, ([(0, .ref a0), (1, .int i1), (2, .int i2), (6, .int i6)], [.ref a0, .int i2, .ref b140_2]))) rfl ?_
    obtain ⟨b151_3, hxb151_3, h⟩ := Option.bind_eq_some_iff.mp h
    refine gg_gR aMi231 rfl rfl rfl hxb151_3 ?_
    refine go_ops aMi231 1 _ (f1 := (155, ([(0, .ref a0), (1, .int i1), (2, .int i2), (6, .int i6)], [.int i2, .ref b151_3, .int i2, .ref b140_2]))) rfl ?_
    obtain ⟨x155_4, hxx155_4, h⟩ := Option.bind_eq_some_iff.mp h
    refine gg_lI (Or.inl ⟨rfl, rfl⟩) aMi231 rfl hxx155_4 ?_
    refine go_ops aMi231 1 _ (f1 := (161, ([(0, .ref a0), (1, .int i1), (2, .int i2), (6, .int i6)], [.int x155_4, .int i2, .ref b140_2]))) rfl ?_
    refine go_le (lv1 := []) (aLe_of (show (List.map (fun q => q.1) ([] : ALv)).Nodup from (by show ([] : List Nat).Nodup; decide)) aSubL_nil) ?_
    exact Tf231_b161 hd x155_4 i2 b140_2 I136_1 _ h
def f231_b122 (kad : Nat → Nat) (N : Nat) (Z : AZ) (a0 : Nat) (i1 : Int32) (i2 : Int32) (i6 : Int32) (s0 : Int32) (s1 : Nat) (I : AI) : Option (Unit × AI) :=
  (pB Z I 11 30 s1 s0).bind fun I122_1 =>
  if ¬ i6 = 0 then
    f231_b136 kad N Z a0 i1 i2 i6 (0 : Int32) a0 I122_1
  else
    f231_b136 kad N Z a0 i1 i2 i6 (1 : Int32) a0 I122_1
set_option maxRecDepth 20000 in
theorem Tf231_b122 {kad : Nat → Nat} {N : Nat} {Z : AZ} {d : Nat} {t : Option Nat × (Nat × Nat)} (hd : 2 ≤ d) : ∀ (a0 : Nat) (i1 : Int32) (i2 : Int32) (i6 : Int32) (s0 : Int32) (s1 : Nat) (I : AI) (r : Unit × AI), f231_b122 kad N Z a0 i1 i2 i6 s0 s1 I = some r → aGo kad d 231 (122, ([(0, .ref a0), (1, .int i1), (2, .int i2), (6, .int i6)], [.int s0, .ref s1])) (aMem Z I, t) (qV Z t r) := by
  intro a0 i1 i2 i6 s0 s1 I r h
  unfold f231_b122 at h
  obtain ⟨I122_1, hxI122_1, h⟩ := Option.bind_eq_some_iff.mp h
  refine gg_pB aMi231 rfl rfl rfl rfl (by decide) hxI122_1 ?_
  refine go_ops aMi231 2 _ (f1 := (128, ([(0, .ref a0), (1, .int i1), (2, .int i2), (6, .int i6)], [.int i6, .ref a0]))) rfl ?_
  refine gg_br (b := decide (¬ i6 = 0)) (tg := 135) (off := 7) aMi231 rfl rfl rfl rfl (fun hb => ?_) (fun hb => ?_)
  · rw [if_pos (of_decide_eq_true hb)] at h
    refine go_ops aMi231 1 _ (f1 := (136, ([(0, .ref a0), (1, .int i1), (2, .int i2), (6, .int i6)], [.int (0 : Int32), .ref a0]))) rfl ?_
    exact Tf231_b136 hd a0 i1 i2 i6 (0 : Int32) a0 I122_1 _ h
  · rw [if_neg (of_decide_eq_false hb)] at h
    refine go_ops aMi231 2 _ (f1 := (136, ([(0, .ref a0), (1, .int i1), (2, .int i2), (6, .int i6)], [.int (1 : Int32), .ref a0]))) rfl ?_
    exact Tf231_b136 hd a0 i1 i2 i6 (1 : Int32) a0 I122_1 _ h
def f231_b117 (kad : Nat → Nat) (N : Nat) (Z : AZ) (a0 : Nat) (i1 : Int32) (i2 : Int32) (i6 : Int32) (s0 : Nat) (I : AI) : Option (Unit × AI) :=
  f231_b122 kad N Z a0 i1 i2 i6 (1 : Int32) s0 I
set_option maxRecDepth 20000 in
theorem Tf231_b117 {kad : Nat → Nat} {N : Nat} {Z : AZ} {d : Nat} {t : Option Nat × (Nat × Nat)} (hd : 2 ≤ d) : ∀ (a0 : Nat) (i1 : Int32) (i2 : Int32) (i6 : Int32) (s0 : Nat) (I : AI) (r : Unit × AI), f231_b117 kad N Z a0 i1 i2 i6 s0 I = some r → aGo kad d 231 (117, ([(0, .ref a0), (1, .int i1), (2, .int i2), (6, .int i6)], [.ref s0])) (aMem Z I, t) (qV Z t r) := by
  intro a0 i1 i2 i6 s0 I r h
  unfold f231_b117 at h
  refine go_ops aMi231 2 _ (f1 := (122, ([(0, .ref a0), (1, .int i1), (2, .int i2), (6, .int i6)], [.int (1 : Int32), .ref s0]))) rfl ?_
  exact Tf231_b122 hd a0 i1 i2 i6 (1 : Int32) s0 I _ h
def f231 (kad : Nat → Nat) (N : Nat) (Z : AZ) (a0 : Nat) (i1 : Int32) (i2 : Int32) (i3 : Int32) (I : AI) : Option (Unit × AI) :=
  if ¬ i1 = 0 then
    (gI Z I 11 27 a0).bind fun x12_1 =>
    (pI Z I 11 27 a0 (x12_1 + (2 : Int32))).bind fun I17_2 =>
    if ¬ i1 = (1 : Int32) then
      if ¬ i1 = (2 : Int32) then
        if ¬ i1 = (3 : Int32) then
          (gR Z I17_2 11 26 a0).bind fun b76_3 =>
          (lI Z I17_2 100 b76_3 i2).bind fun x80_4 =>
          (f230 kad N Z i1 x80_4 i3 I17_2).bind fun r82_5 =>
          if (lg_cmp r82_5.1 (0 : Int64)) < 0 then
            f231_b117 kad N Z a0 i1 i2 (((r82_5.1 + (65536 : Int64)) - (r82_5.1 + (65536 : Int64)) / (65536 : Int64) * (65536 : Int64)).toInt32) a0 r82_5.2
          else
            if (lg_cmp r82_5.1 (65536 : Int64)) < 0 then
              f231_b122 kad N Z a0 i1 i2 (((r82_5.1 + (65536 : Int64)) - (r82_5.1 + (65536 : Int64)) / (65536 : Int64) * (65536 : Int64)).toInt32) (0 : Int32) a0 r82_5.2
            else
              f231_b117 kad N Z a0 i1 i2 (((r82_5.1 + (65536 : Int64)) - (r82_5.1 + (65536 : Int64)) / (65536 : Int64) * (65536 : Int64)).toInt32) a0 r82_5.2
        else
          (gR Z I17_2 11 26 a0).bind fun b63_6 =>
          (lI Z I17_2 100 b63_6 i2).bind fun x67_7 =>
          (isK Z a0 11).bind fun u68_8 =>
          (f218 kad N Z a0 i3 x67_7 I17_2).bind fun r68_9 =>
          f231_b162 kad N Z  r68_9.2
      else
        (gR Z I17_2 11 26 a0).bind fun b41_10 =>
        (gR Z I17_2 11 25 a0).bind fun b46_11 =>
        (lI Z I17_2 100 b46_11 i3).bind fun x50_12 =>
        (sI Z I17_2 100 b41_10 i2 x50_12).bind fun I51_13 =>
        f231_b162 kad N Z  I51_13
    else
      (gR Z I17_2 11 26 a0).bind fun b26_14 =>
      (sI Z I17_2 100 b26_14 i2 i3).bind fun I31_15 =>
      f231_b162 kad N Z  I31_15
  else
    (pI Z I 11 23 a0 (2 : Int32)).bind fun I6_16 =>
    some ((), I6_16)
set_option maxRecDepth 20000 in
theorem Tf231 {kad : Nat → Nat} {N : Nat} {Z : AZ} {d : Nat} {t : Option Nat × (Nat × Nat)} (hd : 2 ≤ d) : ∀ (a0 : Nat) (i1 : Int32) (i2 : Int32) (i3 : Int32) (I : AI) (r : Unit × AI), f231 kad N Z a0 i1 i2 i3 I = some r → aGo kad d 231 (0, ([(0, .ref a0), (1, .int i1), (2, .int i2), (3, .int i3)], [])) (aMem Z I, t) (qV Z t r) := by
  intro a0 i1 i2 i3 I r h
  unfold f231 at h
  refine go_ops aMi231 1 _ (f1 := (1, ([(0, .ref a0), (1, .int i1), (2, .int i2), (3, .int i3)], [.int i1]))) rfl ?_
  refine gg_br (b := decide (¬ i1 = 0)) (tg := 10) (off := 9) aMi231 rfl rfl rfl rfl (fun hb => ?_) (fun hb => ?_)
  · rw [if_pos (of_decide_eq_true hb)] at h
    refine go_ops aMi231 2 _ (f1 := (12, ([(0, .ref a0), (1, .int i1), (2, .int i2), (3, .int i3)], [.ref a0, .ref a0]))) rfl ?_
    obtain ⟨x12_1, hxx12_1, h⟩ := Option.bind_eq_some_iff.mp h
    refine gg_gI aMi231 rfl rfl rfl hxx12_1 ?_
    refine go_ops aMi231 2 _ (f1 := (17, ([(0, .ref a0), (1, .int i1), (2, .int i2), (3, .int i3)], [.int (x12_1 + (2 : Int32)), .ref a0]))) rfl ?_
    obtain ⟨I17_2, hxI17_2, h⟩ := Option.bind_eq_some_iff.mp h
    refine gg_pI aMi231 rfl rfl rfl rfl (by decide) hxI17_2 ?_
    refine go_ops aMi231 2 _ (f1 := (22, ([(0, .ref a0), (1, .int i1), (2, .int i2), (3, .int i3)], [.int (1 : Int32), .int i1]))) rfl ?_
    refine gg_br (b := decide (¬ i1 = (1 : Int32))) (tg := 35) (off := 13) aMi231 rfl rfl rfl rfl (fun hb => ?_) (fun hb => ?_)
    · rw [if_pos (of_decide_eq_true hb)] at h
      refine go_ops aMi231 2 _ (f1 := (37, ([(0, .ref a0), (1, .int i1), (2, .int i2), (3, .int i3)], [.int (2 : Int32), .int i1]))) rfl ?_
      refine gg_br (b := decide (¬ i1 = (2 : Int32))) (tg := 55) (off := 18) aMi231 rfl rfl rfl rfl (fun hb => ?_) (fun hb => ?_)
      · rw [if_pos (of_decide_eq_true hb)] at h
        refine go_ops aMi231 2 _ (f1 := (57, ([(0, .ref a0), (1, .int i1), (2, .int i2), (3, .int i3)], [.int (3 : Int32), .int i1]))) rfl ?_
        refine gg_br (b := decide (¬ i1 = (3 : Int32))) (tg := 74) (off := 17) aMi231 rfl rfl rfl rfl (fun hb => ?_) (fun hb => ?_)
        · rw [if_pos (of_decide_eq_true hb)] at h
          refine go_ops aMi231 2 _ (f1 := (76, ([(0, .ref a0), (1, .int i1), (2, .int i2), (3, .int i3)], [.ref a0, .int i1]))) rfl ?_
          obtain ⟨b76_3, hxb76_3, h⟩ := Option.bind_eq_some_iff.mp h
          refine gg_gR aMi231 rfl rfl rfl hxb76_3 ?_
          refine go_ops aMi231 1 _ (f1 := (80, ([(0, .ref a0), (1, .int i1), (2, .int i2), (3, .int i3)], [.int i2, .ref b76_3, .int i1]))) rfl ?_
          obtain ⟨x80_4, hxx80_4, h⟩ := Option.bind_eq_some_iff.mp h
          refine gg_lI (Or.inl ⟨rfl, rfl⟩) aMi231 rfl hxx80_4 ?_
          refine go_ops aMi231 1 _ (f1 := (82, ([(0, .ref a0), (1, .int i1), (2, .int i2), (3, .int i3)], [.int i3, .int x80_4, .int i1]))) rfl ?_
          obtain ⟨r82_5, hxr82_5, h⟩ := Option.bind_eq_some_iff.mp h
          refine gg_cs (as := [.int i1, .int x80_4, .int i3]) (r := []) aMi231 rfl rfl rfl aMi230 rfl (Nat.le_of_ble_eq_true rfl) (Nat.le_of_ble_eq_true rfl) (by omega) (Tf230 (by omega) i1 x80_4 i3 I17_2 _ hxr82_5) ?_
          show aGo kad d 231 (85, ([(0, .ref a0), (1, .int i1), (2, .int i2), (3, .int i3)], [.long r82_5.1])) (aMem Z r82_5.2, t) _
          refine go_ops aMi231 2 _ (f1 := (89, ([(4, .long r82_5.1), (0, .ref a0), (1, .int i1), (2, .int i2), (3, .int i3)], [.long r82_5.1]))) rfl ?_
          refine gg_kL aMi231 rfl rfl ?_
          refine go_ops aMi231 1 _ (f1 := (93, ([(4, .long r82_5.1), (0, .ref a0), (1, .int i1), (2, .int i2), (3, .int i3)], [.long (r82_5.1 + (65536 : Int64))]))) rfl ?_
          refine gg_kL aMi231 rfl rfl ?_
          refine go_ops aMi231 7 _ (f1 := (105, ([(6, .int (((r82_5.1 + (65536 : Int64)) - (r82_5.1 + (65536 : Int64)) / (65536 : Int64) * (65536 : Int64)).toInt32)), (4, .long r82_5.1), (0, .ref a0), (1, .int i1), (2, .int i2), (3, .int i3)], [.int (lg_cmp r82_5.1 (0 : Int64)), .ref a0]))) rfl ?_
          refine gg_br (b := decide ((lg_cmp r82_5.1 (0 : Int64)) < 0)) (tg := 117) (off := 12) aMi231 rfl rfl rfl rfl (fun hb => ?_) (fun hb => ?_)
          · rw [if_pos (of_decide_eq_true hb)] at h
            refine go_le (lv1 := [(0, .ref a0), (1, .int i1), (2, .int i2), (6, .int (((r82_5.1 + (65536 : Int64)) - (r82_5.1 + (65536 : Int64)) / (65536 : Int64) * (65536 : Int64)).toInt32))]) (aLe_of (show (List.map (fun q => q.1) ([(0, .ref a0), (1, .int i1), (2, .int i2), (6, .int (((r82_5.1 + (65536 : Int64)) - (r82_5.1 + (65536 : Int64)) / (65536 : Int64) * (65536 : Int64)).toInt32))] : ALv)).Nodup from (by show ([0, 1, 2, 6] : List Nat).Nodup; decide)) (aSubL_cons rfl (aSubL_cons rfl (aSubL_cons rfl (aSubL_cons rfl aSubL_nil))))) ?_
            exact Tf231_b117 hd a0 i1 i2 (((r82_5.1 + (65536 : Int64)) - (r82_5.1 + (65536 : Int64)) / (65536 : Int64) * (65536 : Int64)).toInt32) a0 r82_5.2 _ h
          · rw [if_neg (of_decide_eq_false hb)] at h
            refine go_ops aMi231 1 _ (f1 := (110, ([(6, .int (((r82_5.1 + (65536 : Int64)) - (r82_5.1 + (65536 : Int64)) / (65536 : Int64) * (65536 : Int64)).toInt32)), (4, .long r82_5.1), (0, .ref a0), (1, .int i1), (2, .int i2), (3, .int i3)], [.long r82_5.1, .ref a0]))) rfl ?_
            refine gg_kL aMi231 rfl rfl ?_
            refine go_ops aMi231 1 _ (f1 := (114, ([(6, .int (((r82_5.1 + (65536 : Int64)) - (r82_5.1 + (65536 : Int64)) / (65536 : Int64) * (65536 : Int64)).toInt32)), (4, .long r82_5.1), (0, .ref a0), (1, .int i1), (2, .int i2), (3, .int i3)], [.int (lg_cmp r82_5.1 (65536 : Int64)), .ref a0]))) rfl ?_
            refine gg_br (b := decide ((lg_cmp r82_5.1 (65536 : Int64)) < 0)) (tg := 121) (off := 7) aMi231 rfl rfl rfl rfl (fun hb => ?_) (fun hb => ?_)
            · rw [if_pos (of_decide_eq_true hb)] at h
              refine go_ops aMi231 1 _ (f1 := (122, ([(6, .int (((r82_5.1 + (65536 : Int64)) - (r82_5.1 + (65536 : Int64)) / (65536 : Int64) * (65536 : Int64)).toInt32)), (4, .long r82_5.1), (0, .ref a0), (1, .int i1), (2, .int i2), (3, .int i3)], [.int (0 : Int32), .ref a0]))) rfl ?_
              refine go_le (lv1 := [(0, .ref a0), (1, .int i1), (2, .int i2), (6, .int (((r82_5.1 + (65536 : Int64)) - (r82_5.1 + (65536 : Int64)) / (65536 : Int64) * (65536 : Int64)).toInt32))]) (aLe_of (show (List.map (fun q => q.1) ([(0, .ref a0), (1, .int i1), (2, .int i2), (6, .int (((r82_5.1 + (65536 : Int64)) - (r82_5.1 + (65536 : Int64)) / (65536 : Int64) * (65536 : Int64)).toInt32))] : ALv)).Nodup from (by show ([0, 1, 2, 6] : List Nat).Nodup; decide)) (aSubL_cons rfl (aSubL_cons rfl (aSubL_cons rfl (aSubL_cons rfl aSubL_nil))))) ?_
              exact Tf231_b122 hd a0 i1 i2 (((r82_5.1 + (65536 : Int64)) - (r82_5.1 + (65536 : Int64)) / (65536 : Int64) * (65536 : Int64)).toInt32) (0 : Int32) a0 r82_5.2 _ h
            · rw [if_neg (of_decide_eq_false hb)] at h
              refine go_le (lv1 := [(0, .ref a0), (1, .int i1), (2, .int i2), (6, .int (((r82_5.1 + (65536 : Int64)) - (r82_5.1 + (65536 : Int64)) / (65536 : Int64) * (65536 : Int64)).toInt32))]) (aLe_of (show (List.map (fun q => q.1) ([(0, .ref a0), (1, .int i1), (2, .int i2), (6, .int (((r82_5.1 + (65536 : Int64)) - (r82_5.1 + (65536 : Int64)) / (65536 : Int64) * (65536 : Int64)).toInt32))] : ALv)).Nodup from (by show ([0, 1, 2, 6] : List Nat).Nodup; decide)) (aSubL_cons rfl (aSubL_cons rfl (aSubL_cons rfl (aSubL_cons rfl aSubL_nil))))) ?_
              exact Tf231_b117 hd a0 i1 i2 (((r82_5.1 + (65536 : Int64)) - (r82_5.1 + (65536 : Int64)) / (65536 : Int64) * (65536 : Int64)).toInt32) a0 r82_5.2 _ h
        · rw [if_neg (of_decide_eq_false hb)] at h
          refine go_ops aMi231 3 _ (f1 := (63, ([(0, .ref a0), (1, .int i1), (2, .int i2), (3, .int i3)], [.ref a0, .int i3, .ref a0]))) rfl ?_
          obtain ⟨b63_6, hxb63_6, h⟩ := Option.bind_eq_some_iff.mp h
          refine gg_gR aMi231 rfl rfl rfl hxb63_6 ?_
          refine go_ops aMi231 1 _ (f1 := (67, ([(0, .ref a0), (1, .int i1), (2, .int i2), (3, .int i3)], [.int i2, .ref b63_6, .int i3, .ref a0]))) rfl ?_
          obtain ⟨x67_7, hxx67_7, h⟩ := Option.bind_eq_some_iff.mp h
          refine gg_lI (Or.inl ⟨rfl, rfl⟩) aMi231 rfl hxx67_7 ?_
          obtain ⟨u68_8, hxu68_8, h⟩ := Option.bind_eq_some_iff.mp h
          obtain ⟨r68_9, hxr68_9, h⟩ := Option.bind_eq_some_iff.mp h
          refine gg_cv (as := [.int i3, .int x67_7]) (r := []) aMi231 rfl rfl rfl aMi218 (Nat.le_of_ble_eq_true rfl) rfl (Nat.le_of_ble_eq_true rfl) (Nat.le_of_ble_eq_true rfl) (by omega) hxu68_8 (Tf218 (by omega) a0 i3 x67_7 I17_2 _ hxr68_9) ?_
          show aGo kad d 231 (71, ([(0, .ref a0), (1, .int i1), (2, .int i2), (3, .int i3)], [])) (aMem Z r68_9.2, t) _
          refine go_ops aMi231 1 _ (f1 := (162, ([(0, .ref a0), (1, .int i1), (2, .int i2), (3, .int i3)], []))) rfl ?_
          refine go_le (lv1 := []) (aLe_of (show (List.map (fun q => q.1) ([] : ALv)).Nodup from (by show ([] : List Nat).Nodup; decide)) aSubL_nil) ?_
          exact Tf231_b162 hd  r68_9.2 _ h
      · rw [if_neg (of_decide_eq_false hb)] at h
        refine go_ops aMi231 1 _ (f1 := (41, ([(0, .ref a0), (1, .int i1), (2, .int i2), (3, .int i3)], [.ref a0]))) rfl ?_
        obtain ⟨b41_10, hxb41_10, h⟩ := Option.bind_eq_some_iff.mp h
        refine gg_gR aMi231 rfl rfl rfl hxb41_10 ?_
        refine go_ops aMi231 2 _ (f1 := (46, ([(0, .ref a0), (1, .int i1), (2, .int i2), (3, .int i3)], [.ref a0, .int i2, .ref b41_10]))) rfl ?_
        obtain ⟨b46_11, hxb46_11, h⟩ := Option.bind_eq_some_iff.mp h
        refine gg_gR aMi231 rfl rfl rfl hxb46_11 ?_
        refine go_ops aMi231 1 _ (f1 := (50, ([(0, .ref a0), (1, .int i1), (2, .int i2), (3, .int i3)], [.int i3, .ref b46_11, .int i2, .ref b41_10]))) rfl ?_
        obtain ⟨x50_12, hxx50_12, h⟩ := Option.bind_eq_some_iff.mp h
        refine gg_lI (Or.inl ⟨rfl, rfl⟩) aMi231 rfl hxx50_12 ?_
        obtain ⟨I51_13, hxI51_13, h⟩ := Option.bind_eq_some_iff.mp h
        refine gg_sI (Or.inl ⟨rfl, rfl⟩) aMi231 rfl hxI51_13 ?_
        refine go_ops aMi231 1 _ (f1 := (162, ([(0, .ref a0), (1, .int i1), (2, .int i2), (3, .int i3)], []))) rfl ?_
        refine go_le (lv1 := []) (aLe_of (show (List.map (fun q => q.1) ([] : ALv)).Nodup from (by show ([] : List Nat).Nodup; decide)) aSubL_nil) ?_
        exact Tf231_b162 hd  I51_13 _ h
    · rw [if_neg (of_decide_eq_false hb)] at h
      refine go_ops aMi231 1 _ (f1 := (26, ([(0, .ref a0), (1, .int i1), (2, .int i2), (3, .int i3)], [.ref a0]))) rfl ?_
      obtain ⟨b26_14, hxb26_14, h⟩ := Option.bind_eq_some_iff.mp h
      refine gg_gR aMi231 rfl rfl rfl hxb26_14 ?_
      refine go_ops aMi231 2 _ (f1 := (31, ([(0, .ref a0), (1, .int i1), (2, .int i2), (3, .int i3)], [.int i3, .int i2, .ref b26_14]))) rfl ?_
      obtain ⟨I31_15, hxI31_15, h⟩ := Option.bind_eq_some_iff.mp h
      refine gg_sI (Or.inl ⟨rfl, rfl⟩) aMi231 rfl hxI31_15 ?_
      refine go_ops aMi231 1 _ (f1 := (162, ([(0, .ref a0), (1, .int i1), (2, .int i2), (3, .int i3)], []))) rfl ?_
      refine go_le (lv1 := []) (aLe_of (show (List.map (fun q => q.1) ([] : ALv)).Nodup from (by show ([] : List Nat).Nodup; decide)) aSubL_nil) ?_
      exact Tf231_b162 hd  I31_15 _ h
  · rw [if_neg (of_decide_eq_false hb)] at h
    refine go_ops aMi231 2 _ (f1 := (6, ([(0, .ref a0), (1, .int i1), (2, .int i2), (3, .int i3)], [.int (2 : Int32), .ref a0]))) rfl ?_
    obtain ⟨I6_16, hxI6_16, h⟩ := Option.bind_eq_some_iff.mp h
    refine gg_pI aMi231 rfl rfl rfl rfl (by decide) hxI6_16 ?_
    cases h
    exact go_ret aMi231 rfl rfl ⟨rfl, rfl⟩
-- KernelGymModel.jumps (III)V
def f232_b120 (kad : Nat → Nat) (N : Nat) (Z : AZ)  (I : AI) : Option (Unit × AI) :=
  some ((), I)
set_option maxRecDepth 20000 in
theorem Tf232_b120 {kad : Nat → Nat} {N : Nat} {Z : AZ} {d : Nat} {t : Option Nat × (Nat × Nat)} (hd : 3 ≤ d) : ∀  (I : AI) (r : Unit × AI), f232_b120 kad N Z  I = some r → aGo kad d 232 (120, ([], [])) (aMem Z I, t) (qV Z t r) := by
  intro  I r h
  unfold f232_b120 at h
  cases h
  exact go_ret aMi232 rfl rfl ⟨rfl, rfl⟩
def f232_b101 (kad : Nat → Nat) (N : Nat) (Z : AZ) (a0 : Nat) (i1 : Int32) (i2 : Int32) (s0 : Int32) (s1 : Nat) (I : AI) : Option (Unit × AI) :=
  (pI Z I 11 27 s1 s0).bind fun I101_1 =>
  if ¬ i1 = (18 : Int32) then
    f232_b120 kad N Z  I101_1
  else
    (gR Z I101_1 11 26 a0).bind fun b111_2 =>
    (isK Z a0 11).bind fun u116_3 =>
    (f220 kad N Z a0 I101_1).bind fun r116_4 =>
    (sI Z r116_4.2 100 b111_2 i2 r116_4.1).bind fun I119_5 =>
    f232_b120 kad N Z  I119_5
set_option maxRecDepth 20000 in
theorem Tf232_b101 {kad : Nat → Nat} {N : Nat} {Z : AZ} {d : Nat} {t : Option Nat × (Nat × Nat)} (hd : 3 ≤ d) : ∀ (a0 : Nat) (i1 : Int32) (i2 : Int32) (s0 : Int32) (s1 : Nat) (I : AI) (r : Unit × AI), f232_b101 kad N Z a0 i1 i2 s0 s1 I = some r → aGo kad d 232 (101, ([(0, .ref a0), (1, .int i1), (2, .int i2)], [.int s0, .ref s1])) (aMem Z I, t) (qV Z t r) := by
  intro a0 i1 i2 s0 s1 I r h
  unfold f232_b101 at h
  obtain ⟨I101_1, hxI101_1, h⟩ := Option.bind_eq_some_iff.mp h
  refine gg_pI aMi232 rfl rfl rfl rfl (by decide) hxI101_1 ?_
  refine go_ops aMi232 2 _ (f1 := (107, ([(0, .ref a0), (1, .int i1), (2, .int i2)], [.int (18 : Int32), .int i1]))) rfl ?_
  refine gg_br (b := decide (¬ i1 = (18 : Int32))) (tg := 120) (off := 13) aMi232 rfl rfl rfl rfl (fun hb => ?_) (fun hb => ?_)
  · rw [if_pos (of_decide_eq_true hb)] at h
    refine go_le (lv1 := []) (aLe_of (show (List.map (fun q => q.1) ([] : ALv)).Nodup from (by show ([] : List Nat).Nodup; decide)) aSubL_nil) ?_
    exact Tf232_b120 hd  I101_1 _ h
  · rw [if_neg (of_decide_eq_false hb)] at h
    refine go_ops aMi232 1 _ (f1 := (111, ([(0, .ref a0), (1, .int i1), (2, .int i2)], [.ref a0]))) rfl ?_
    obtain ⟨b111_2, hxb111_2, h⟩ := Option.bind_eq_some_iff.mp h
    refine gg_gR aMi232 rfl rfl rfl hxb111_2 ?_
    refine go_ops aMi232 2 _ (f1 := (116, ([(0, .ref a0), (1, .int i1), (2, .int i2)], [.ref a0, .int i2, .ref b111_2]))) rfl ?_
    obtain ⟨u116_3, hxu116_3, h⟩ := Option.bind_eq_some_iff.mp h
    obtain ⟨r116_4, hxr116_4, h⟩ := Option.bind_eq_some_iff.mp h
    refine gg_cv (as := []) (r := [.int i2, .ref b111_2]) aMi232 rfl rfl rfl aMi220 (Nat.le_of_ble_eq_true rfl) rfl (Nat.le_of_ble_eq_true rfl) (Nat.le_of_ble_eq_true rfl) (by omega) hxu116_3 (Tf220 (by omega) a0 I101_1 _ hxr116_4) ?_
    show aGo kad d 232 (119, ([(0, .ref a0), (1, .int i1), (2, .int i2)], [.int r116_4.1, .int i2, .ref b111_2])) (aMem Z r116_4.2, t) _
    obtain ⟨I119_5, hxI119_5, h⟩ := Option.bind_eq_some_iff.mp h
    refine gg_sI (Or.inl ⟨rfl, rfl⟩) aMi232 rfl hxI119_5 ?_
    refine go_le (lv1 := []) (aLe_of (show (List.map (fun q => q.1) ([] : ALv)).Nodup from (by show ([] : List Nat).Nodup; decide)) aSubL_nil) ?_
    exact Tf232_b120 hd  I119_5 _ h
def f232_b74 (kad : Nat → Nat) (N : Nat) (Z : AZ) (a0 : Nat) (i1 : Int32) (i2 : Int32) (i3 : Int32) (i4 : Int32) (s0 : Int32) (I : AI) : Option (Unit × AI) :=
  if ¬ i1 = (16 : Int32) then
    if s0 = 0 then
      f232_b101 kad N Z a0 i1 i2 i4 a0 I
    else
      f232_b101 kad N Z a0 i1 i2 i3 a0 I
  else
    (isK Z a0 11).bind fun u84_1 =>
    (f220 kad N Z a0 I).bind fun r84_2 =>
    f232_b101 kad N Z a0 i1 i2 r84_2.1 a0 r84_2.2
set_option maxRecDepth 20000 in
theorem Tf232_b74 {kad : Nat → Nat} {N : Nat} {Z : AZ} {d : Nat} {t : Option Nat × (Nat × Nat)} (hd : 3 ≤ d) : ∀ (a0 : Nat) (i1 : Int32) (i2 : Int32) (i3 : Int32) (i4 : Int32) (s0 : Int32) (I : AI) (r : Unit × AI), f232_b74 kad N Z a0 i1 i2 i3 i4 s0 I = some r → aGo kad d 232 (74, ([(0, .ref a0), (1, .int i1), (2, .int i2), (3, .int i3), (4, .int i4)], [.int s0])) (aMem Z I, t) (qV Z t r) := by
  intro a0 i1 i2 i3 i4 s0 I r h
  unfold f232_b74 at h
  refine go_ops aMi232 4 _ (f1 := (80, ([(5, .int s0), (0, .ref a0), (1, .int i1), (2, .int i2), (3, .int i3), (4, .int i4)], [.int (16 : Int32), .int i1, .ref a0]))) rfl ?_
  refine gg_br (b := decide (¬ i1 = (16 : Int32))) (tg := 90) (off := 10) aMi232 rfl rfl rfl rfl (fun hb => ?_) (fun hb => ?_)
  · rw [if_pos (of_decide_eq_true hb)] at h
    refine go_ops aMi232 1 _ (f1 := (92, ([(5, .int s0), (0, .ref a0), (1, .int i1), (2, .int i2), (3, .int i3), (4, .int i4)], [.int s0, .ref a0]))) rfl ?_
    refine gg_br (b := decide (s0 = 0)) (tg := 99) (off := 7) aMi232 rfl rfl rfl rfl (fun hb => ?_) (fun hb => ?_)
    · rw [if_pos (of_decide_eq_true hb)] at h
      refine go_ops aMi232 1 _ (f1 := (101, ([(5, .int s0), (0, .ref a0), (1, .int i1), (2, .int i2), (3, .int i3), (4, .int i4)], [.int i4, .ref a0]))) rfl ?_
      refine go_le (lv1 := [(0, .ref a0), (1, .int i1), (2, .int i2)]) (aLe_of (show (List.map (fun q => q.1) ([(0, .ref a0), (1, .int i1), (2, .int i2)] : ALv)).Nodup from (by show ([0, 1, 2] : List Nat).Nodup; decide)) (aSubL_cons rfl (aSubL_cons rfl (aSubL_cons rfl aSubL_nil)))) ?_
      exact Tf232_b101 hd a0 i1 i2 i4 a0 I _ h
    · rw [if_neg (of_decide_eq_false hb)] at h
      refine go_ops aMi232 2 _ (f1 := (101, ([(5, .int s0), (0, .ref a0), (1, .int i1), (2, .int i2), (3, .int i3), (4, .int i4)], [.int i3, .ref a0]))) rfl ?_
      refine go_le (lv1 := [(0, .ref a0), (1, .int i1), (2, .int i2)]) (aLe_of (show (List.map (fun q => q.1) ([(0, .ref a0), (1, .int i1), (2, .int i2)] : ALv)).Nodup from (by show ([0, 1, 2] : List Nat).Nodup; decide)) (aSubL_cons rfl (aSubL_cons rfl (aSubL_cons rfl aSubL_nil)))) ?_
      exact Tf232_b101 hd a0 i1 i2 i3 a0 I _ h
  · rw [if_neg (of_decide_eq_false hb)] at h
    refine go_ops aMi232 1 _ (f1 := (84, ([(5, .int s0), (0, .ref a0), (1, .int i1), (2, .int i2), (3, .int i3), (4, .int i4)], [.ref a0, .ref a0]))) rfl ?_
    obtain ⟨u84_1, hxu84_1, h⟩ := Option.bind_eq_some_iff.mp h
    obtain ⟨r84_2, hxr84_2, h⟩ := Option.bind_eq_some_iff.mp h
    refine gg_cv (as := []) (r := [.ref a0]) aMi232 rfl rfl rfl aMi220 (Nat.le_of_ble_eq_true rfl) rfl (Nat.le_of_ble_eq_true rfl) (Nat.le_of_ble_eq_true rfl) (by omega) hxu84_1 (Tf220 (by omega) a0 I _ hxr84_2) ?_
    show aGo kad d 232 (87, ([(5, .int s0), (0, .ref a0), (1, .int i1), (2, .int i2), (3, .int i3), (4, .int i4)], [.int r84_2.1, .ref a0])) (aMem Z r84_2.2, t) _
    refine go_ops aMi232 1 _ (f1 := (101, ([(5, .int s0), (0, .ref a0), (1, .int i1), (2, .int i2), (3, .int i3), (4, .int i4)], [.int r84_2.1, .ref a0]))) rfl ?_
    refine go_le (lv1 := [(0, .ref a0), (1, .int i1), (2, .int i2)]) (aLe_of (show (List.map (fun q => q.1) ([(0, .ref a0), (1, .int i1), (2, .int i2)] : ALv)).Nodup from (by show ([0, 1, 2] : List Nat).Nodup; decide)) (aSubL_cons rfl (aSubL_cons rfl (aSubL_cons rfl aSubL_nil)))) ?_
    exact Tf232_b101 hd a0 i1 i2 r84_2.1 a0 r84_2.2 _ h
def f232_b69 (kad : Nat → Nat) (N : Nat) (Z : AZ) (a0 : Nat) (i1 : Int32) (i2 : Int32) (i3 : Int32) (i4 : Int32) (I : AI) : Option (Unit × AI) :=
  f232_b74 kad N Z a0 i1 i2 i3 i4 (1 : Int32) I
set_option maxRecDepth 20000 in
theorem Tf232_b69 {kad : Nat → Nat} {N : Nat} {Z : AZ} {d : Nat} {t : Option Nat × (Nat × Nat)} (hd : 3 ≤ d) : ∀ (a0 : Nat) (i1 : Int32) (i2 : Int32) (i3 : Int32) (i4 : Int32) (I : AI) (r : Unit × AI), f232_b69 kad N Z a0 i1 i2 i3 i4 I = some r → aGo kad d 232 (69, ([(0, .ref a0), (1, .int i1), (2, .int i2), (3, .int i3), (4, .int i4)], [])) (aMem Z I, t) (qV Z t r) := by
  intro a0 i1 i2 i3 i4 I r h
  unfold f232_b69 at h
  refine go_ops aMi232 2 _ (f1 := (74, ([(0, .ref a0), (1, .int i1), (2, .int i2), (3, .int i3), (4, .int i4)], [.int (1 : Int32)]))) rfl ?_
  exact Tf232_b74 hd a0 i1 i2 i3 i4 (1 : Int32) I _ h
def f232_b73 (kad : Nat → Nat) (N : Nat) (Z : AZ) (a0 : Nat) (i1 : Int32) (i2 : Int32) (i3 : Int32) (i4 : Int32) (I : AI) : Option (Unit × AI) :=
  f232_b74 kad N Z a0 i1 i2 i3 i4 (0 : Int32) I
set_option maxRecDepth 20000 in
theorem Tf232_b73 {kad : Nat → Nat} {N : Nat} {Z : AZ} {d : Nat} {t : Option Nat × (Nat × Nat)} (hd : 3 ≤ d) : ∀ (a0 : Nat) (i1 : Int32) (i2 : Int32) (i3 : Int32) (i4 : Int32) (I : AI) (r : Unit × AI), f232_b73 kad N Z a0 i1 i2 i3 i4 I = some r → aGo kad d 232 (73, ([(0, .ref a0), (1, .int i1), (2, .int i2), (3, .int i3), (4, .int i4)], [])) (aMem Z I, t) (qV Z t r) := by
  intro a0 i1 i2 i3 i4 I r h
  unfold f232_b73 at h
  refine go_ops aMi232 1 _ (f1 := (74, ([(0, .ref a0), (1, .int i1), (2, .int i2), (3, .int i3), (4, .int i4)], [.int (0 : Int32)]))) rfl ?_
  exact Tf232_b74 hd a0 i1 i2 i3 i4 (0 : Int32) I _ h
def f232_b56 (kad : Nat → Nat) (N : Nat) (Z : AZ) (a0 : Nat) (i1 : Int32) (i2 : Int32) (i3 : Int32) (i4 : Int32) (I : AI) : Option (Unit × AI) :=
  if ¬ i1 = (14 : Int32) then
    f232_b73 kad N Z a0 i1 i2 i3 i4 I
  else
    (gI Z I 11 30 a0).bind fun x63_1 =>
    if x63_1 = 0 then
      f232_b73 kad N Z a0 i1 i2 i3 i4 I
    else
      f232_b69 kad N Z a0 i1 i2 i3 i4 I
set_option maxRecDepth 20000 in
theorem Tf232_b56 {kad : Nat → Nat} {N : Nat} {Z : AZ} {d : Nat} {t : Option Nat × (Nat × Nat)} (hd : 3 ≤ d) : ∀ (a0 : Nat) (i1 : Int32) (i2 : Int32) (i3 : Int32) (i4 : Int32) (I : AI) (r : Unit × AI), f232_b56 kad N Z a0 i1 i2 i3 i4 I = some r → aGo kad d 232 (56, ([(0, .ref a0), (1, .int i1), (2, .int i2), (3, .int i3), (4, .int i4)], [])) (aMem Z I, t) (qV Z t r) := by
  intro a0 i1 i2 i3 i4 I r h
  unfold f232_b56 at h
  refine go_ops aMi232 2 _ (f1 := (59, ([(0, .ref a0), (1, .int i1), (2, .int i2), (3, .int i3), (4, .int i4)], [.int (14 : Int32), .int i1]))) rfl ?_
  refine gg_br (b := decide (¬ i1 = (14 : Int32))) (tg := 73) (off := 14) aMi232 rfl rfl rfl rfl (fun hb => ?_) (fun hb => ?_)
  · rw [if_pos (of_decide_eq_true hb)] at h
    exact Tf232_b73 hd a0 i1 i2 i3 i4 I _ h
  · rw [if_neg (of_decide_eq_false hb)] at h
    refine go_ops aMi232 1 _ (f1 := (63, ([(0, .ref a0), (1, .int i1), (2, .int i2), (3, .int i3), (4, .int i4)], [.ref a0]))) rfl ?_
    obtain ⟨x63_1, hxx63_1, h⟩ := Option.bind_eq_some_iff.mp h
    refine gg_gI aMi232 rfl rfl rfl hxx63_1 ?_
    refine gg_br (b := decide (x63_1 = 0)) (tg := 73) (off := 7) aMi232 rfl rfl rfl rfl (fun hb => ?_) (fun hb => ?_)
    · rw [if_pos (of_decide_eq_true hb)] at h
      exact Tf232_b73 hd a0 i1 i2 i3 i4 I _ h
    · rw [if_neg (of_decide_eq_false hb)] at h
      exact Tf232_b69 hd a0 i1 i2 i3 i4 I _ h
def f232_b31 (kad : Nat → Nat) (N : Nat) (Z : AZ) (a0 : Nat) (i1 : Int32) (i2 : Int32) (i3 : Int32) (i4 : Int32) (I : AI) : Option (Unit × AI) :=
  if i1 = (12 : Int32) then
    f232_b69 kad N Z a0 i1 i2 i3 i4 I
  else
    if i1 = (15 : Int32) then
      f232_b69 kad N Z a0 i1 i2 i3 i4 I
    else
      if ¬ i1 = (13 : Int32) then
        f232_b56 kad N Z a0 i1 i2 i3 i4 I
      else
        (gI Z I 11 29 a0).bind fun x50_1 =>
        if ¬ x50_1 = 0 then
          f232_b69 kad N Z a0 i1 i2 i3 i4 I
        else
          f232_b56 kad N Z a0 i1 i2 i3 i4 I
set_option maxRecDepth 20000 in
theorem Tf232_b31 {kad : Nat → Nat} {N : Nat} {Z : AZ} {d : Nat} {t : Option Nat × (Nat × Nat)} (hd : 3 ≤ d) : ∀ (a0 : Nat) (i1 : Int32) (i2 : Int32) (i3 : Int32) (i4 : Int32) (I : AI) (r : Unit × AI), f232_b31 kad N Z a0 i1 i2 i3 i4 I = some r → aGo kad d 232 (31, ([(0, .ref a0), (1, .int i1), (2, .int i2), (3, .int i3), (4, .int i4)], [])) (aMem Z I, t) (qV Z t r) := by
  intro a0 i1 i2 i3 i4 I r h
  unfold f232_b31 at h
  refine go_ops aMi232 2 _ (f1 := (34, ([(0, .ref a0), (1, .int i1), (2, .int i2), (3, .int i3), (4, .int i4)], [.int (12 : Int32), .int i1]))) rfl ?_
  refine gg_br (b := decide (i1 = (12 : Int32))) (tg := 69) (off := 35) aMi232 rfl rfl rfl rfl (fun hb => ?_) (fun hb => ?_)
  · rw [if_pos (of_decide_eq_true hb)] at h
    exact Tf232_b69 hd a0 i1 i2 i3 i4 I _ h
  · rw [if_neg (of_decide_eq_false hb)] at h
    refine go_ops aMi232 2 _ (f1 := (40, ([(0, .ref a0), (1, .int i1), (2, .int i2), (3, .int i3), (4, .int i4)], [.int (15 : Int32), .int i1]))) rfl ?_
    refine gg_br (b := decide (i1 = (15 : Int32))) (tg := 69) (off := 29) aMi232 rfl rfl rfl rfl (fun hb => ?_) (fun hb => ?_)
    · rw [if_pos (of_decide_eq_true hb)] at h
      exact Tf232_b69 hd a0 i1 i2 i3 i4 I _ h
    · rw [if_neg (of_decide_eq_false hb)] at h
      refine go_ops aMi232 2 _ (f1 := (46, ([(0, .ref a0), (1, .int i1), (2, .int i2), (3, .int i3), (4, .int i4)], [.int (13 : Int32), .int i1]))) rfl ?_
      refine gg_br (b := decide (¬ i1 = (13 : Int32))) (tg := 56) (off := 10) aMi232 rfl rfl rfl rfl (fun hb => ?_) (fun hb => ?_)
      · rw [if_pos (of_decide_eq_true hb)] at h
        exact Tf232_b56 hd a0 i1 i2 i3 i4 I _ h
      · rw [if_neg (of_decide_eq_false hb)] at h
        refine go_ops aMi232 1 _ (f1 := (50, ([(0, .ref a0), (1, .int i1), (2, .int i2), (3, .int i3), (4, .int i4)], [.ref a0]))) rfl ?_
        obtain ⟨x50_1, hxx50_1, h⟩ := Option.bind_eq_some_iff.mp h
        refine gg_gI aMi232 rfl rfl rfl hxx50_1 ?_
        refine gg_br (b := decide (¬ x50_1 = 0)) (tg := 69) (off := 16) aMi232 rfl rfl rfl rfl (fun hb => ?_) (fun hb => ?_)
        · rw [if_pos (of_decide_eq_true hb)] at h
          exact Tf232_b69 hd a0 i1 i2 i3 i4 I _ h
        · rw [if_neg (of_decide_eq_false hb)] at h
          exact Tf232_b56 hd a0 i1 i2 i3 i4 I _ h
def f232_b20 (kad : Nat → Nat) (N : Nat) (Z : AZ) (a0 : Nat) (i1 : Int32) (i2 : Int32) (i3 : Int32) (i4 : Int32) (I : AI) : Option (Unit × AI) :=
  if ¬ i1 = (17 : Int32) then
    f232_b31 kad N Z a0 i1 i2 i3 i4 I
  else
    (isK Z a0 11).bind fun u28_1 =>
    (f219 kad N Z a0 i3 I).bind fun r28_2 =>
    f232_b31 kad N Z a0 i1 i2 i3 i4 r28_2.2
set_option maxRecDepth 20000 in
theorem Tf232_b20 {kad : Nat → Nat} {N : Nat} {Z : AZ} {d : Nat} {t : Option Nat × (Nat × Nat)} (hd : 3 ≤ d) : ∀ (a0 : Nat) (i1 : Int32) (i2 : Int32) (i3 : Int32) (i4 : Int32) (I : AI) (r : Unit × AI), f232_b20 kad N Z a0 i1 i2 i3 i4 I = some r → aGo kad d 232 (20, ([(0, .ref a0), (1, .int i1), (2, .int i2), (3, .int i3), (4, .int i4)], [])) (aMem Z I, t) (qV Z t r) := by
  intro a0 i1 i2 i3 i4 I r h
  unfold f232_b20 at h
  refine go_ops aMi232 2 _ (f1 := (23, ([(0, .ref a0), (1, .int i1), (2, .int i2), (3, .int i3), (4, .int i4)], [.int (17 : Int32), .int i1]))) rfl ?_
  refine gg_br (b := decide (¬ i1 = (17 : Int32))) (tg := 31) (off := 8) aMi232 rfl rfl rfl rfl (fun hb => ?_) (fun hb => ?_)
  · rw [if_pos (of_decide_eq_true hb)] at h
    exact Tf232_b31 hd a0 i1 i2 i3 i4 I _ h
  · rw [if_neg (of_decide_eq_false hb)] at h
    refine go_ops aMi232 2 _ (f1 := (28, ([(0, .ref a0), (1, .int i1), (2, .int i2), (3, .int i3), (4, .int i4)], [.int i3, .ref a0]))) rfl ?_
    obtain ⟨u28_1, hxu28_1, h⟩ := Option.bind_eq_some_iff.mp h
    obtain ⟨r28_2, hxr28_2, h⟩ := Option.bind_eq_some_iff.mp h
    refine gg_cv (as := [.int i3]) (r := []) aMi232 rfl rfl rfl aMi219 (Nat.le_of_ble_eq_true rfl) rfl (Nat.le_of_ble_eq_true rfl) (Nat.le_of_ble_eq_true rfl) (by omega) hxu28_1 (Tf219 (by omega) a0 i3 I _ hxr28_2) ?_
    show aGo kad d 232 (31, ([(0, .ref a0), (1, .int i1), (2, .int i2), (3, .int i3), (4, .int i4)], [])) (aMem Z r28_2.2, t) _
    exact Tf232_b31 hd a0 i1 i2 i3 i4 r28_2.2 _ h
def f232 (kad : Nat → Nat) (N : Nat) (Z : AZ) (a0 : Nat) (i1 : Int32) (i2 : Int32) (i3 : Int32) (I : AI) : Option (Unit × AI) :=
  (gI Z I 11 27 a0).bind fun x1_1 =>
  if ¬ i1 = (15 : Int32) then
    f232_b20 kad N Z a0 i1 i2 i3 (x1_1 + (2 : Int32)) I
  else
    (isK Z a0 11).bind fun u17_2 =>
    (f219 kad N Z a0 (x1_1 + (2 : Int32)) I).bind fun r17_3 =>
    f232_b20 kad N Z a0 i1 i2 i3 (x1_1 + (2 : Int32)) r17_3.2
set_option maxRecDepth 20000 in
theorem Tf232 {kad : Nat → Nat} {N : Nat} {Z : AZ} {d : Nat} {t : Option Nat × (Nat × Nat)} (hd : 3 ≤ d) : ∀ (a0 : Nat) (i1 : Int32) (i2 : Int32) (i3 : Int32) (I : AI) (r : Unit × AI), f232 kad N Z a0 i1 i2 i3 I = some r → aGo kad d 232 (0, ([(0, .ref a0), (1, .int i1), (2, .int i2), (3, .int i3)], [])) (aMem Z I, t) (qV Z t r) := by
  intro a0 i1 i2 i3 I r h
  unfold f232 at h
  refine go_ops aMi232 1 _ (f1 := (1, ([(0, .ref a0), (1, .int i1), (2, .int i2), (3, .int i3)], [.ref a0]))) rfl ?_
  obtain ⟨x1_1, hxx1_1, h⟩ := Option.bind_eq_some_iff.mp h
  refine gg_gI aMi232 rfl rfl rfl hxx1_1 ?_
  refine go_ops aMi232 5 _ (f1 := (11, ([(4, .int (x1_1 + (2 : Int32))), (0, .ref a0), (1, .int i1), (2, .int i2), (3, .int i3)], [.int (15 : Int32), .int i1]))) rfl ?_
  refine gg_br (b := decide (¬ i1 = (15 : Int32))) (tg := 20) (off := 9) aMi232 rfl rfl rfl rfl (fun hb => ?_) (fun hb => ?_)
  · rw [if_pos (of_decide_eq_true hb)] at h
    refine go_le (lv1 := [(0, .ref a0), (1, .int i1), (2, .int i2), (3, .int i3), (4, .int (x1_1 + (2 : Int32)))]) (aLe_of (show (List.map (fun q => q.1) ([(0, .ref a0), (1, .int i1), (2, .int i2), (3, .int i3), (4, .int (x1_1 + (2 : Int32)))] : ALv)).Nodup from (by show ([0, 1, 2, 3, 4] : List Nat).Nodup; decide)) (aSubL_cons rfl (aSubL_cons rfl (aSubL_cons rfl (aSubL_cons rfl (aSubL_cons rfl aSubL_nil)))))) ?_
    exact Tf232_b20 hd a0 i1 i2 i3 (x1_1 + (2 : Int32)) I _ h
  · rw [if_neg (of_decide_eq_false hb)] at h
    refine go_ops aMi232 2 _ (f1 := (17, ([(4, .int (x1_1 + (2 : Int32))), (0, .ref a0), (1, .int i1), (2, .int i2), (3, .int i3)], [.int (x1_1 + (2 : Int32)), .ref a0]))) rfl ?_
    obtain ⟨u17_2, hxu17_2, h⟩ := Option.bind_eq_some_iff.mp h
    obtain ⟨r17_3, hxr17_3, h⟩ := Option.bind_eq_some_iff.mp h
    refine gg_cv (as := [.int (x1_1 + (2 : Int32))]) (r := []) aMi232 rfl rfl rfl aMi219 (Nat.le_of_ble_eq_true rfl) rfl (Nat.le_of_ble_eq_true rfl) (Nat.le_of_ble_eq_true rfl) (by omega) hxu17_2 (Tf219 (by omega) a0 (x1_1 + (2 : Int32)) I _ hxr17_3) ?_
    show aGo kad d 232 (20, ([(4, .int (x1_1 + (2 : Int32))), (0, .ref a0), (1, .int i1), (2, .int i2), (3, .int i3)], [])) (aMem Z r17_3.2, t) _
    refine go_le (lv1 := [(0, .ref a0), (1, .int i1), (2, .int i2), (3, .int i3), (4, .int (x1_1 + (2 : Int32)))]) (aLe_of (show (List.map (fun q => q.1) ([(0, .ref a0), (1, .int i1), (2, .int i2), (3, .int i3), (4, .int (x1_1 + (2 : Int32)))] : ALv)).Nodup from (by show ([0, 1, 2, 3, 4] : List Nat).Nodup; decide)) (aSubL_cons rfl (aSubL_cons rfl (aSubL_cons rfl (aSubL_cons rfl (aSubL_cons rfl aSubL_nil)))))) ?_
    exact Tf232_b20 hd a0 i1 i2 i3 (x1_1 + (2 : Int32)) r17_3.2 _ h
-- KernelGymModel.entry (I)I
def f235 (kad : Nat → Nat) (N : Nat) (Z : AZ) (i0 : Int32) (I : AI) : Option (Int32 × AI) :=
  some (((40 : Int32) + ((4 : Int32) * i0)), I)
set_option maxRecDepth 20000 in
theorem Tf235 {kad : Nat → Nat} {N : Nat} {Z : AZ} {d : Nat} {t : Option Nat × (Nat × Nat)} (hd : 0 ≤ d) : ∀ (i0 : Int32) (I : AI) (r : Int32 × AI), f235 kad N Z i0 I = some r → aGo kad d 235 (0, ([(0, .int i0)], [])) (aMem Z I, t) (qI Z t r) := by
  intro i0 I r h
  unfold f235 at h
  refine go_ops aMi235 5 _ (f1 := (6, ([(0, .int i0)], [.int ((40 : Int32) + ((4 : Int32) * i0))]))) rfl ?_
  cases h
  exact go_ret aMi235 rfl aRetI ⟨rfl, rfl⟩
-- KernelGymModel.find ([II)I
def f236_b2 (kad : Nat → Nat) (N : Nat) (Z : AZ) : Nat → Nat → Int32 → Int32 → AI → Option (Int32 × AI)
  | 0, _, _, _, _ => none
  | F + 1, a0, i1, i2, I =>
    if (6 : Int32) ≤ i2 then
      some ((Int32.ofInt (-1)), I)
    else
      (f235 kad N Z i2 I).bind fun r10_1 =>
      (lI Z r10_1.2 100 a0 r10_1.1).bind fun x13_2 =>
      if ¬ x13_2 = i1 then
        f236_b2 kad N Z F a0 i1 (i2 + (1 : Int32)) r10_1.2
      else
        some (i2, r10_1.2)
set_option maxRecDepth 20000 in
theorem Tf236_b2 {kad : Nat → Nat} {N : Nat} {Z : AZ} {d : Nat} {t : Option Nat × (Nat × Nat)} (hd : 1 ≤ d) : ∀ (F : Nat) (a0 : Nat) (i1 : Int32) (i2 : Int32) (I : AI) (r : Int32 × AI), f236_b2 kad N Z F a0 i1 i2 I = some r → aGo kad d 236 (2, ([(0, .ref a0), (1, .int i1), (2, .int i2)], [])) (aMem Z I, t) (qI Z t r) := by
  intro F
  induction F with
  | zero => intro a0 i1 i2 I r h; cases h
  | succ F ih =>
    intro a0 i1 i2 I r h
    unfold f236_b2 at h
    refine go_ops aMi236 2 _ (f1 := (5, ([(0, .ref a0), (1, .int i1), (2, .int i2)], [.int (6 : Int32), .int i2]))) rfl ?_
    refine gg_br (b := decide ((6 : Int32) ≤ i2)) (tg := 26) (off := 21) aMi236 rfl rfl rfl rfl (fun hb => ?_) (fun hb => ?_)
    · rw [if_pos (of_decide_eq_true hb)] at h
      refine go_ops aMi236 1 _ (f1 := (27, ([(0, .ref a0), (1, .int i1), (2, .int i2)], [.int (Int32.ofInt (-1))]))) rfl ?_
      cases h
      exact go_ret aMi236 rfl aRetI ⟨rfl, rfl⟩
    · rw [if_neg (of_decide_eq_false hb)] at h
      refine go_ops aMi236 2 _ (f1 := (10, ([(0, .ref a0), (1, .int i1), (2, .int i2)], [.int i2, .ref a0]))) rfl ?_
      obtain ⟨r10_1, hxr10_1, h⟩ := Option.bind_eq_some_iff.mp h
      refine gg_cs (as := [.int i2]) (r := [.ref a0]) aMi236 rfl rfl rfl aMi235 rfl (Nat.le_of_ble_eq_true rfl) (Nat.le_of_ble_eq_true rfl) (by omega) (Tf235 (by omega) i2 I _ hxr10_1) ?_
      show aGo kad d 236 (13, ([(0, .ref a0), (1, .int i1), (2, .int i2)], [.int r10_1.1, .ref a0])) (aMem Z r10_1.2, t) _
      obtain ⟨x13_2, hxx13_2, h⟩ := Option.bind_eq_some_iff.mp h
      refine gg_lI (Or.inl ⟨rfl, rfl⟩) aMi236 rfl hxx13_2 ?_
      refine go_ops aMi236 1 _ (f1 := (15, ([(0, .ref a0), (1, .int i1), (2, .int i2)], [.int i1, .int x13_2]))) rfl ?_
      refine gg_br (b := decide (¬ x13_2 = i1)) (tg := 20) (off := 5) aMi236 rfl rfl rfl rfl (fun hb => ?_) (fun hb => ?_)
      · rw [if_pos (of_decide_eq_true hb)] at h
        refine go_ops aMi236 2 _ (f1 := (2, ([(2, .int (i2 + (1 : Int32))), (0, .ref a0), (1, .int i1)], []))) rfl ?_
        refine go_le (lv1 := [(0, .ref a0), (1, .int i1), (2, .int (i2 + (1 : Int32)))]) (aLe_of (show (List.map (fun q => q.1) ([(0, .ref a0), (1, .int i1), (2, .int (i2 + (1 : Int32)))] : ALv)).Nodup from (by show ([0, 1, 2] : List Nat).Nodup; decide)) (aSubL_cons rfl (aSubL_cons rfl (aSubL_cons rfl aSubL_nil)))) ?_
        exact ih a0 i1 (i2 + (1 : Int32)) r10_1.2 _ h
      · rw [if_neg (of_decide_eq_false hb)] at h
        refine go_ops aMi236 1 _ (f1 := (19, ([(0, .ref a0), (1, .int i1), (2, .int i2)], [.int i2]))) rfl ?_
        cases h
        exact go_ret aMi236 rfl aRetI ⟨rfl, rfl⟩
def f236 (kad : Nat → Nat) (N : Nat) (Z : AZ) (a0 : Nat) (i1 : Int32) (I : AI) : Option (Int32 × AI) :=
  f236_b2 kad N Z N a0 i1 (0 : Int32) I
set_option maxRecDepth 20000 in
theorem Tf236 {kad : Nat → Nat} {N : Nat} {Z : AZ} {d : Nat} {t : Option Nat × (Nat × Nat)} (hd : 1 ≤ d) : ∀ (a0 : Nat) (i1 : Int32) (I : AI) (r : Int32 × AI), f236 kad N Z a0 i1 I = some r → aGo kad d 236 (0, ([(0, .ref a0), (1, .int i1)], [])) (aMem Z I, t) (qI Z t r) := by
  intro a0 i1 I r h
  unfold f236 at h
  refine go_ops aMi236 2 _ (f1 := (2, ([(2, .int (0 : Int32)), (0, .ref a0), (1, .int i1)], []))) rfl ?_
  refine go_le (lv1 := [(0, .ref a0), (1, .int i1), (2, .int (0 : Int32))]) (aLe_of (show (List.map (fun q => q.1) ([(0, .ref a0), (1, .int i1), (2, .int (0 : Int32))] : ALv)).Nodup from (by show ([0, 1, 2] : List Nat).Nodup; decide)) (aSubL_cons rfl (aSubL_cons rfl (aSubL_cons rfl aSubL_nil)))) ?_
  exact Tf236_b2 hd N a0 i1 (0 : Int32) I _ h
-- KernelGymModel.isUsed ([II)Z
def f237_b25 (kad : Nat → Nat) (N : Nat) (Z : AZ) (s0 : Int32) (I : AI) : Option (Int32 × AI) :=
  if s0 = 0 ∨ s0 = 1 then some (s0, I) else none
set_option maxRecDepth 20000 in
theorem Tf237_b25 {kad : Nat → Nat} {N : Nat} {Z : AZ} {d : Nat} {t : Option Nat × (Nat × Nat)} (hd : 0 ≤ d) : ∀ (s0 : Int32) (I : AI) (r : Int32 × AI), f237_b25 kad N Z s0 I = some r → aGo kad d 237 (25, ([], [.int s0])) (aMem Z I, t) (qI Z t r) := by
  intro s0 I r h
  unfold f237_b25 at h
  split at h
  · rename_i hz
    cases h
    exact go_ret aMi237 rfl (aRetZ hz) ⟨rfl, rfl⟩
  · cases h
def f237 (kad : Nat → Nat) (N : Nat) (Z : AZ) (a0 : Nat) (i1 : Int32) (I : AI) : Option (Int32 × AI) :=
  (lI Z I 100 a0 ((32 : Int32) + (i1 / (16 : Int32)))).bind fun x8_1 =>
  if ¬ ((x8_1 >>> ((i1 - i1 / (16 : Int32) * (16 : Int32)) &&& 31)) &&& (1 : Int32)) = (1 : Int32) then
    f237_b25 kad N Z (0 : Int32) I
  else
    f237_b25 kad N Z (1 : Int32) I
set_option maxRecDepth 20000 in
theorem Tf237 {kad : Nat → Nat} {N : Nat} {Z : AZ} {d : Nat} {t : Option Nat × (Nat × Nat)} (hd : 0 ≤ d) : ∀ (a0 : Nat) (i1 : Int32) (I : AI) (r : Int32 × AI), f237 kad N Z a0 i1 I = some r → aGo kad d 237 (0, ([(0, .ref a0), (1, .int i1)], [])) (aMem Z I, t) (qI Z t r) := by
  intro a0 i1 I r h
  unfold f237 at h
  refine go_ops aMi237 6 _ (f1 := (8, ([(0, .ref a0), (1, .int i1)], [.int ((32 : Int32) + (i1 / (16 : Int32))), .ref a0]))) rfl ?_
  obtain ⟨x8_1, hxx8_1, h⟩ := Option.bind_eq_some_iff.mp h
  refine gg_lI (Or.inl ⟨rfl, rfl⟩) aMi237 rfl hxx8_1 ?_
  refine go_ops aMi237 7 _ (f1 := (17, ([(0, .ref a0), (1, .int i1)], [.int (1 : Int32), .int ((x8_1 >>> ((i1 - i1 / (16 : Int32) * (16 : Int32)) &&& 31)) &&& (1 : Int32))]))) rfl ?_
  refine gg_br (b := decide (¬ ((x8_1 >>> ((i1 - i1 / (16 : Int32) * (16 : Int32)) &&& 31)) &&& (1 : Int32)) = (1 : Int32))) (tg := 24) (off := 7) aMi237 rfl rfl rfl rfl (fun hb => ?_) (fun hb => ?_)
  · rw [if_pos (of_decide_eq_true hb)] at h
    refine go_ops aMi237 1 _ (f1 := (25, ([(0, .ref a0), (1, .int i1)], [.int (0 : Int32)]))) rfl ?_
    refine go_le (lv1 := []) (aLe_of (show (List.map (fun q => q.1) ([] : ALv)).Nodup from (by show ([] : List Nat).Nodup; decide)) aSubL_nil) ?_
    exact Tf237_b25 hd (0 : Int32) I _ h
  · rw [if_neg (of_decide_eq_false hb)] at h
    refine go_ops aMi237 2 _ (f1 := (25, ([(0, .ref a0), (1, .int i1)], [.int (1 : Int32)]))) rfl ?_
    refine go_le (lv1 := []) (aLe_of (show (List.map (fun q => q.1) ([] : ALv)).Nodup from (by show ([] : List Nat).Nodup; decide)) aSubL_nil) ?_
    exact Tf237_b25 hd (1 : Int32) I _ h
-- KernelGymModel.freeBlock ()I
def f239_b3 (kad : Nat → Nat) (N : Nat) (Z : AZ) : Nat → Nat → Int32 → AI → Option (Int32 × AI)
  | 0, _, _, _ => none
  | F + 1, a0, i1, I =>
    if (32 : Int32) ≤ i1 then
      some ((Int32.ofInt (-1)), I)
    else
      (gR Z I 11 50 a0).bind fun b10_1 =>
      (f237 kad N Z b10_1 i1 I).bind fun r14_2 =>
      if ¬ r14_2.1 = 0 then
        f239_b3 kad N Z F a0 (i1 + (1 : Int32)) r14_2.2
      else
        some (i1, r14_2.2)
set_option maxRecDepth 20000 in
theorem Tf239_b3 {kad : Nat → Nat} {N : Nat} {Z : AZ} {d : Nat} {t : Option Nat × (Nat × Nat)} (hd : 1 ≤ d) : ∀ (F : Nat) (a0 : Nat) (i1 : Int32) (I : AI) (r : Int32 × AI), f239_b3 kad N Z F a0 i1 I = some r → aGo kad d 239 (3, ([(0, .ref a0), (1, .int i1)], [])) (aMem Z I, t) (qI Z t r) := by
  intro F
  induction F with
  | zero => intro a0 i1 I r h; cases h
  | succ F ih =>
    intro a0 i1 I r h
    unfold f239_b3 at h
    refine go_ops aMi239 2 _ (f1 := (6, ([(0, .ref a0), (1, .int i1)], [.int (32 : Int32), .int i1]))) rfl ?_
    refine gg_br (b := decide ((32 : Int32) ≤ i1)) (tg := 28) (off := 22) aMi239 rfl rfl rfl rfl (fun hb => ?_) (fun hb => ?_)
    · rw [if_pos (of_decide_eq_true hb)] at h
      refine go_ops aMi239 1 _ (f1 := (29, ([(0, .ref a0), (1, .int i1)], [.int (Int32.ofInt (-1))]))) rfl ?_
      cases h
      exact go_ret aMi239 rfl aRetI ⟨rfl, rfl⟩
    · rw [if_neg (of_decide_eq_false hb)] at h
      refine go_ops aMi239 1 _ (f1 := (10, ([(0, .ref a0), (1, .int i1)], [.ref a0]))) rfl ?_
      obtain ⟨b10_1, hxb10_1, h⟩ := Option.bind_eq_some_iff.mp h
      refine gg_gR aMi239 rfl rfl rfl hxb10_1 ?_
      refine go_ops aMi239 1 _ (f1 := (14, ([(0, .ref a0), (1, .int i1)], [.int i1, .ref b10_1]))) rfl ?_
      obtain ⟨r14_2, hxr14_2, h⟩ := Option.bind_eq_some_iff.mp h
      refine gg_cs (as := [.ref b10_1, .int i1]) (r := []) aMi239 rfl rfl rfl aMi237 rfl (Nat.le_of_ble_eq_true rfl) (Nat.le_of_ble_eq_true rfl) (by omega) (Tf237 (by omega) b10_1 i1 I _ hxr14_2) ?_
      show aGo kad d 239 (17, ([(0, .ref a0), (1, .int i1)], [.int r14_2.1])) (aMem Z r14_2.2, t) _
      refine gg_br (b := decide (¬ r14_2.1 = 0)) (tg := 22) (off := 5) aMi239 rfl rfl rfl rfl (fun hb => ?_) (fun hb => ?_)
      · rw [if_pos (of_decide_eq_true hb)] at h
        refine go_ops aMi239 2 _ (f1 := (3, ([(1, .int (i1 + (1 : Int32))), (0, .ref a0)], []))) rfl ?_
        refine go_le (lv1 := [(0, .ref a0), (1, .int (i1 + (1 : Int32)))]) (aLe_of (show (List.map (fun q => q.1) ([(0, .ref a0), (1, .int (i1 + (1 : Int32)))] : ALv)).Nodup from (by show ([0, 1] : List Nat).Nodup; decide)) (aSubL_cons rfl (aSubL_cons rfl aSubL_nil))) ?_
        exact ih a0 (i1 + (1 : Int32)) r14_2.2 _ h
      · rw [if_neg (of_decide_eq_false hb)] at h
        refine go_ops aMi239 1 _ (f1 := (21, ([(0, .ref a0), (1, .int i1)], [.int i1]))) rfl ?_
        cases h
        exact go_ret aMi239 rfl aRetI ⟨rfl, rfl⟩
def f239 (kad : Nat → Nat) (N : Nat) (Z : AZ) (a0 : Nat) (I : AI) : Option (Int32 × AI) :=
  f239_b3 kad N Z N a0 (8 : Int32) I
set_option maxRecDepth 20000 in
theorem Tf239 {kad : Nat → Nat} {N : Nat} {Z : AZ} {d : Nat} {t : Option Nat × (Nat × Nat)} (hd : 1 ≤ d) : ∀ (a0 : Nat) (I : AI) (r : Int32 × AI), f239 kad N Z a0 I = some r → aGo kad d 239 (0, ([(0, .ref a0)], [])) (aMem Z I, t) (qI Z t r) := by
  intro a0 I r h
  unfold f239 at h
  refine go_ops aMi239 2 _ (f1 := (3, ([(1, .int (8 : Int32)), (0, .ref a0)], []))) rfl ?_
  refine go_le (lv1 := [(0, .ref a0), (1, .int (8 : Int32))]) (aLe_of (show (List.map (fun q => q.1) ([(0, .ref a0), (1, .int (8 : Int32))] : ALv)).Nodup from (by show ([0, 1] : List Nat).Nodup; decide)) (aSubL_cons rfl (aSubL_cons rfl aSubL_nil))) ?_
  exact Tf239_b3 hd N a0 (8 : Int32) I _ h
-- KernelGymModel.resultOf (II)I
def f240_b59 (kad : Nat → Nat) (N : Nat) (Z : AZ) (s0 : Int32) (I : AI) : Option (Int32 × AI) :=
  some (s0, I)
set_option maxRecDepth 20000 in
theorem Tf240_b59 {kad : Nat → Nat} {N : Nat} {Z : AZ} {d : Nat} {t : Option Nat × (Nat × Nat)} (hd : 2 ≤ d) : ∀ (s0 : Int32) (I : AI) (r : Int32 × AI), f240_b59 kad N Z s0 I = some r → aGo kad d 240 (59, ([], [.int s0])) (aMem Z I, t) (qI Z t r) := by
  intro s0 I r h
  unfold f240_b59 at h
  cases h
  exact go_ret aMi240 rfl aRetI ⟨rfl, rfl⟩
def f240_b38 (kad : Nat → Nat) (N : Nat) (Z : AZ)  (I : AI) : Option (Int32 × AI) :=
  f240_b59 kad N Z (1 : Int32) I
set_option maxRecDepth 20000 in
theorem Tf240_b38 {kad : Nat → Nat} {N : Nat} {Z : AZ} {d : Nat} {t : Option Nat × (Nat × Nat)} (hd : 2 ≤ d) : ∀  (I : AI) (r : Int32 × AI), f240_b38 kad N Z  I = some r → aGo kad d 240 (38, ([], [])) (aMem Z I, t) (qI Z t r) := by
  intro  I r h
  unfold f240_b38 at h
  refine go_ops aMi240 2 _ (f1 := (59, ([], [.int (1 : Int32)]))) rfl ?_
  exact Tf240_b59 hd (1 : Int32) I _ h
def f240_b88 (kad : Nat → Nat) (N : Nat) (Z : AZ)  (I : AI) : Option (Int32 × AI) :=
  some ((1 : Int32), I)
set_option maxRecDepth 20000 in
theorem Tf240_b88 {kad : Nat → Nat} {N : Nat} {Z : AZ} {d : Nat} {t : Option Nat × (Nat × Nat)} (hd : 2 ≤ d) : ∀  (I : AI) (r : Int32 × AI), f240_b88 kad N Z  I = some r → aGo kad d 240 (88, ([], [])) (aMem Z I, t) (qI Z t r) := by
  intro  I r h
  unfold f240_b88 at h
  refine go_ops aMi240 1 _ (f1 := (89, ([], [.int (1 : Int32)]))) rfl ?_
  cases h
  exact go_ret aMi240 rfl aRetI ⟨rfl, rfl⟩
def f240_b140 (kad : Nat → Nat) (N : Nat) (Z : AZ) (s0 : Int32) (I : AI) : Option (Int32 × AI) :=
  some (s0, I)
set_option maxRecDepth 20000 in
theorem Tf240_b140 {kad : Nat → Nat} {N : Nat} {Z : AZ} {d : Nat} {t : Option Nat × (Nat × Nat)} (hd : 2 ≤ d) : ∀ (s0 : Int32) (I : AI) (r : Int32 × AI), f240_b140 kad N Z s0 I = some r → aGo kad d 240 (140, ([], [.int s0])) (aMem Z I, t) (qI Z t r) := by
  intro s0 I r h
  unfold f240_b140 at h
  cases h
  exact go_ret aMi240 rfl aRetI ⟨rfl, rfl⟩
def f240_b139 (kad : Nat → Nat) (N : Nat) (Z : AZ)  (I : AI) : Option (Int32 × AI) :=
  f240_b140 kad N Z (0 : Int32) I
set_option maxRecDepth 20000 in
theorem Tf240_b139 {kad : Nat → Nat} {N : Nat} {Z : AZ} {d : Nat} {t : Option Nat × (Nat × Nat)} (hd : 2 ≤ d) : ∀  (I : AI) (r : Int32 × AI), f240_b139 kad N Z  I = some r → aGo kad d 240 (139, ([], [])) (aMem Z I, t) (qI Z t r) := by
  intro  I r h
  unfold f240_b139 at h
  refine go_ops aMi240 1 _ (f1 := (140, ([], [.int (0 : Int32)]))) rfl ?_
  exact Tf240_b140 hd (0 : Int32) I _ h
def f240_b167 (kad : Nat → Nat) (N : Nat) (Z : AZ) (s0 : Int32) (I : AI) : Option (Int32 × AI) :=
  some (s0, I)
set_option maxRecDepth 20000 in
theorem Tf240_b167 {kad : Nat → Nat} {N : Nat} {Z : AZ} {d : Nat} {t : Option Nat × (Nat × Nat)} (hd : 2 ≤ d) : ∀ (s0 : Int32) (I : AI) (r : Int32 × AI), f240_b167 kad N Z s0 I = some r → aGo kad d 240 (167, ([], [.int s0])) (aMem Z I, t) (qI Z t r) := by
  intro s0 I r h
  unfold f240_b167 at h
  cases h
  exact go_ret aMi240 rfl aRetI ⟨rfl, rfl⟩
def f240_b166 (kad : Nat → Nat) (N : Nat) (Z : AZ)  (I : AI) : Option (Int32 × AI) :=
  f240_b167 kad N Z (0 : Int32) I
set_option maxRecDepth 20000 in
theorem Tf240_b166 {kad : Nat → Nat} {N : Nat} {Z : AZ} {d : Nat} {t : Option Nat × (Nat × Nat)} (hd : 2 ≤ d) : ∀  (I : AI) (r : Int32 × AI), f240_b166 kad N Z  I = some r → aGo kad d 240 (166, ([], [])) (aMem Z I, t) (qI Z t r) := by
  intro  I r h
  unfold f240_b166 at h
  refine go_ops aMi240 1 _ (f1 := (167, ([], [.int (0 : Int32)]))) rfl ?_
  exact Tf240_b167 hd (0 : Int32) I _ h
def f240_b151 (kad : Nat → Nat) (N : Nat) (Z : AZ) (a0 : Nat) (i4 : Int32) (I : AI) : Option (Int32 × AI) :=
  (gR Z I 11 26 a0).bind fun b152_1 =>
  (lI Z I 100 b152_1 (1 : Int32)).bind fun x156_2 =>
  if x156_2 < i4 then
    f240_b166 kad N Z  I
  else
    f240_b167 kad N Z (2 : Int32) I
set_option maxRecDepth 20000 in
theorem Tf240_b151 {kad : Nat → Nat} {N : Nat} {Z : AZ} {d : Nat} {t : Option Nat × (Nat × Nat)} (hd : 2 ≤ d) : ∀ (a0 : Nat) (i4 : Int32) (I : AI) (r : Int32 × AI), f240_b151 kad N Z a0 i4 I = some r → aGo kad d 240 (151, ([(0, .ref a0), (4, .int i4)], [])) (aMem Z I, t) (qI Z t r) := by
  intro a0 i4 I r h
  unfold f240_b151 at h
  refine go_ops aMi240 1 _ (f1 := (152, ([(0, .ref a0), (4, .int i4)], [.ref a0]))) rfl ?_
  obtain ⟨b152_1, hxb152_1, h⟩ := Option.bind_eq_some_iff.mp h
  refine gg_gR aMi240 rfl rfl rfl hxb152_1 ?_
  refine go_ops aMi240 1 _ (f1 := (156, ([(0, .ref a0), (4, .int i4)], [.int (1 : Int32), .ref b152_1]))) rfl ?_
  obtain ⟨x156_2, hxx156_2, h⟩ := Option.bind_eq_some_iff.mp h
  refine gg_lI (Or.inl ⟨rfl, rfl⟩) aMi240 rfl hxx156_2 ?_
  refine go_ops aMi240 1 _ (f1 := (159, ([(0, .ref a0), (4, .int i4)], [.int i4, .int x156_2]))) rfl ?_
  refine gg_br (b := decide (x156_2 < i4)) (tg := 166) (off := 7) aMi240 rfl rfl rfl rfl (fun hb => ?_) (fun hb => ?_)
  · rw [if_pos (of_decide_eq_true hb)] at h
    refine go_le (lv1 := []) (aLe_of (show (List.map (fun q => q.1) ([] : ALv)).Nodup from (by show ([] : List Nat).Nodup; decide)) aSubL_nil) ?_
    exact Tf240_b166 hd  I _ h
  · rw [if_neg (of_decide_eq_false hb)] at h
    refine go_ops aMi240 2 _ (f1 := (167, ([(0, .ref a0), (4, .int i4)], [.int (2 : Int32)]))) rfl ?_
    refine go_le (lv1 := []) (aLe_of (show (List.map (fun q => q.1) ([] : ALv)).Nodup from (by show ([] : List Nat).Nodup; decide)) aSubL_nil) ?_
    exact Tf240_b167 hd (2 : Int32) I _ h
def f240_b90 (kad : Nat → Nat) (N : Nat) (Z : AZ) (a0 : Nat) (i1 : Int32) (i2 : Int32) (I : AI) : Option (Int32 × AI) :=
  (gR Z I 11 50 a0).bind fun b91_1 =>
  (f235 kad N Z i2 I).bind fun r95_2 =>
  (lI Z r95_2.2 100 b91_1 (r95_2.1 + (1 : Int32))).bind fun x100_3 =>
  if ¬ i1 = (1 : Int32) then
    if i1 = (2 : Int32) then
      f240_b151 kad N Z a0 x100_3 r95_2.2
    else
      if ¬ i1 = (3 : Int32) then
        f240_b166 kad N Z  r95_2.2
      else
        f240_b151 kad N Z a0 x100_3 r95_2.2
  else
    if ¬ x100_3 = (16 : Int32) then
      if ¬ (x100_3 - x100_3 / (8 : Int32) * (8 : Int32)) = 0 then
        f240_b139 kad N Z  r95_2.2
      else
        (isK Z a0 11).bind fun u128_4 =>
        (f239 kad N Z a0 r95_2.2).bind fun r128_5 =>
        if ¬ r128_5.1 = (Int32.ofInt (-1)) then
          f240_b139 kad N Z  r128_5.2
        else
          f240_b140 kad N Z (3 : Int32) r128_5.2
    else
      f240_b140 kad N Z (2 : Int32) r95_2.2
set_option maxRecDepth 20000 in
theorem Tf240_b90 {kad : Nat → Nat} {N : Nat} {Z : AZ} {d : Nat} {t : Option Nat × (Nat × Nat)} (hd : 2 ≤ d) : ∀ (a0 : Nat) (i1 : Int32) (i2 : Int32) (I : AI) (r : Int32 × AI), f240_b90 kad N Z a0 i1 i2 I = some r → aGo kad d 240 (90, ([(0, .ref a0), (1, .int i1), (2, .int i2)], [])) (aMem Z I, t) (qI Z t r) := by
  intro a0 i1 i2 I r h
  unfold f240_b90 at h
  refine go_ops aMi240 1 _ (f1 := (91, ([(0, .ref a0), (1, .int i1), (2, .int i2)], [.ref a0]))) rfl ?_
  obtain ⟨b91_1, hxb91_1, h⟩ := Option.bind_eq_some_iff.mp h
  refine gg_gR aMi240 rfl rfl rfl hxb91_1 ?_
  refine go_ops aMi240 1 _ (f1 := (95, ([(0, .ref a0), (1, .int i1), (2, .int i2)], [.int i2, .ref b91_1]))) rfl ?_
  obtain ⟨r95_2, hxr95_2, h⟩ := Option.bind_eq_some_iff.mp h
  refine gg_cs (as := [.int i2]) (r := [.ref b91_1]) aMi240 rfl rfl rfl aMi235 rfl (Nat.le_of_ble_eq_true rfl) (Nat.le_of_ble_eq_true rfl) (by omega) (Tf235 (by omega) i2 I _ hxr95_2) ?_
  show aGo kad d 240 (98, ([(0, .ref a0), (1, .int i1), (2, .int i2)], [.int r95_2.1, .ref b91_1])) (aMem Z r95_2.2, t) _
  refine go_ops aMi240 2 _ (f1 := (100, ([(0, .ref a0), (1, .int i1), (2, .int i2)], [.int (r95_2.1 + (1 : Int32)), .ref b91_1]))) rfl ?_
  obtain ⟨x100_3, hxx100_3, h⟩ := Option.bind_eq_some_iff.mp h
  refine gg_lI (Or.inl ⟨rfl, rfl⟩) aMi240 rfl hxx100_3 ?_
  refine go_ops aMi240 3 _ (f1 := (105, ([(4, .int x100_3), (0, .ref a0), (1, .int i1), (2, .int i2)], [.int (1 : Int32), .int i1]))) rfl ?_
  refine gg_br (b := decide (¬ i1 = (1 : Int32))) (tg := 141) (off := 36) aMi240 rfl rfl rfl rfl (fun hb => ?_) (fun hb => ?_)
  · rw [if_pos (of_decide_eq_true hb)] at h
    refine go_ops aMi240 2 _ (f1 := (143, ([(4, .int x100_3), (0, .ref a0), (1, .int i1), (2, .int i2)], [.int (2 : Int32), .int i1]))) rfl ?_
    refine gg_br (b := decide (i1 = (2 : Int32))) (tg := 151) (off := 8) aMi240 rfl rfl rfl rfl (fun hb => ?_) (fun hb => ?_)
    · rw [if_pos (of_decide_eq_true hb)] at h
      refine go_le (lv1 := [(0, .ref a0), (4, .int x100_3)]) (aLe_of (show (List.map (fun q => q.1) ([(0, .ref a0), (4, .int x100_3)] : ALv)).Nodup from (by show ([0, 4] : List Nat).Nodup; decide)) (aSubL_cons rfl (aSubL_cons rfl aSubL_nil))) ?_
      exact Tf240_b151 hd a0 x100_3 r95_2.2 _ h
    · rw [if_neg (of_decide_eq_false hb)] at h
      refine go_ops aMi240 2 _ (f1 := (148, ([(4, .int x100_3), (0, .ref a0), (1, .int i1), (2, .int i2)], [.int (3 : Int32), .int i1]))) rfl ?_
      refine gg_br (b := decide (¬ i1 = (3 : Int32))) (tg := 166) (off := 18) aMi240 rfl rfl rfl rfl (fun hb => ?_) (fun hb => ?_)
      · rw [if_pos (of_decide_eq_true hb)] at h
        refine go_le (lv1 := []) (aLe_of (show (List.map (fun q => q.1) ([] : ALv)).Nodup from (by show ([] : List Nat).Nodup; decide)) aSubL_nil) ?_
        exact Tf240_b166 hd  r95_2.2 _ h
      · rw [if_neg (of_decide_eq_false hb)] at h
        refine go_le (lv1 := [(0, .ref a0), (4, .int x100_3)]) (aLe_of (show (List.map (fun q => q.1) ([(0, .ref a0), (4, .int x100_3)] : ALv)).Nodup from (by show ([0, 4] : List Nat).Nodup; decide)) (aSubL_cons rfl (aSubL_cons rfl aSubL_nil))) ?_
        exact Tf240_b151 hd a0 x100_3 r95_2.2 _ h
  · rw [if_neg (of_decide_eq_false hb)] at h
    refine go_ops aMi240 2 _ (f1 := (112, ([(4, .int x100_3), (0, .ref a0), (1, .int i1), (2, .int i2)], [.int (16 : Int32), .int x100_3]))) rfl ?_
    refine gg_br (b := decide (¬ x100_3 = (16 : Int32))) (tg := 119) (off := 7) aMi240 rfl rfl rfl rfl (fun hb => ?_) (fun hb => ?_)
    · rw [if_pos (of_decide_eq_true hb)] at h
      refine go_ops aMi240 3 _ (f1 := (124, ([(4, .int x100_3), (0, .ref a0), (1, .int i1), (2, .int i2)], [.int (x100_3 - x100_3 / (8 : Int32) * (8 : Int32))]))) rfl ?_
      refine gg_br (b := decide (¬ (x100_3 - x100_3 / (8 : Int32) * (8 : Int32)) = 0)) (tg := 139) (off := 15) aMi240 rfl rfl rfl rfl (fun hb => ?_) (fun hb => ?_)
      · rw [if_pos (of_decide_eq_true hb)] at h
        refine go_le (lv1 := []) (aLe_of (show (List.map (fun q => q.1) ([] : ALv)).Nodup from (by show ([] : List Nat).Nodup; decide)) aSubL_nil) ?_
        exact Tf240_b139 hd  r95_2.2 _ h
      · rw [if_neg (of_decide_eq_false hb)] at h
        refine go_ops aMi240 1 _ (f1 := (128, ([(4, .int x100_3), (0, .ref a0), (1, .int i1), (2, .int i2)], [.ref a0]))) rfl ?_
        obtain ⟨u128_4, hxu128_4, h⟩ := Option.bind_eq_some_iff.mp h
        obtain ⟨r128_5, hxr128_5, h⟩ := Option.bind_eq_some_iff.mp h
        refine gg_cv (as := []) (r := []) aMi240 rfl rfl rfl aMi239 (Nat.le_of_ble_eq_true rfl) rfl (Nat.le_of_ble_eq_true rfl) (Nat.le_of_ble_eq_true rfl) (by omega) hxu128_4 (Tf239 (by omega) a0 r95_2.2 _ hxr128_5) ?_
        show aGo kad d 240 (131, ([(4, .int x100_3), (0, .ref a0), (1, .int i1), (2, .int i2)], [.int r128_5.1])) (aMem Z r128_5.2, t) _
        refine go_ops aMi240 1 _ (f1 := (132, ([(4, .int x100_3), (0, .ref a0), (1, .int i1), (2, .int i2)], [.int (Int32.ofInt (-1)), .int r128_5.1]))) rfl ?_
        refine gg_br (b := decide (¬ r128_5.1 = (Int32.ofInt (-1)))) (tg := 139) (off := 7) aMi240 rfl rfl rfl rfl (fun hb => ?_) (fun hb => ?_)
        · rw [if_pos (of_decide_eq_true hb)] at h
          refine go_le (lv1 := []) (aLe_of (show (List.map (fun q => q.1) ([] : ALv)).Nodup from (by show ([] : List Nat).Nodup; decide)) aSubL_nil) ?_
          exact Tf240_b139 hd  r128_5.2 _ h
        · rw [if_neg (of_decide_eq_false hb)] at h
          refine go_ops aMi240 2 _ (f1 := (140, ([(4, .int x100_3), (0, .ref a0), (1, .int i1), (2, .int i2)], [.int (3 : Int32)]))) rfl ?_
          refine go_le (lv1 := []) (aLe_of (show (List.map (fun q => q.1) ([] : ALv)).Nodup from (by show ([] : List Nat).Nodup; decide)) aSubL_nil) ?_
          exact Tf240_b140 hd (3 : Int32) r128_5.2 _ h
    · rw [if_neg (of_decide_eq_false hb)] at h
      refine go_ops aMi240 2 _ (f1 := (140, ([(4, .int x100_3), (0, .ref a0), (1, .int i1), (2, .int i2)], [.int (2 : Int32)]))) rfl ?_
      refine go_le (lv1 := []) (aLe_of (show (List.map (fun q => q.1) ([] : ALv)).Nodup from (by show ([] : List Nat).Nodup; decide)) aSubL_nil) ?_
      exact Tf240_b140 hd (2 : Int32) r95_2.2 _ h
def f240_b19 (kad : Nat → Nat) (N : Nat) (Z : AZ) (a0 : Nat) (i1 : Int32) (i2 : Int32) (s0 : Int32) (I : AI) : Option (Int32 × AI) :=
  if ¬ i1 = 0 then
    if i1 ≤ (6 : Int32) then
      if ¬ s0 = 0 then
        f240_b88 kad N Z  I
      else
        if ¬ i1 = (6 : Int32) then
          f240_b90 kad N Z a0 i1 i2 I
        else
          (gR Z I 11 26 a0).bind fun b80_1 =>
          (lI Z I 100 b80_1 (1 : Int32)).bind fun x84_2 =>
          if ¬ x84_2 = 0 then
            f240_b90 kad N Z a0 i1 i2 I
          else
            f240_b88 kad N Z  I
    else
      some ((9 : Int32), I)
  else
    (gR Z I 11 26 a0).bind fun b25_3 =>
    (lI Z I 100 b25_3 (0 : Int32)).bind fun x29_4 =>
    if x29_4 = 0 then
      f240_b38 kad N Z  I
    else
      if i2 = (Int32.ofInt (-1)) then
        (gR Z I 11 50 a0).bind fun b43_5 =>
        (f236 kad N Z b43_5 (0 : Int32) I).bind fun r47_6 =>
        if ¬ r47_6.1 = (Int32.ofInt (-1)) then
          f240_b59 kad N Z (0 : Int32) r47_6.2
        else
          f240_b59 kad N Z (2 : Int32) r47_6.2
      else
        f240_b38 kad N Z  I
set_option maxRecDepth 20000 in
theorem Tf240_b19 {kad : Nat → Nat} {N : Nat} {Z : AZ} {d : Nat} {t : Option Nat × (Nat × Nat)} (hd : 2 ≤ d) : ∀ (a0 : Nat) (i1 : Int32) (i2 : Int32) (s0 : Int32) (I : AI) (r : Int32 × AI), f240_b19 kad N Z a0 i1 i2 s0 I = some r → aGo kad d 240 (19, ([(0, .ref a0), (1, .int i1), (2, .int i2)], [.int s0])) (aMem Z I, t) (qI Z t r) := by
  intro a0 i1 i2 s0 I r h
  unfold f240_b19 at h
  refine go_ops aMi240 2 _ (f1 := (21, ([(3, .int s0), (0, .ref a0), (1, .int i1), (2, .int i2)], [.int i1]))) rfl ?_
  refine gg_br (b := decide (¬ i1 = 0)) (tg := 60) (off := 39) aMi240 rfl rfl rfl rfl (fun hb => ?_) (fun hb => ?_)
  · rw [if_pos (of_decide_eq_true hb)] at h
    refine go_ops aMi240 2 _ (f1 := (63, ([(3, .int s0), (0, .ref a0), (1, .int i1), (2, .int i2)], [.int (6 : Int32), .int i1]))) rfl ?_
    refine gg_br (b := decide (i1 ≤ (6 : Int32))) (tg := 69) (off := 6) aMi240 rfl rfl rfl rfl (fun hb => ?_) (fun hb => ?_)
    · rw [if_pos (of_decide_eq_true hb)] at h
      refine go_ops aMi240 1 _ (f1 := (70, ([(3, .int s0), (0, .ref a0), (1, .int i1), (2, .int i2)], [.int s0]))) rfl ?_
      refine gg_br (b := decide (¬ s0 = 0)) (tg := 88) (off := 18) aMi240 rfl rfl rfl rfl (fun hb => ?_) (fun hb => ?_)
      · rw [if_pos (of_decide_eq_true hb)] at h
        refine go_le (lv1 := []) (aLe_of (show (List.map (fun q => q.1) ([] : ALv)).Nodup from (by show ([] : List Nat).Nodup; decide)) aSubL_nil) ?_
        exact Tf240_b88 hd  I _ h
      · rw [if_neg (of_decide_eq_false hb)] at h
        refine go_ops aMi240 2 _ (f1 := (76, ([(3, .int s0), (0, .ref a0), (1, .int i1), (2, .int i2)], [.int (6 : Int32), .int i1]))) rfl ?_
        refine gg_br (b := decide (¬ i1 = (6 : Int32))) (tg := 90) (off := 14) aMi240 rfl rfl rfl rfl (fun hb => ?_) (fun hb => ?_)
        · rw [if_pos (of_decide_eq_true hb)] at h
          refine go_le (lv1 := [(0, .ref a0), (1, .int i1), (2, .int i2)]) (aLe_of (show (List.map (fun q => q.1) ([(0, .ref a0), (1, .int i1), (2, .int i2)] : ALv)).Nodup from (by show ([0, 1, 2] : List Nat).Nodup; decide)) (aSubL_cons rfl (aSubL_cons rfl (aSubL_cons rfl aSubL_nil)))) ?_
          exact Tf240_b90 hd a0 i1 i2 I _ h
        · rw [if_neg (of_decide_eq_false hb)] at h
          refine go_ops aMi240 1 _ (f1 := (80, ([(3, .int s0), (0, .ref a0), (1, .int i1), (2, .int i2)], [.ref a0]))) rfl ?_
          obtain ⟨b80_1, hxb80_1, h⟩ := Option.bind_eq_some_iff.mp h
          refine gg_gR aMi240 rfl rfl rfl hxb80_1 ?_
          refine go_ops aMi240 1 _ (f1 := (84, ([(3, .int s0), (0, .ref a0), (1, .int i1), (2, .int i2)], [.int (1 : Int32), .ref b80_1]))) rfl ?_
          obtain ⟨x84_2, hxx84_2, h⟩ := Option.bind_eq_some_iff.mp h
          refine gg_lI (Or.inl ⟨rfl, rfl⟩) aMi240 rfl hxx84_2 ?_
          refine gg_br (b := decide (¬ x84_2 = 0)) (tg := 90) (off := 5) aMi240 rfl rfl rfl rfl (fun hb => ?_) (fun hb => ?_)
          · rw [if_pos (of_decide_eq_true hb)] at h
            refine go_le (lv1 := [(0, .ref a0), (1, .int i1), (2, .int i2)]) (aLe_of (show (List.map (fun q => q.1) ([(0, .ref a0), (1, .int i1), (2, .int i2)] : ALv)).Nodup from (by show ([0, 1, 2] : List Nat).Nodup; decide)) (aSubL_cons rfl (aSubL_cons rfl (aSubL_cons rfl aSubL_nil)))) ?_
            exact Tf240_b90 hd a0 i1 i2 I _ h
          · rw [if_neg (of_decide_eq_false hb)] at h
            refine go_le (lv1 := []) (aLe_of (show (List.map (fun q => q.1) ([] : ALv)).Nodup from (by show ([] : List Nat).Nodup; decide)) aSubL_nil) ?_
            exact Tf240_b88 hd  I _ h
    · rw [if_neg (of_decide_eq_false hb)] at h
      refine go_ops aMi240 1 _ (f1 := (68, ([(3, .int s0), (0, .ref a0), (1, .int i1), (2, .int i2)], [.int (9 : Int32)]))) rfl ?_
      cases h
      exact go_ret aMi240 rfl aRetI ⟨rfl, rfl⟩
  · rw [if_neg (of_decide_eq_false hb)] at h
    refine go_ops aMi240 1 _ (f1 := (25, ([(3, .int s0), (0, .ref a0), (1, .int i1), (2, .int i2)], [.ref a0]))) rfl ?_
    obtain ⟨b25_3, hxb25_3, h⟩ := Option.bind_eq_some_iff.mp h
    refine gg_gR aMi240 rfl rfl rfl hxb25_3 ?_
    refine go_ops aMi240 1 _ (f1 := (29, ([(3, .int s0), (0, .ref a0), (1, .int i1), (2, .int i2)], [.int (0 : Int32), .ref b25_3]))) rfl ?_
    obtain ⟨x29_4, hxx29_4, h⟩ := Option.bind_eq_some_iff.mp h
    refine gg_lI (Or.inl ⟨rfl, rfl⟩) aMi240 rfl hxx29_4 ?_
    refine gg_br (b := decide (x29_4 = 0)) (tg := 38) (off := 8) aMi240 rfl rfl rfl rfl (fun hb => ?_) (fun hb => ?_)
    · rw [if_pos (of_decide_eq_true hb)] at h
      refine go_le (lv1 := []) (aLe_of (show (List.map (fun q => q.1) ([] : ALv)).Nodup from (by show ([] : List Nat).Nodup; decide)) aSubL_nil) ?_
      exact Tf240_b38 hd  I _ h
    · rw [if_neg (of_decide_eq_false hb)] at h
      refine go_ops aMi240 2 _ (f1 := (35, ([(3, .int s0), (0, .ref a0), (1, .int i1), (2, .int i2)], [.int (Int32.ofInt (-1)), .int i2]))) rfl ?_
      refine gg_br (b := decide (i2 = (Int32.ofInt (-1)))) (tg := 42) (off := 7) aMi240 rfl rfl rfl rfl (fun hb => ?_) (fun hb => ?_)
      · rw [if_pos (of_decide_eq_true hb)] at h
        refine go_ops aMi240 1 _ (f1 := (43, ([(3, .int s0), (0, .ref a0), (1, .int i1), (2, .int i2)], [.ref a0]))) rfl ?_
        obtain ⟨b43_5, hxb43_5, h⟩ := Option.bind_eq_some_iff.mp h
        refine gg_gR aMi240 rfl rfl rfl hxb43_5 ?_
        refine go_ops aMi240 1 _ (f1 := (47, ([(3, .int s0), (0, .ref a0), (1, .int i1), (2, .int i2)], [.int (0 : Int32), .ref b43_5]))) rfl ?_
        obtain ⟨r47_6, hxr47_6, h⟩ := Option.bind_eq_some_iff.mp h
        refine gg_cs (as := [.ref b43_5, .int (0 : Int32)]) (r := []) aMi240 rfl rfl rfl aMi236 rfl (Nat.le_of_ble_eq_true rfl) (Nat.le_of_ble_eq_true rfl) (by omega) (Tf236 (by omega) b43_5 (0 : Int32) I _ hxr47_6) ?_
        show aGo kad d 240 (50, ([(3, .int s0), (0, .ref a0), (1, .int i1), (2, .int i2)], [.int r47_6.1])) (aMem Z r47_6.2, t) _
        refine go_ops aMi240 1 _ (f1 := (51, ([(3, .int s0), (0, .ref a0), (1, .int i1), (2, .int i2)], [.int (Int32.ofInt (-1)), .int r47_6.1]))) rfl ?_
        refine gg_br (b := decide (¬ r47_6.1 = (Int32.ofInt (-1)))) (tg := 58) (off := 7) aMi240 rfl rfl rfl rfl (fun hb => ?_) (fun hb => ?_)
        · rw [if_pos (of_decide_eq_true hb)] at h
          refine go_ops aMi240 1 _ (f1 := (59, ([(3, .int s0), (0, .ref a0), (1, .int i1), (2, .int i2)], [.int (0 : Int32)]))) rfl ?_
          refine go_le (lv1 := []) (aLe_of (show (List.map (fun q => q.1) ([] : ALv)).Nodup from (by show ([] : List Nat).Nodup; decide)) aSubL_nil) ?_
          exact Tf240_b59 hd (0 : Int32) r47_6.2 _ h
        · rw [if_neg (of_decide_eq_false hb)] at h
          refine go_ops aMi240 2 _ (f1 := (59, ([(3, .int s0), (0, .ref a0), (1, .int i1), (2, .int i2)], [.int (2 : Int32)]))) rfl ?_
          refine go_le (lv1 := []) (aLe_of (show (List.map (fun q => q.1) ([] : ALv)).Nodup from (by show ([] : List Nat).Nodup; decide)) aSubL_nil) ?_
          exact Tf240_b59 hd (2 : Int32) r47_6.2 _ h
      · rw [if_neg (of_decide_eq_false hb)] at h
        refine go_le (lv1 := []) (aLe_of (show (List.map (fun q => q.1) ([] : ALv)).Nodup from (by show ([] : List Nat).Nodup; decide)) aSubL_nil) ?_
        exact Tf240_b38 hd  I _ h
def f240_b14 (kad : Nat → Nat) (N : Nat) (Z : AZ) (a0 : Nat) (i1 : Int32) (i2 : Int32) (I : AI) : Option (Int32 × AI) :=
  f240_b19 kad N Z a0 i1 i2 (1 : Int32) I
set_option maxRecDepth 20000 in
theorem Tf240_b14 {kad : Nat → Nat} {N : Nat} {Z : AZ} {d : Nat} {t : Option Nat × (Nat × Nat)} (hd : 2 ≤ d) : ∀ (a0 : Nat) (i1 : Int32) (i2 : Int32) (I : AI) (r : Int32 × AI), f240_b14 kad N Z a0 i1 i2 I = some r → aGo kad d 240 (14, ([(0, .ref a0), (1, .int i1), (2, .int i2)], [])) (aMem Z I, t) (qI Z t r) := by
  intro a0 i1 i2 I r h
  unfold f240_b14 at h
  refine go_ops aMi240 2 _ (f1 := (19, ([(0, .ref a0), (1, .int i1), (2, .int i2)], [.int (1 : Int32)]))) rfl ?_
  exact Tf240_b19 hd a0 i1 i2 (1 : Int32) I _ h
def f240 (kad : Nat → Nat) (N : Nat) (Z : AZ) (a0 : Nat) (i1 : Int32) (i2 : Int32) (I : AI) : Option (Int32 × AI) :=
  (gR Z I 11 26 a0).bind fun b1_1 =>
  (lI Z I 100 b1_1 (0 : Int32)).bind fun x5_2 =>
  if x5_2 = 0 then
    f240_b14 kad N Z a0 i1 i2 I
  else
    if ¬ i2 = (Int32.ofInt (-1)) then
      f240_b19 kad N Z a0 i1 i2 (0 : Int32) I
    else
      f240_b14 kad N Z a0 i1 i2 I
set_option maxRecDepth 20000 in
theorem Tf240 {kad : Nat → Nat} {N : Nat} {Z : AZ} {d : Nat} {t : Option Nat × (Nat × Nat)} (hd : 2 ≤ d) : ∀ (a0 : Nat) (i1 : Int32) (i2 : Int32) (I : AI) (r : Int32 × AI), f240 kad N Z a0 i1 i2 I = some r → aGo kad d 240 (0, ([(0, .ref a0), (1, .int i1), (2, .int i2)], [])) (aMem Z I, t) (qI Z t r) := by
  intro a0 i1 i2 I r h
  unfold f240 at h
  refine go_ops aMi240 1 _ (f1 := (1, ([(0, .ref a0), (1, .int i1), (2, .int i2)], [.ref a0]))) rfl ?_
  obtain ⟨b1_1, hxb1_1, h⟩ := Option.bind_eq_some_iff.mp h
  refine gg_gR aMi240 rfl rfl rfl hxb1_1 ?_
  refine go_ops aMi240 1 _ (f1 := (5, ([(0, .ref a0), (1, .int i1), (2, .int i2)], [.int (0 : Int32), .ref b1_1]))) rfl ?_
  obtain ⟨x5_2, hxx5_2, h⟩ := Option.bind_eq_some_iff.mp h
  refine gg_lI (Or.inl ⟨rfl, rfl⟩) aMi240 rfl hxx5_2 ?_
  refine gg_br (b := decide (x5_2 = 0)) (tg := 14) (off := 8) aMi240 rfl rfl rfl rfl (fun hb => ?_) (fun hb => ?_)
  · rw [if_pos (of_decide_eq_true hb)] at h
    exact Tf240_b14 hd a0 i1 i2 I _ h
  · rw [if_neg (of_decide_eq_false hb)] at h
    refine go_ops aMi240 2 _ (f1 := (11, ([(0, .ref a0), (1, .int i1), (2, .int i2)], [.int (Int32.ofInt (-1)), .int i2]))) rfl ?_
    refine gg_br (b := decide (¬ i2 = (Int32.ofInt (-1)))) (tg := 18) (off := 7) aMi240 rfl rfl rfl rfl (fun hb => ?_) (fun hb => ?_)
    · rw [if_pos (of_decide_eq_true hb)] at h
      refine go_ops aMi240 1 _ (f1 := (19, ([(0, .ref a0), (1, .int i1), (2, .int i2)], [.int (0 : Int32)]))) rfl ?_
      exact Tf240_b19 hd a0 i1 i2 (0 : Int32) I _ h
    · rw [if_neg (of_decide_eq_false hb)] at h
      exact Tf240_b14 hd a0 i1 i2 I _ h
-- KernelGymModel.blockOf ([III)I
def f241 (kad : Nat → Nat) (N : Nat) (Z : AZ) (a0 : Nat) (a1 : Nat) (i2 : Int32) (i3 : Int32) (I : AI) : Option (Int32 × AI) :=
  (f235 kad N Z i2 I).bind fun r2_1 =>
  (lI Z r2_1.2 100 a1 ((r2_1.1 + (2 : Int32)) + (i3 / (8 : Int32)))).bind fun x12_2 =>
  some (x12_2, r2_1.2)
set_option maxRecDepth 20000 in
theorem Tf241 {kad : Nat → Nat} {N : Nat} {Z : AZ} {d : Nat} {t : Option Nat × (Nat × Nat)} (hd : 1 ≤ d) : ∀ (a0 : Nat) (a1 : Nat) (i2 : Int32) (i3 : Int32) (I : AI) (r : Int32 × AI), f241 kad N Z a0 a1 i2 i3 I = some r → aGo kad d 241 (0, ([(0, .ref a0), (1, .ref a1), (2, .int i2), (3, .int i3)], [])) (aMem Z I, t) (qI Z t r) := by
  intro a0 a1 i2 i3 I r h
  unfold f241 at h
  refine go_ops aMi241 2 _ (f1 := (2, ([(0, .ref a0), (1, .ref a1), (2, .int i2), (3, .int i3)], [.int i2, .ref a1]))) rfl ?_
  obtain ⟨r2_1, hxr2_1, h⟩ := Option.bind_eq_some_iff.mp h
  refine gg_cs (as := [.int i2]) (r := [.ref a1]) aMi241 rfl rfl rfl aMi235 rfl (Nat.le_of_ble_eq_true rfl) (Nat.le_of_ble_eq_true rfl) (by omega) (Tf235 (by omega) i2 I _ hxr2_1) ?_
  show aGo kad d 241 (5, ([(0, .ref a0), (1, .ref a1), (2, .int i2), (3, .int i3)], [.int r2_1.1, .ref a1])) (aMem Z r2_1.2, t) _
  refine go_ops aMi241 6 _ (f1 := (12, ([(0, .ref a0), (1, .ref a1), (2, .int i2), (3, .int i3)], [.int ((r2_1.1 + (2 : Int32)) + (i3 / (8 : Int32))), .ref a1]))) rfl ?_
  obtain ⟨x12_2, hxx12_2, h⟩ := Option.bind_eq_some_iff.mp h
  refine gg_lI (Or.inl ⟨rfl, rfl⟩) aMi241 rfl hxx12_2 ?_
  cases h
  exact go_ret aMi241 rfl aRetI ⟨rfl, rfl⟩
-- KernelGymModel.blockOfEntry (I)I
def f243 (kad : Nat → Nat) (N : Nat) (Z : AZ) (i0 : Int32) (I : AI) : Option (Int32 × AI) :=
  some (((1 : Int32) <<< (((5 : Int32) + (i0 / (2 : Int32))) &&& 31)), I)
set_option maxRecDepth 20000 in
theorem Tf243 {kad : Nat → Nat} {N : Nat} {Z : AZ} {d : Nat} {t : Option Nat × (Nat × Nat)} (hd : 0 ≤ d) : ∀ (i0 : Int32) (I : AI) (r : Int32 × AI), f243 kad N Z i0 I = some r → aGo kad d 243 (0, ([(0, .int i0)], [])) (aMem Z I, t) (qI Z t r) := by
  intro i0 I r h
  unfold f243 at h
  refine go_ops aMi243 7 _ (f1 := (7, ([(0, .int i0)], [.int ((1 : Int32) <<< (((5 : Int32) + (i0 / (2 : Int32))) &&& 31))]))) rfl ?_
  cases h
  exact go_ret aMi243 rfl aRetI ⟨rfl, rfl⟩
-- KernelGymModel.makesFile ()I
def f244 (kad : Nat → Nat) (N : Nat) (Z : AZ) (a0 : Nat) (I : AI) : Option (Int32 × AI) :=
  (gR Z I 11 50 a0).bind fun b1_1 =>
  (f236 kad N Z b1_1 (0 : Int32) I).bind fun r5_2 =>
  (gR Z r5_2.2 11 51 a0).bind fun b10_3 =>
  (f235 kad N Z r5_2.1 r5_2.2).bind fun r14_4 =>
  (gR Z r14_4.2 11 26 a0).bind fun b18_5 =>
  (lI Z r14_4.2 100 b18_5 (0 : Int32)).bind fun x22_6 =>
  (sI Z r14_4.2 100 b10_3 r14_4.1 x22_6).bind fun I23_7 =>
  (gR Z I23_7 11 51 a0).bind fun b25_8 =>
  (f235 kad N Z r5_2.1 I23_7).bind fun r29_9 =>
  (sI Z r29_9.2 100 b25_8 (r29_9.1 + (1 : Int32)) (0 : Int32)).bind fun I35_10 =>
  (gR Z I35_10 11 51 a0).bind fun b37_11 =>
  (f235 kad N Z r5_2.1 I35_10).bind fun r41_12 =>
  (sI Z r41_12.2 100 b37_11 (r41_12.1 + (2 : Int32)) (0 : Int32)).bind fun I47_13 =>
  (gR Z I47_13 11 51 a0).bind fun b49_14 =>
  (f235 kad N Z r5_2.1 I47_13).bind fun r53_15 =>
  (sI Z r53_15.2 100 b49_14 (r53_15.1 + (3 : Int32)) (0 : Int32)).bind fun I59_16 =>
  (f243 kad N Z r5_2.1 I59_16).bind fun r61_17 =>
  some (r61_17.1, r61_17.2)
set_option maxRecDepth 20000 in
theorem Tf244 {kad : Nat → Nat} {N : Nat} {Z : AZ} {d : Nat} {t : Option Nat × (Nat × Nat)} (hd : 2 ≤ d) : ∀ (a0 : Nat) (I : AI) (r : Int32 × AI), f244 kad N Z a0 I = some r → aGo kad d 244 (0, ([(0, .ref a0)], [])) (aMem Z I, t) (qI Z t r) := by
  intro a0 I r h
  unfold f244 at h
  refine go_ops aMi244 1 _ (f1 := (1, ([(0, .ref a0)], [.ref a0]))) rfl ?_
  obtain ⟨b1_1, hxb1_1, h⟩ := Option.bind_eq_some_iff.mp h
  refine gg_gR aMi244 rfl rfl rfl hxb1_1 ?_
  refine go_ops aMi244 1 _ (f1 := (5, ([(0, .ref a0)], [.int (0 : Int32), .ref b1_1]))) rfl ?_
  obtain ⟨r5_2, hxr5_2, h⟩ := Option.bind_eq_some_iff.mp h
  refine gg_cs (as := [.ref b1_1, .int (0 : Int32)]) (r := []) aMi244 rfl rfl rfl aMi236 rfl (Nat.le_of_ble_eq_true rfl) (Nat.le_of_ble_eq_true rfl) (by omega) (Tf236 (by omega) b1_1 (0 : Int32) I _ hxr5_2) ?_
  show aGo kad d 244 (8, ([(0, .ref a0)], [.int r5_2.1])) (aMem Z r5_2.2, t) _
  refine go_ops aMi244 2 _ (f1 := (10, ([(1, .int r5_2.1), (0, .ref a0)], [.ref a0]))) rfl ?_
  obtain ⟨b10_3, hxb10_3, h⟩ := Option.bind_eq_some_iff.mp h
  refine gg_gR aMi244 rfl rfl rfl hxb10_3 ?_
  refine go_ops aMi244 1 _ (f1 := (14, ([(1, .int r5_2.1), (0, .ref a0)], [.int r5_2.1, .ref b10_3]))) rfl ?_
  obtain ⟨r14_4, hxr14_4, h⟩ := Option.bind_eq_some_iff.mp h
  refine gg_cs (as := [.int r5_2.1]) (r := [.ref b10_3]) aMi244 rfl rfl rfl aMi235 rfl (Nat.le_of_ble_eq_true rfl) (Nat.le_of_ble_eq_true rfl) (by omega) (Tf235 (by omega) r5_2.1 r5_2.2 _ hxr14_4) ?_
  show aGo kad d 244 (17, ([(1, .int r5_2.1), (0, .ref a0)], [.int r14_4.1, .ref b10_3])) (aMem Z r14_4.2, t) _
  refine go_ops aMi244 1 _ (f1 := (18, ([(1, .int r5_2.1), (0, .ref a0)], [.ref a0, .int r14_4.1, .ref b10_3]))) rfl ?_
  obtain ⟨b18_5, hxb18_5, h⟩ := Option.bind_eq_some_iff.mp h
  refine gg_gR aMi244 rfl rfl rfl hxb18_5 ?_
  refine go_ops aMi244 1 _ (f1 := (22, ([(1, .int r5_2.1), (0, .ref a0)], [.int (0 : Int32), .ref b18_5, .int r14_4.1, .ref b10_3]))) rfl ?_
  obtain ⟨x22_6, hxx22_6, h⟩ := Option.bind_eq_some_iff.mp h
  refine gg_lI (Or.inl ⟨rfl, rfl⟩) aMi244 rfl hxx22_6 ?_
  obtain ⟨I23_7, hxI23_7, h⟩ := Option.bind_eq_some_iff.mp h
  refine gg_sI (Or.inl ⟨rfl, rfl⟩) aMi244 rfl hxI23_7 ?_
  refine go_ops aMi244 1 _ (f1 := (25, ([(1, .int r5_2.1), (0, .ref a0)], [.ref a0]))) rfl ?_
  obtain ⟨b25_8, hxb25_8, h⟩ := Option.bind_eq_some_iff.mp h
  refine gg_gR aMi244 rfl rfl rfl hxb25_8 ?_
  refine go_ops aMi244 1 _ (f1 := (29, ([(1, .int r5_2.1), (0, .ref a0)], [.int r5_2.1, .ref b25_8]))) rfl ?_
  obtain ⟨r29_9, hxr29_9, h⟩ := Option.bind_eq_some_iff.mp h
  refine gg_cs (as := [.int r5_2.1]) (r := [.ref b25_8]) aMi244 rfl rfl rfl aMi235 rfl (Nat.le_of_ble_eq_true rfl) (Nat.le_of_ble_eq_true rfl) (by omega) (Tf235 (by omega) r5_2.1 I23_7 _ hxr29_9) ?_
  show aGo kad d 244 (32, ([(1, .int r5_2.1), (0, .ref a0)], [.int r29_9.1, .ref b25_8])) (aMem Z r29_9.2, t) _
  refine go_ops aMi244 3 _ (f1 := (35, ([(1, .int r5_2.1), (0, .ref a0)], [.int (0 : Int32), .int (r29_9.1 + (1 : Int32)), .ref b25_8]))) rfl ?_
  obtain ⟨I35_10, hxI35_10, h⟩ := Option.bind_eq_some_iff.mp h
  refine gg_sI (Or.inl ⟨rfl, rfl⟩) aMi244 rfl hxI35_10 ?_
  refine go_ops aMi244 1 _ (f1 := (37, ([(1, .int r5_2.1), (0, .ref a0)], [.ref a0]))) rfl ?_
  obtain ⟨b37_11, hxb37_11, h⟩ := Option.bind_eq_some_iff.mp h
  refine gg_gR aMi244 rfl rfl rfl hxb37_11 ?_
  refine go_ops aMi244 1 _ (f1 := (41, ([(1, .int r5_2.1), (0, .ref a0)], [.int r5_2.1, .ref b37_11]))) rfl ?_
  obtain ⟨r41_12, hxr41_12, h⟩ := Option.bind_eq_some_iff.mp h
  refine gg_cs (as := [.int r5_2.1]) (r := [.ref b37_11]) aMi244 rfl rfl rfl aMi235 rfl (Nat.le_of_ble_eq_true rfl) (Nat.le_of_ble_eq_true rfl) (by omega) (Tf235 (by omega) r5_2.1 I35_10 _ hxr41_12) ?_
  show aGo kad d 244 (44, ([(1, .int r5_2.1), (0, .ref a0)], [.int r41_12.1, .ref b37_11])) (aMem Z r41_12.2, t) _
  refine go_ops aMi244 3 _ (f1 := (47, ([(1, .int r5_2.1), (0, .ref a0)], [.int (0 : Int32), .int (r41_12.1 + (2 : Int32)), .ref b37_11]))) rfl ?_
  obtain ⟨I47_13, hxI47_13, h⟩ := Option.bind_eq_some_iff.mp h
  refine gg_sI (Or.inl ⟨rfl, rfl⟩) aMi244 rfl hxI47_13 ?_
  refine go_ops aMi244 1 _ (f1 := (49, ([(1, .int r5_2.1), (0, .ref a0)], [.ref a0]))) rfl ?_
  obtain ⟨b49_14, hxb49_14, h⟩ := Option.bind_eq_some_iff.mp h
  refine gg_gR aMi244 rfl rfl rfl hxb49_14 ?_
  refine go_ops aMi244 1 _ (f1 := (53, ([(1, .int r5_2.1), (0, .ref a0)], [.int r5_2.1, .ref b49_14]))) rfl ?_
  obtain ⟨r53_15, hxr53_15, h⟩ := Option.bind_eq_some_iff.mp h
  refine gg_cs (as := [.int r5_2.1]) (r := [.ref b49_14]) aMi244 rfl rfl rfl aMi235 rfl (Nat.le_of_ble_eq_true rfl) (Nat.le_of_ble_eq_true rfl) (by omega) (Tf235 (by omega) r5_2.1 I47_13 _ hxr53_15) ?_
  show aGo kad d 244 (56, ([(1, .int r5_2.1), (0, .ref a0)], [.int r53_15.1, .ref b49_14])) (aMem Z r53_15.2, t) _
  refine go_ops aMi244 3 _ (f1 := (59, ([(1, .int r5_2.1), (0, .ref a0)], [.int (0 : Int32), .int (r53_15.1 + (3 : Int32)), .ref b49_14]))) rfl ?_
  obtain ⟨I59_16, hxI59_16, h⟩ := Option.bind_eq_some_iff.mp h
  refine gg_sI (Or.inl ⟨rfl, rfl⟩) aMi244 rfl hxI59_16 ?_
  refine go_ops aMi244 1 _ (f1 := (61, ([(1, .int r5_2.1), (0, .ref a0)], [.int r5_2.1]))) rfl ?_
  obtain ⟨r61_17, hxr61_17, h⟩ := Option.bind_eq_some_iff.mp h
  refine gg_cs (as := [.int r5_2.1]) (r := []) aMi244 rfl rfl rfl aMi243 rfl (Nat.le_of_ble_eq_true rfl) (Nat.le_of_ble_eq_true rfl) (by omega) (Tf243 (by omega) r5_2.1 I59_16 _ hxr61_17) ?_
  show aGo kad d 244 (64, ([(1, .int r5_2.1), (0, .ref a0)], [.int r61_17.1])) (aMem Z r61_17.2, t) _
  cases h
  exact go_ret aMi244 rfl aRetI ⟨rfl, rfl⟩
-- KernelGymModel.turns ([II)V
def f238 (kad : Nat → Nat) (N : Nat) (Z : AZ) (a0 : Nat) (i1 : Int32) (I : AI) : Option (Unit × AI) :=
  (lI Z I 100 a0 ((32 : Int32) + (i1 / (16 : Int32)))).bind fun x9_1 =>
  (sI Z I 100 a0 ((32 : Int32) + (i1 / (16 : Int32))) (x9_1 ^^^ ((1 : Int32) <<< ((i1 - i1 / (16 : Int32) * (16 : Int32)) &&& 31)))).bind fun I17_2 =>
  some ((), I17_2)
set_option maxRecDepth 20000 in
theorem Tf238 {kad : Nat → Nat} {N : Nat} {Z : AZ} {d : Nat} {t : Option Nat × (Nat × Nat)} (hd : 0 ≤ d) : ∀ (a0 : Nat) (i1 : Int32) (I : AI) (r : Unit × AI), f238 kad N Z a0 i1 I = some r → aGo kad d 238 (0, ([(0, .ref a0), (1, .int i1)], [])) (aMem Z I, t) (qV Z t r) := by
  intro a0 i1 I r h
  unfold f238 at h
  refine go_ops aMi238 7 _ (f1 := (9, ([(0, .ref a0), (1, .int i1)], [.int ((32 : Int32) + (i1 / (16 : Int32))), .ref a0, .int ((32 : Int32) + (i1 / (16 : Int32))), .ref a0]))) rfl ?_
  obtain ⟨x9_1, hxx9_1, h⟩ := Option.bind_eq_some_iff.mp h
  refine gg_lI (Or.inl ⟨rfl, rfl⟩) aMi238 rfl hxx9_1 ?_
  refine go_ops aMi238 6 _ (f1 := (17, ([(0, .ref a0), (1, .int i1)], [.int (x9_1 ^^^ ((1 : Int32) <<< ((i1 - i1 / (16 : Int32) * (16 : Int32)) &&& 31))), .int ((32 : Int32) + (i1 / (16 : Int32))), .ref a0]))) rfl ?_
  obtain ⟨I17_2, hxI17_2, h⟩ := Option.bind_eq_some_iff.mp h
  refine gg_sI (Or.inl ⟨rfl, rfl⟩) aMi238 rfl hxI17_2 ?_
  cases h
  exact go_ret aMi238 rfl rfl ⟨rfl, rfl⟩
-- KernelGymModel.appends (I)I
def f245_b92 (kad : Nat → Nat) (N : Nat) (Z : AZ) (a0 : Nat) (i1 : Int32) (i2 : Int32) (i3 : Int32) (I : AI) : Option (Int32 × AI) :=
  (gR Z I 11 51 a0).bind fun b94_1 =>
  (isK Z a0 11).bind fun u99_2 =>
  (f241 kad N Z a0 b94_1 i1 i2 I).bind fun r99_3 =>
  (gR Z r99_3.2 11 51 a0).bind fun b105_4 =>
  (gR Z r99_3.2 11 26 a0).bind fun b119_5 =>
  (lI Z r99_3.2 100 b119_5 (1 : Int32)).bind fun x123_6 =>
  (sI Z r99_3.2 100 b105_4 (((8 : Int32) * r99_3.1) + (i2 - i2 / (8 : Int32) * (8 : Int32))) x123_6).bind fun I124_7 =>
  (gR Z I124_7 11 51 a0).bind fun b126_8 =>
  (f235 kad N Z i1 I124_7).bind fun r130_9 =>
  (sI Z r130_9.2 100 b126_8 (r130_9.1 + (1 : Int32)) (i2 + (1 : Int32))).bind fun I138_10 =>
  some ((i3 ||| ((1 : Int32) <<< (r99_3.1 &&& 31))), I138_10)
set_option maxRecDepth 20000 in
theorem Tf245_b92 {kad : Nat → Nat} {N : Nat} {Z : AZ} {d : Nat} {t : Option Nat × (Nat × Nat)} (hd : 2 ≤ d) : ∀ (a0 : Nat) (i1 : Int32) (i2 : Int32) (i3 : Int32) (I : AI) (r : Int32 × AI), f245_b92 kad N Z a0 i1 i2 i3 I = some r → aGo kad d 245 (92, ([(0, .ref a0), (1, .int i1), (2, .int i2), (3, .int i3)], [])) (aMem Z I, t) (qI Z t r) := by
  intro a0 i1 i2 i3 I r h
  unfold f245_b92 at h
  refine go_ops aMi245 2 _ (f1 := (94, ([(0, .ref a0), (1, .int i1), (2, .int i2), (3, .int i3)], [.ref a0, .ref a0]))) rfl ?_
  obtain ⟨b94_1, hxb94_1, h⟩ := Option.bind_eq_some_iff.mp h
  refine gg_gR aMi245 rfl rfl rfl hxb94_1 ?_
  refine go_ops aMi245 2 _ (f1 := (99, ([(0, .ref a0), (1, .int i1), (2, .int i2), (3, .int i3)], [.int i2, .int i1, .ref b94_1, .ref a0]))) rfl ?_
  obtain ⟨u99_2, hxu99_2, h⟩ := Option.bind_eq_some_iff.mp h
  obtain ⟨r99_3, hxr99_3, h⟩ := Option.bind_eq_some_iff.mp h
  refine gg_cv (as := [.ref b94_1, .int i1, .int i2]) (r := []) aMi245 rfl rfl rfl aMi241 (Nat.le_of_ble_eq_true rfl) rfl (Nat.le_of_ble_eq_true rfl) (Nat.le_of_ble_eq_true rfl) (by omega) hxu99_2 (Tf241 (by omega) a0 b94_1 i1 i2 I _ hxr99_3) ?_
  show aGo kad d 245 (102, ([(0, .ref a0), (1, .int i1), (2, .int i2), (3, .int i3)], [.int r99_3.1])) (aMem Z r99_3.2, t) _
  refine go_ops aMi245 2 _ (f1 := (105, ([(4, .int r99_3.1), (0, .ref a0), (1, .int i1), (2, .int i2), (3, .int i3)], [.ref a0]))) rfl ?_
  obtain ⟨b105_4, hxb105_4, h⟩ := Option.bind_eq_some_iff.mp h
  refine gg_gR aMi245 rfl rfl rfl hxb105_4 ?_
  refine go_ops aMi245 8 _ (f1 := (119, ([(4, .int r99_3.1), (0, .ref a0), (1, .int i1), (2, .int i2), (3, .int i3)], [.ref a0, .int (((8 : Int32) * r99_3.1) + (i2 - i2 / (8 : Int32) * (8 : Int32))), .ref b105_4]))) rfl ?_
  obtain ⟨b119_5, hxb119_5, h⟩ := Option.bind_eq_some_iff.mp h
  refine gg_gR aMi245 rfl rfl rfl hxb119_5 ?_
  refine go_ops aMi245 1 _ (f1 := (123, ([(4, .int r99_3.1), (0, .ref a0), (1, .int i1), (2, .int i2), (3, .int i3)], [.int (1 : Int32), .ref b119_5, .int (((8 : Int32) * r99_3.1) + (i2 - i2 / (8 : Int32) * (8 : Int32))), .ref b105_4]))) rfl ?_
  obtain ⟨x123_6, hxx123_6, h⟩ := Option.bind_eq_some_iff.mp h
  refine gg_lI (Or.inl ⟨rfl, rfl⟩) aMi245 rfl hxx123_6 ?_
  obtain ⟨I124_7, hxI124_7, h⟩ := Option.bind_eq_some_iff.mp h
  refine gg_sI (Or.inl ⟨rfl, rfl⟩) aMi245 rfl hxI124_7 ?_
  refine go_ops aMi245 1 _ (f1 := (126, ([(4, .int r99_3.1), (0, .ref a0), (1, .int i1), (2, .int i2), (3, .int i3)], [.ref a0]))) rfl ?_
  obtain ⟨b126_8, hxb126_8, h⟩ := Option.bind_eq_some_iff.mp h
  refine gg_gR aMi245 rfl rfl rfl hxb126_8 ?_
  refine go_ops aMi245 1 _ (f1 := (130, ([(4, .int r99_3.1), (0, .ref a0), (1, .int i1), (2, .int i2), (3, .int i3)], [.int i1, .ref b126_8]))) rfl ?_
  obtain ⟨r130_9, hxr130_9, h⟩ := Option.bind_eq_some_iff.mp h
  refine gg_cs (as := [.int i1]) (r := [.ref b126_8]) aMi245 rfl rfl rfl aMi235 rfl (Nat.le_of_ble_eq_true rfl) (Nat.le_of_ble_eq_true rfl) (by omega) (Tf235 (by omega) i1 I124_7 _ hxr130_9) ?_
  show aGo kad d 245 (133, ([(4, .int r99_3.1), (0, .ref a0), (1, .int i1), (2, .int i2), (3, .int i3)], [.int r130_9.1, .ref b126_8])) (aMem Z r130_9.2, t) _
  refine go_ops aMi245 5 _ (f1 := (138, ([(4, .int r99_3.1), (0, .ref a0), (1, .int i1), (2, .int i2), (3, .int i3)], [.int (i2 + (1 : Int32)), .int (r130_9.1 + (1 : Int32)), .ref b126_8]))) rfl ?_
  obtain ⟨I138_10, hxI138_10, h⟩ := Option.bind_eq_some_iff.mp h
  refine gg_sI (Or.inl ⟨rfl, rfl⟩) aMi245 rfl hxI138_10 ?_
  refine go_ops aMi245 5 _ (f1 := (145, ([(4, .int r99_3.1), (0, .ref a0), (1, .int i1), (2, .int i2), (3, .int i3)], [.int (i3 ||| ((1 : Int32) <<< (r99_3.1 &&& 31)))]))) rfl ?_
  cases h
  exact go_ret aMi245 rfl aRetI ⟨rfl, rfl⟩
def f245_b60 (kad : Nat → Nat) (N : Nat) (Z : AZ) : Nat → Nat → Int32 → Int32 → Int32 → Int32 → Int32 → AI → Option (Int32 × AI)
  | 0, _, _, _, _, _, _, _ => none
  | F + 1, a0, i1, i2, i3, i4, i5, I =>
    if (8 : Int32) ≤ i5 then
      f245_b92 kad N Z a0 i1 i2 (i3 ||| (16 : Int32)) I
    else
      (gR Z I 11 51 a0).bind fun b68_1 =>
      (sI Z I 100 b68_1 (((8 : Int32) * i4) + i5) (0 : Int32)).bind fun I80_2 =>
      f245_b60 kad N Z F a0 i1 i2 i3 i4 (i5 + (1 : Int32)) I80_2
set_option maxRecDepth 20000 in
theorem Tf245_b60 {kad : Nat → Nat} {N : Nat} {Z : AZ} {d : Nat} {t : Option Nat × (Nat × Nat)} (hd : 2 ≤ d) : ∀ (F : Nat) (a0 : Nat) (i1 : Int32) (i2 : Int32) (i3 : Int32) (i4 : Int32) (i5 : Int32) (I : AI) (r : Int32 × AI), f245_b60 kad N Z F a0 i1 i2 i3 i4 i5 I = some r → aGo kad d 245 (60, ([(0, .ref a0), (1, .int i1), (2, .int i2), (3, .int i3), (4, .int i4), (5, .int i5)], [])) (aMem Z I, t) (qI Z t r) := by
  intro F
  induction F with
  | zero => intro a0 i1 i2 i3 i4 i5 I r h; cases h
  | succ F ih =>
    intro a0 i1 i2 i3 i4 i5 I r h
    unfold f245_b60 at h
    refine go_ops aMi245 2 _ (f1 := (64, ([(0, .ref a0), (1, .int i1), (2, .int i2), (3, .int i3), (4, .int i4), (5, .int i5)], [.int (8 : Int32), .int i5]))) rfl ?_
    refine gg_br (b := decide ((8 : Int32) ≤ i5)) (tg := 87) (off := 23) aMi245 rfl rfl rfl rfl (fun hb => ?_) (fun hb => ?_)
    · rw [if_pos (of_decide_eq_true hb)] at h
      refine go_ops aMi245 4 _ (f1 := (92, ([(3, .int (i3 ||| (16 : Int32))), (0, .ref a0), (1, .int i1), (2, .int i2), (4, .int i4), (5, .int i5)], []))) rfl ?_
      refine go_le (lv1 := [(0, .ref a0), (1, .int i1), (2, .int i2), (3, .int (i3 ||| (16 : Int32)))]) (aLe_of (show (List.map (fun q => q.1) ([(0, .ref a0), (1, .int i1), (2, .int i2), (3, .int (i3 ||| (16 : Int32)))] : ALv)).Nodup from (by show ([0, 1, 2, 3] : List Nat).Nodup; decide)) (aSubL_cons rfl (aSubL_cons rfl (aSubL_cons rfl (aSubL_cons rfl aSubL_nil))))) ?_
      exact Tf245_b92 hd a0 i1 i2 (i3 ||| (16 : Int32)) I _ h
    · rw [if_neg (of_decide_eq_false hb)] at h
      refine go_ops aMi245 1 _ (f1 := (68, ([(0, .ref a0), (1, .int i1), (2, .int i2), (3, .int i3), (4, .int i4), (5, .int i5)], [.ref a0]))) rfl ?_
      obtain ⟨b68_1, hxb68_1, h⟩ := Option.bind_eq_some_iff.mp h
      refine gg_gR aMi245 rfl rfl rfl hxb68_1 ?_
      refine go_ops aMi245 6 _ (f1 := (80, ([(0, .ref a0), (1, .int i1), (2, .int i2), (3, .int i3), (4, .int i4), (5, .int i5)], [.int (0 : Int32), .int (((8 : Int32) * i4) + i5), .ref b68_1]))) rfl ?_
      obtain ⟨I80_2, hxI80_2, h⟩ := Option.bind_eq_some_iff.mp h
      refine gg_sI (Or.inl ⟨rfl, rfl⟩) aMi245 rfl hxI80_2 ?_
      refine go_ops aMi245 2 _ (f1 := (60, ([(5, .int (i5 + (1 : Int32))), (0, .ref a0), (1, .int i1), (2, .int i2), (3, .int i3), (4, .int i4)], []))) rfl ?_
      refine go_le (lv1 := [(0, .ref a0), (1, .int i1), (2, .int i2), (3, .int i3), (4, .int i4), (5, .int (i5 + (1 : Int32)))]) (aLe_of (show (List.map (fun q => q.1) ([(0, .ref a0), (1, .int i1), (2, .int i2), (3, .int i3), (4, .int i4), (5, .int (i5 + (1 : Int32)))] : ALv)).Nodup from (by show ([0, 1, 2, 3, 4, 5] : List Nat).Nodup; decide)) (aSubL_cons rfl (aSubL_cons rfl (aSubL_cons rfl (aSubL_cons rfl (aSubL_cons rfl (aSubL_cons rfl aSubL_nil))))))) ?_
      exact ih a0 i1 i2 i3 i4 (i5 + (1 : Int32)) I80_2 _ h
def f245 (kad : Nat → Nat) (N : Nat) (Z : AZ) (a0 : Nat) (i1 : Int32) (I : AI) : Option (Int32 × AI) :=
  (gR Z I 11 51 a0).bind fun b1_1 =>
  (f235 kad N Z i1 I).bind fun r5_2 =>
  (lI Z r5_2.2 100 b1_1 (r5_2.1 + (1 : Int32))).bind fun x10_3 =>
  (f243 kad N Z i1 r5_2.2).bind fun r13_4 =>
  if ¬ (x10_3 - x10_3 / (8 : Int32) * (8 : Int32)) = 0 then
    f245_b92 kad N Z a0 i1 x10_3 r13_4.1 r13_4.2
  else
    (isK Z a0 11).bind fun u25_5 =>
    (f239 kad N Z a0 r13_4.2).bind fun r25_6 =>
    (gR Z r25_6.2 11 51 a0).bind fun b31_7 =>
    (f238 kad N Z b31_7 r25_6.1 r25_6.2).bind fun r36_8 =>
    (gR Z r36_8.2 11 51 a0).bind fun b40_9 =>
    (f235 kad N Z i1 r36_8.2).bind fun r44_10 =>
    (sI Z r44_10.2 100 b40_9 ((r44_10.1 + (2 : Int32)) + (x10_3 / (8 : Int32))) r25_6.1).bind fun I56_11 =>
    f245_b60 kad N Z N a0 i1 x10_3 r13_4.1 r25_6.1 (0 : Int32) I56_11
set_option maxRecDepth 20000 in
theorem Tf245 {kad : Nat → Nat} {N : Nat} {Z : AZ} {d : Nat} {t : Option Nat × (Nat × Nat)} (hd : 2 ≤ d) : ∀ (a0 : Nat) (i1 : Int32) (I : AI) (r : Int32 × AI), f245 kad N Z a0 i1 I = some r → aGo kad d 245 (0, ([(0, .ref a0), (1, .int i1)], [])) (aMem Z I, t) (qI Z t r) := by
  intro a0 i1 I r h
  unfold f245 at h
  refine go_ops aMi245 1 _ (f1 := (1, ([(0, .ref a0), (1, .int i1)], [.ref a0]))) rfl ?_
  obtain ⟨b1_1, hxb1_1, h⟩ := Option.bind_eq_some_iff.mp h
  refine gg_gR aMi245 rfl rfl rfl hxb1_1 ?_
  refine go_ops aMi245 1 _ (f1 := (5, ([(0, .ref a0), (1, .int i1)], [.int i1, .ref b1_1]))) rfl ?_
  obtain ⟨r5_2, hxr5_2, h⟩ := Option.bind_eq_some_iff.mp h
  refine gg_cs (as := [.int i1]) (r := [.ref b1_1]) aMi245 rfl rfl rfl aMi235 rfl (Nat.le_of_ble_eq_true rfl) (Nat.le_of_ble_eq_true rfl) (by omega) (Tf235 (by omega) i1 I _ hxr5_2) ?_
  show aGo kad d 245 (8, ([(0, .ref a0), (1, .int i1)], [.int r5_2.1, .ref b1_1])) (aMem Z r5_2.2, t) _
  refine go_ops aMi245 2 _ (f1 := (10, ([(0, .ref a0), (1, .int i1)], [.int (r5_2.1 + (1 : Int32)), .ref b1_1]))) rfl ?_
  obtain ⟨x10_3, hxx10_3, h⟩ := Option.bind_eq_some_iff.mp h
  refine gg_lI (Or.inl ⟨rfl, rfl⟩) aMi245 rfl hxx10_3 ?_
  refine go_ops aMi245 2 _ (f1 := (13, ([(2, .int x10_3), (0, .ref a0), (1, .int i1)], [.int i1]))) rfl ?_
  obtain ⟨r13_4, hxr13_4, h⟩ := Option.bind_eq_some_iff.mp h
  refine gg_cs (as := [.int i1]) (r := []) aMi245 rfl rfl rfl aMi243 rfl (Nat.le_of_ble_eq_true rfl) (Nat.le_of_ble_eq_true rfl) (by omega) (Tf243 (by omega) i1 r5_2.2 _ hxr13_4) ?_
  show aGo kad d 245 (16, ([(2, .int x10_3), (0, .ref a0), (1, .int i1)], [.int r13_4.1])) (aMem Z r13_4.2, t) _
  refine go_ops aMi245 4 _ (f1 := (21, ([(3, .int r13_4.1), (2, .int x10_3), (0, .ref a0), (1, .int i1)], [.int (x10_3 - x10_3 / (8 : Int32) * (8 : Int32))]))) rfl ?_
  refine gg_br (b := decide (¬ (x10_3 - x10_3 / (8 : Int32) * (8 : Int32)) = 0)) (tg := 92) (off := 71) aMi245 rfl rfl rfl rfl (fun hb => ?_) (fun hb => ?_)
  · rw [if_pos (of_decide_eq_true hb)] at h
    refine go_le (lv1 := [(0, .ref a0), (1, .int i1), (2, .int x10_3), (3, .int r13_4.1)]) (aLe_of (show (List.map (fun q => q.1) ([(0, .ref a0), (1, .int i1), (2, .int x10_3), (3, .int r13_4.1)] : ALv)).Nodup from (by show ([0, 1, 2, 3] : List Nat).Nodup; decide)) (aSubL_cons rfl (aSubL_cons rfl (aSubL_cons rfl (aSubL_cons rfl aSubL_nil))))) ?_
    exact Tf245_b92 hd a0 i1 x10_3 r13_4.1 r13_4.2 _ h
  · rw [if_neg (of_decide_eq_false hb)] at h
    refine go_ops aMi245 1 _ (f1 := (25, ([(3, .int r13_4.1), (2, .int x10_3), (0, .ref a0), (1, .int i1)], [.ref a0]))) rfl ?_
    obtain ⟨u25_5, hxu25_5, h⟩ := Option.bind_eq_some_iff.mp h
    obtain ⟨r25_6, hxr25_6, h⟩ := Option.bind_eq_some_iff.mp h
    refine gg_cv (as := []) (r := []) aMi245 rfl rfl rfl aMi239 (Nat.le_of_ble_eq_true rfl) rfl (Nat.le_of_ble_eq_true rfl) (Nat.le_of_ble_eq_true rfl) (by omega) hxu25_5 (Tf239 (by omega) a0 r13_4.2 _ hxr25_6) ?_
    show aGo kad d 245 (28, ([(3, .int r13_4.1), (2, .int x10_3), (0, .ref a0), (1, .int i1)], [.int r25_6.1])) (aMem Z r25_6.2, t) _
    refine go_ops aMi245 2 _ (f1 := (31, ([(4, .int r25_6.1), (3, .int r13_4.1), (2, .int x10_3), (0, .ref a0), (1, .int i1)], [.ref a0]))) rfl ?_
    obtain ⟨b31_7, hxb31_7, h⟩ := Option.bind_eq_some_iff.mp h
    refine gg_gR aMi245 rfl rfl rfl hxb31_7 ?_
    refine go_ops aMi245 1 _ (f1 := (36, ([(4, .int r25_6.1), (3, .int r13_4.1), (2, .int x10_3), (0, .ref a0), (1, .int i1)], [.int r25_6.1, .ref b31_7]))) rfl ?_
    obtain ⟨r36_8, hxr36_8, h⟩ := Option.bind_eq_some_iff.mp h
    refine gg_cs (as := [.ref b31_7, .int r25_6.1]) (r := []) aMi245 rfl rfl rfl aMi238 rfl (Nat.le_of_ble_eq_true rfl) (Nat.le_of_ble_eq_true rfl) (by omega) (Tf238 (by omega) b31_7 r25_6.1 r25_6.2 _ hxr36_8) ?_
    show aGo kad d 245 (39, ([(4, .int r25_6.1), (3, .int r13_4.1), (2, .int x10_3), (0, .ref a0), (1, .int i1)], [])) (aMem Z r36_8.2, t) _
    refine go_ops aMi245 1 _ (f1 := (40, ([(4, .int r25_6.1), (3, .int r13_4.1), (2, .int x10_3), (0, .ref a0), (1, .int i1)], [.ref a0]))) rfl ?_
    obtain ⟨b40_9, hxb40_9, h⟩ := Option.bind_eq_some_iff.mp h
    refine gg_gR aMi245 rfl rfl rfl hxb40_9 ?_
    refine go_ops aMi245 1 _ (f1 := (44, ([(4, .int r25_6.1), (3, .int r13_4.1), (2, .int x10_3), (0, .ref a0), (1, .int i1)], [.int i1, .ref b40_9]))) rfl ?_
    obtain ⟨r44_10, hxr44_10, h⟩ := Option.bind_eq_some_iff.mp h
    refine gg_cs (as := [.int i1]) (r := [.ref b40_9]) aMi245 rfl rfl rfl aMi235 rfl (Nat.le_of_ble_eq_true rfl) (Nat.le_of_ble_eq_true rfl) (by omega) (Tf235 (by omega) i1 r36_8.2 _ hxr44_10) ?_
    show aGo kad d 245 (47, ([(4, .int r25_6.1), (3, .int r13_4.1), (2, .int x10_3), (0, .ref a0), (1, .int i1)], [.int r44_10.1, .ref b40_9])) (aMem Z r44_10.2, t) _
    refine go_ops aMi245 7 _ (f1 := (56, ([(4, .int r25_6.1), (3, .int r13_4.1), (2, .int x10_3), (0, .ref a0), (1, .int i1)], [.int r25_6.1, .int ((r44_10.1 + (2 : Int32)) + (x10_3 / (8 : Int32))), .ref b40_9]))) rfl ?_
    obtain ⟨I56_11, hxI56_11, h⟩ := Option.bind_eq_some_iff.mp h
    refine gg_sI (Or.inl ⟨rfl, rfl⟩) aMi245 rfl hxI56_11 ?_
    refine go_ops aMi245 2 _ (f1 := (60, ([(5, .int (0 : Int32)), (4, .int r25_6.1), (3, .int r13_4.1), (2, .int x10_3), (0, .ref a0), (1, .int i1)], []))) rfl ?_
    refine go_le (lv1 := [(0, .ref a0), (1, .int i1), (2, .int x10_3), (3, .int r13_4.1), (4, .int r25_6.1), (5, .int (0 : Int32))]) (aLe_of (show (List.map (fun q => q.1) ([(0, .ref a0), (1, .int i1), (2, .int x10_3), (3, .int r13_4.1), (4, .int r25_6.1), (5, .int (0 : Int32))] : ALv)).Nodup from (by show ([0, 1, 2, 3, 4, 5] : List Nat).Nodup; decide)) (aSubL_cons rfl (aSubL_cons rfl (aSubL_cons rfl (aSubL_cons rfl (aSubL_cons rfl (aSubL_cons rfl aSubL_nil))))))) ?_
    exact Tf245_b60 hd N a0 i1 x10_3 r13_4.1 r25_6.1 (0 : Int32) I56_11 _ h
-- KernelGymModel.replaces (I)I
def f246 (kad : Nat → Nat) (N : Nat) (Z : AZ) (a0 : Nat) (i1 : Int32) (I : AI) : Option (Int32 × AI) :=
  (gR Z I 11 51 a0).bind fun b2_1 =>
  (gR Z I 11 26 a0).bind fun b7_2 =>
  (lI Z I 100 b7_2 (1 : Int32)).bind fun x11_3 =>
  (isK Z a0 11).bind fun u12_4 =>
  (f241 kad N Z a0 b2_1 i1 x11_3 I).bind fun r12_5 =>
  (gR Z r12_5.2 11 51 a0).bind fun b17_6 =>
  (gR Z r12_5.2 11 26 a0).bind fun b25_7 =>
  (lI Z r12_5.2 100 b25_7 (1 : Int32)).bind fun x29_8 =>
  (gR Z r12_5.2 11 26 a0).bind fun b35_9 =>
  (lI Z r12_5.2 100 b35_9 (2 : Int32)).bind fun x39_10 =>
  (sI Z r12_5.2 100 b17_6 (((8 : Int32) * r12_5.1) + (x29_8 - x29_8 / (8 : Int32) * (8 : Int32))) x39_10).bind fun I40_11 =>
  some (((1 : Int32) <<< (r12_5.1 &&& 31)), I40_11)
set_option maxRecDepth 20000 in
theorem Tf246 {kad : Nat → Nat} {N : Nat} {Z : AZ} {d : Nat} {t : Option Nat × (Nat × Nat)} (hd : 2 ≤ d) : ∀ (a0 : Nat) (i1 : Int32) (I : AI) (r : Int32 × AI), f246 kad N Z a0 i1 I = some r → aGo kad d 246 (0, ([(0, .ref a0), (1, .int i1)], [])) (aMem Z I, t) (qI Z t r) := by
  intro a0 i1 I r h
  unfold f246 at h
  refine go_ops aMi246 2 _ (f1 := (2, ([(0, .ref a0), (1, .int i1)], [.ref a0, .ref a0]))) rfl ?_
  obtain ⟨b2_1, hxb2_1, h⟩ := Option.bind_eq_some_iff.mp h
  refine gg_gR aMi246 rfl rfl rfl hxb2_1 ?_
  refine go_ops aMi246 2 _ (f1 := (7, ([(0, .ref a0), (1, .int i1)], [.ref a0, .int i1, .ref b2_1, .ref a0]))) rfl ?_
  obtain ⟨b7_2, hxb7_2, h⟩ := Option.bind_eq_some_iff.mp h
  refine gg_gR aMi246 rfl rfl rfl hxb7_2 ?_
  refine go_ops aMi246 1 _ (f1 := (11, ([(0, .ref a0), (1, .int i1)], [.int (1 : Int32), .ref b7_2, .int i1, .ref b2_1, .ref a0]))) rfl ?_
  obtain ⟨x11_3, hxx11_3, h⟩ := Option.bind_eq_some_iff.mp h
  refine gg_lI (Or.inl ⟨rfl, rfl⟩) aMi246 rfl hxx11_3 ?_
  obtain ⟨u12_4, hxu12_4, h⟩ := Option.bind_eq_some_iff.mp h
  obtain ⟨r12_5, hxr12_5, h⟩ := Option.bind_eq_some_iff.mp h
  refine gg_cv (as := [.ref b2_1, .int i1, .int x11_3]) (r := []) aMi246 rfl rfl rfl aMi241 (Nat.le_of_ble_eq_true rfl) rfl (Nat.le_of_ble_eq_true rfl) (Nat.le_of_ble_eq_true rfl) (by omega) hxu12_4 (Tf241 (by omega) a0 b2_1 i1 x11_3 I _ hxr12_5) ?_
  show aGo kad d 246 (15, ([(0, .ref a0), (1, .int i1)], [.int r12_5.1])) (aMem Z r12_5.2, t) _
  refine go_ops aMi246 2 _ (f1 := (17, ([(2, .int r12_5.1), (0, .ref a0), (1, .int i1)], [.ref a0]))) rfl ?_
  obtain ⟨b17_6, hxb17_6, h⟩ := Option.bind_eq_some_iff.mp h
  refine gg_gR aMi246 rfl rfl rfl hxb17_6 ?_
  refine go_ops aMi246 4 _ (f1 := (25, ([(2, .int r12_5.1), (0, .ref a0), (1, .int i1)], [.ref a0, .int ((8 : Int32) * r12_5.1), .ref b17_6]))) rfl ?_
  obtain ⟨b25_7, hxb25_7, h⟩ := Option.bind_eq_some_iff.mp h
  refine gg_gR aMi246 rfl rfl rfl hxb25_7 ?_
  refine go_ops aMi246 1 _ (f1 := (29, ([(2, .int r12_5.1), (0, .ref a0), (1, .int i1)], [.int (1 : Int32), .ref b25_7, .int ((8 : Int32) * r12_5.1), .ref b17_6]))) rfl ?_
  obtain ⟨x29_8, hxx29_8, h⟩ := Option.bind_eq_some_iff.mp h
  refine gg_lI (Or.inl ⟨rfl, rfl⟩) aMi246 rfl hxx29_8 ?_
  refine go_ops aMi246 4 _ (f1 := (35, ([(2, .int r12_5.1), (0, .ref a0), (1, .int i1)], [.ref a0, .int (((8 : Int32) * r12_5.1) + (x29_8 - x29_8 / (8 : Int32) * (8 : Int32))), .ref b17_6]))) rfl ?_
  obtain ⟨b35_9, hxb35_9, h⟩ := Option.bind_eq_some_iff.mp h
  refine gg_gR aMi246 rfl rfl rfl hxb35_9 ?_
  refine go_ops aMi246 1 _ (f1 := (39, ([(2, .int r12_5.1), (0, .ref a0), (1, .int i1)], [.int (2 : Int32), .ref b35_9, .int (((8 : Int32) * r12_5.1) + (x29_8 - x29_8 / (8 : Int32) * (8 : Int32))), .ref b17_6]))) rfl ?_
  obtain ⟨x39_10, hxx39_10, h⟩ := Option.bind_eq_some_iff.mp h
  refine gg_lI (Or.inl ⟨rfl, rfl⟩) aMi246 rfl hxx39_10 ?_
  obtain ⟨I40_11, hxI40_11, h⟩ := Option.bind_eq_some_iff.mp h
  refine gg_sI (Or.inl ⟨rfl, rfl⟩) aMi246 rfl hxI40_11 ?_
  refine go_ops aMi246 3 _ (f1 := (44, ([(2, .int r12_5.1), (0, .ref a0), (1, .int i1)], [.int ((1 : Int32) <<< (r12_5.1 &&& 31))]))) rfl ?_
  cases h
  exact go_ret aMi246 rfl aRetI ⟨rfl, rfl⟩
-- KernelGymModel.removes (I)I
def f247_b44 (kad : Nat → Nat) (N : Nat) (Z : AZ) (k7 : Nat → Int32 → Int32 → Int32 → AI → Option (Int32 × AI)) (a0 : Nat) (i1 : Int32) (i2 : Int32) (i3 : Int32) (I : AI) : Option (Int32 × AI) :=
  k7 a0 i1 i2 (i3 + (1 : Int32)) I
set_option maxRecDepth 20000 in
theorem Tf247_b44 {kad : Nat → Nat} {N : Nat} {Z : AZ} {d : Nat} {t : Option Nat × (Nat × Nat)} (hd : 1 ≤ d) (k7 : Nat → Int32 → Int32 → Int32 → AI → Option (Int32 × AI))  (hk7 : ∀ (a0 : Nat) (i1 : Int32) (i2 : Int32) (i3 : Int32)  (I : AI) (r : Int32 × AI), k7 a0 i1 i2 i3 I = some r → aGo kad d 247 (7, ([(0, .ref a0), (1, .int i1), (2, .int i2), (3, .int i3)], [])) (aMem Z I, t) (qI Z t r)) : ∀ (a0 : Nat) (i1 : Int32) (i2 : Int32) (i3 : Int32) (I : AI) (r : Int32 × AI), f247_b44 kad N Z k7 a0 i1 i2 i3 I = some r → aGo kad d 247 (44, ([(0, .ref a0), (1, .int i1), (2, .int i2), (3, .int i3)], [])) (aMem Z I, t) (qI Z t r) := by
  intro a0 i1 i2 i3 I r h
  unfold f247_b44 at h
  refine go_ops aMi247 2 _ (f1 := (7, ([(3, .int (i3 + (1 : Int32))), (0, .ref a0), (1, .int i1), (2, .int i2)], []))) rfl ?_
  refine go_le (lv1 := [(0, .ref a0), (1, .int i1), (2, .int i2), (3, .int (i3 + (1 : Int32)))]) (aLe_of (show (List.map (fun q => q.1) ([(0, .ref a0), (1, .int i1), (2, .int i2), (3, .int (i3 + (1 : Int32)))] : ALv)).Nodup from (by show ([0, 1, 2, 3] : List Nat).Nodup; decide)) (aSubL_cons rfl (aSubL_cons rfl (aSubL_cons rfl (aSubL_cons rfl aSubL_nil))))) ?_
  exact hk7 a0 i1 i2 (i3 + (1 : Int32)) I _ h
def f247_b52 (kad : Nat → Nat) (N : Nat) (Z : AZ) : Nat → Nat → Int32 → Int32 → Int32 → AI → Option (Int32 × AI)
  | 0, _, _, _, _, _ => none
  | F + 1, a0, i1, i2, i3, I =>
    if (4 : Int32) ≤ i3 then
      some (i2, I)
    else
      (gR Z I 11 51 a0).bind fun b58_1 =>
      (f235 kad N Z i1 I).bind fun r62_2 =>
      (sI Z r62_2.2 100 b58_1 (r62_2.1 + i3) (0 : Int32)).bind fun I68_3 =>
      f247_b52 kad N Z F a0 i1 i2 (i3 + (1 : Int32)) I68_3
set_option maxRecDepth 20000 in
theorem Tf247_b52 {kad : Nat → Nat} {N : Nat} {Z : AZ} {d : Nat} {t : Option Nat × (Nat × Nat)} (hd : 1 ≤ d) : ∀ (F : Nat) (a0 : Nat) (i1 : Int32) (i2 : Int32) (i3 : Int32) (I : AI) (r : Int32 × AI), f247_b52 kad N Z F a0 i1 i2 i3 I = some r → aGo kad d 247 (52, ([(0, .ref a0), (1, .int i1), (2, .int i2), (3, .int i3)], [])) (aMem Z I, t) (qI Z t r) := by
  intro F
  induction F with
  | zero => intro a0 i1 i2 i3 I r h; cases h
  | succ F ih =>
    intro a0 i1 i2 i3 I r h
    unfold f247_b52 at h
    refine go_ops aMi247 2 _ (f1 := (54, ([(0, .ref a0), (1, .int i1), (2, .int i2), (3, .int i3)], [.int (4 : Int32), .int i3]))) rfl ?_
    refine gg_br (b := decide ((4 : Int32) ≤ i3)) (tg := 75) (off := 21) aMi247 rfl rfl rfl rfl (fun hb => ?_) (fun hb => ?_)
    · rw [if_pos (of_decide_eq_true hb)] at h
      refine go_ops aMi247 1 _ (f1 := (76, ([(0, .ref a0), (1, .int i1), (2, .int i2), (3, .int i3)], [.int i2]))) rfl ?_
      cases h
      exact go_ret aMi247 rfl aRetI ⟨rfl, rfl⟩
    · rw [if_neg (of_decide_eq_false hb)] at h
      refine go_ops aMi247 1 _ (f1 := (58, ([(0, .ref a0), (1, .int i1), (2, .int i2), (3, .int i3)], [.ref a0]))) rfl ?_
      obtain ⟨b58_1, hxb58_1, h⟩ := Option.bind_eq_some_iff.mp h
      refine gg_gR aMi247 rfl rfl rfl hxb58_1 ?_
      refine go_ops aMi247 1 _ (f1 := (62, ([(0, .ref a0), (1, .int i1), (2, .int i2), (3, .int i3)], [.int i1, .ref b58_1]))) rfl ?_
      obtain ⟨r62_2, hxr62_2, h⟩ := Option.bind_eq_some_iff.mp h
      refine gg_cs (as := [.int i1]) (r := [.ref b58_1]) aMi247 rfl rfl rfl aMi235 rfl (Nat.le_of_ble_eq_true rfl) (Nat.le_of_ble_eq_true rfl) (by omega) (Tf235 (by omega) i1 I _ hxr62_2) ?_
      show aGo kad d 247 (65, ([(0, .ref a0), (1, .int i1), (2, .int i2), (3, .int i3)], [.int r62_2.1, .ref b58_1])) (aMem Z r62_2.2, t) _
      refine go_ops aMi247 3 _ (f1 := (68, ([(0, .ref a0), (1, .int i1), (2, .int i2), (3, .int i3)], [.int (0 : Int32), .int (r62_2.1 + i3), .ref b58_1]))) rfl ?_
      obtain ⟨I68_3, hxI68_3, h⟩ := Option.bind_eq_some_iff.mp h
      refine gg_sI (Or.inl ⟨rfl, rfl⟩) aMi247 rfl hxI68_3 ?_
      refine go_ops aMi247 2 _ (f1 := (52, ([(3, .int (i3 + (1 : Int32))), (0, .ref a0), (1, .int i1), (2, .int i2)], []))) rfl ?_
      refine go_le (lv1 := [(0, .ref a0), (1, .int i1), (2, .int i2), (3, .int (i3 + (1 : Int32)))]) (aLe_of (show (List.map (fun q => q.1) ([(0, .ref a0), (1, .int i1), (2, .int i2), (3, .int (i3 + (1 : Int32)))] : ALv)).Nodup from (by show ([0, 1, 2, 3] : List Nat).Nodup; decide)) (aSubL_cons rfl (aSubL_cons rfl (aSubL_cons rfl (aSubL_cons rfl aSubL_nil))))) ?_
      exact ih a0 i1 i2 (i3 + (1 : Int32)) I68_3 _ h
def f247_b7 (kad : Nat → Nat) (N : Nat) (Z : AZ) : Nat → Nat → Int32 → Int32 → Int32 → AI → Option (Int32 × AI)
  | 0, _, _, _, _, _ => none
  | F + 1, a0, i1, i2, i3, I =>
    if (4 : Int32) ≤ i3 then
      f247_b52 kad N Z N a0 i1 i2 (0 : Int32) I
    else
      (gR Z I 11 51 a0).bind fun b13_1 =>
      (f235 kad N Z i1 I).bind fun r17_2 =>
      (lI Z r17_2.2 100 b13_1 (r17_2.1 + i3)).bind fun x22_3 =>
      if x22_3 = 0 then
        f247_b44 kad N Z (fun p0 p1 p2 p3 I => f247_b7 kad N Z F p0 p1 p2 p3 I) a0 i1 i2 i3 r17_2.2
      else
        (gR Z r17_2.2 11 51 a0).bind fun b31_4 =>
        (f238 kad N Z b31_4 x22_3 r17_2.2).bind fun r36_5 =>
        f247_b44 kad N Z (fun p0 p1 p2 p3 I => f247_b7 kad N Z F p0 p1 p2 p3 I) a0 i1 (i2 ||| (16 : Int32)) i3 r36_5.2
set_option maxRecDepth 20000 in
theorem Tf247_b7 {kad : Nat → Nat} {N : Nat} {Z : AZ} {d : Nat} {t : Option Nat × (Nat × Nat)} (hd : 1 ≤ d) : ∀ (F : Nat) (a0 : Nat) (i1 : Int32) (i2 : Int32) (i3 : Int32) (I : AI) (r : Int32 × AI), f247_b7 kad N Z F a0 i1 i2 i3 I = some r → aGo kad d 247 (7, ([(0, .ref a0), (1, .int i1), (2, .int i2), (3, .int i3)], [])) (aMem Z I, t) (qI Z t r) := by
  intro F
  induction F with
  | zero => intro a0 i1 i2 i3 I r h; cases h
  | succ F ih =>
    intro a0 i1 i2 i3 I r h
    unfold f247_b7 at h
    refine go_ops aMi247 2 _ (f1 := (9, ([(0, .ref a0), (1, .int i1), (2, .int i2), (3, .int i3)], [.int (4 : Int32), .int i3]))) rfl ?_
    refine gg_br (b := decide ((4 : Int32) ≤ i3)) (tg := 50) (off := 41) aMi247 rfl rfl rfl rfl (fun hb => ?_) (fun hb => ?_)
    · rw [if_pos (of_decide_eq_true hb)] at h
      refine go_ops aMi247 2 _ (f1 := (52, ([(3, .int (0 : Int32)), (0, .ref a0), (1, .int i1), (2, .int i2)], []))) rfl ?_
      refine go_le (lv1 := [(0, .ref a0), (1, .int i1), (2, .int i2), (3, .int (0 : Int32))]) (aLe_of (show (List.map (fun q => q.1) ([(0, .ref a0), (1, .int i1), (2, .int i2), (3, .int (0 : Int32))] : ALv)).Nodup from (by show ([0, 1, 2, 3] : List Nat).Nodup; decide)) (aSubL_cons rfl (aSubL_cons rfl (aSubL_cons rfl (aSubL_cons rfl aSubL_nil))))) ?_
      exact Tf247_b52 hd N a0 i1 i2 (0 : Int32) I _ h
    · rw [if_neg (of_decide_eq_false hb)] at h
      refine go_ops aMi247 1 _ (f1 := (13, ([(0, .ref a0), (1, .int i1), (2, .int i2), (3, .int i3)], [.ref a0]))) rfl ?_
      obtain ⟨b13_1, hxb13_1, h⟩ := Option.bind_eq_some_iff.mp h
      refine gg_gR aMi247 rfl rfl rfl hxb13_1 ?_
      refine go_ops aMi247 1 _ (f1 := (17, ([(0, .ref a0), (1, .int i1), (2, .int i2), (3, .int i3)], [.int i1, .ref b13_1]))) rfl ?_
      obtain ⟨r17_2, hxr17_2, h⟩ := Option.bind_eq_some_iff.mp h
      refine gg_cs (as := [.int i1]) (r := [.ref b13_1]) aMi247 rfl rfl rfl aMi235 rfl (Nat.le_of_ble_eq_true rfl) (Nat.le_of_ble_eq_true rfl) (by omega) (Tf235 (by omega) i1 I _ hxr17_2) ?_
      show aGo kad d 247 (20, ([(0, .ref a0), (1, .int i1), (2, .int i2), (3, .int i3)], [.int r17_2.1, .ref b13_1])) (aMem Z r17_2.2, t) _
      refine go_ops aMi247 2 _ (f1 := (22, ([(0, .ref a0), (1, .int i1), (2, .int i2), (3, .int i3)], [.int (r17_2.1 + i3), .ref b13_1]))) rfl ?_
      obtain ⟨x22_3, hxx22_3, h⟩ := Option.bind_eq_some_iff.mp h
      refine gg_lI (Or.inl ⟨rfl, rfl⟩) aMi247 rfl hxx22_3 ?_
      refine go_ops aMi247 2 _ (f1 := (27, ([(4, .int x22_3), (0, .ref a0), (1, .int i1), (2, .int i2), (3, .int i3)], [.int x22_3]))) rfl ?_
      refine gg_br (b := decide (x22_3 = 0)) (tg := 44) (off := 17) aMi247 rfl rfl rfl rfl (fun hb => ?_) (fun hb => ?_)
      · rw [if_pos (of_decide_eq_true hb)] at h
        refine go_le (lv1 := [(0, .ref a0), (1, .int i1), (2, .int i2), (3, .int i3)]) (aLe_of (show (List.map (fun q => q.1) ([(0, .ref a0), (1, .int i1), (2, .int i2), (3, .int i3)] : ALv)).Nodup from (by show ([0, 1, 2, 3] : List Nat).Nodup; decide)) (aSubL_cons rfl (aSubL_cons rfl (aSubL_cons rfl (aSubL_cons rfl aSubL_nil))))) ?_
        exact Tf247_b44 hd (fun p0 p1 p2 p3 I => f247_b7 kad N Z F p0 p1 p2 p3 I) (fun p0 p1 p2 p3 I r hh => ih p0 p1 p2 p3 I r hh) a0 i1 i2 i3 r17_2.2 _ h
      · rw [if_neg (of_decide_eq_false hb)] at h
        refine go_ops aMi247 1 _ (f1 := (31, ([(4, .int x22_3), (0, .ref a0), (1, .int i1), (2, .int i2), (3, .int i3)], [.ref a0]))) rfl ?_
        obtain ⟨b31_4, hxb31_4, h⟩ := Option.bind_eq_some_iff.mp h
        refine gg_gR aMi247 rfl rfl rfl hxb31_4 ?_
        refine go_ops aMi247 1 _ (f1 := (36, ([(4, .int x22_3), (0, .ref a0), (1, .int i1), (2, .int i2), (3, .int i3)], [.int x22_3, .ref b31_4]))) rfl ?_
        obtain ⟨r36_5, hxr36_5, h⟩ := Option.bind_eq_some_iff.mp h
        refine gg_cs (as := [.ref b31_4, .int x22_3]) (r := []) aMi247 rfl rfl rfl aMi238 rfl (Nat.le_of_ble_eq_true rfl) (Nat.le_of_ble_eq_true rfl) (by omega) (Tf238 (by omega) b31_4 x22_3 r17_2.2 _ hxr36_5) ?_
        show aGo kad d 247 (39, ([(4, .int x22_3), (0, .ref a0), (1, .int i1), (2, .int i2), (3, .int i3)], [])) (aMem Z r36_5.2, t) _
        refine go_ops aMi247 4 _ (f1 := (44, ([(2, .int (i2 ||| (16 : Int32))), (4, .int x22_3), (0, .ref a0), (1, .int i1), (3, .int i3)], []))) rfl ?_
        refine go_le (lv1 := [(0, .ref a0), (1, .int i1), (2, .int (i2 ||| (16 : Int32))), (3, .int i3)]) (aLe_of (show (List.map (fun q => q.1) ([(0, .ref a0), (1, .int i1), (2, .int (i2 ||| (16 : Int32))), (3, .int i3)] : ALv)).Nodup from (by show ([0, 1, 2, 3] : List Nat).Nodup; decide)) (aSubL_cons rfl (aSubL_cons rfl (aSubL_cons rfl (aSubL_cons rfl aSubL_nil))))) ?_
        exact Tf247_b44 hd (fun p0 p1 p2 p3 I => f247_b7 kad N Z F p0 p1 p2 p3 I) (fun p0 p1 p2 p3 I r hh => ih p0 p1 p2 p3 I r hh) a0 i1 (i2 ||| (16 : Int32)) i3 r36_5.2 _ h
def f247 (kad : Nat → Nat) (N : Nat) (Z : AZ) (a0 : Nat) (i1 : Int32) (I : AI) : Option (Int32 × AI) :=
  (f243 kad N Z i1 I).bind fun r1_1 =>
  f247_b7 kad N Z N a0 i1 r1_1.1 (2 : Int32) r1_1.2
set_option maxRecDepth 20000 in
theorem Tf247 {kad : Nat → Nat} {N : Nat} {Z : AZ} {d : Nat} {t : Option Nat × (Nat × Nat)} (hd : 1 ≤ d) : ∀ (a0 : Nat) (i1 : Int32) (I : AI) (r : Int32 × AI), f247 kad N Z a0 i1 I = some r → aGo kad d 247 (0, ([(0, .ref a0), (1, .int i1)], [])) (aMem Z I, t) (qI Z t r) := by
  intro a0 i1 I r h
  unfold f247 at h
  refine go_ops aMi247 1 _ (f1 := (1, ([(0, .ref a0), (1, .int i1)], [.int i1]))) rfl ?_
  obtain ⟨r1_1, hxr1_1, h⟩ := Option.bind_eq_some_iff.mp h
  refine gg_cs (as := [.int i1]) (r := []) aMi247 rfl rfl rfl aMi243 rfl (Nat.le_of_ble_eq_true rfl) (Nat.le_of_ble_eq_true rfl) (by omega) (Tf243 (by omega) i1 I _ hxr1_1) ?_
  show aGo kad d 247 (4, ([(0, .ref a0), (1, .int i1)], [.int r1_1.1])) (aMem Z r1_1.2, t) _
  refine go_ops aMi247 3 _ (f1 := (7, ([(3, .int (2 : Int32)), (2, .int r1_1.1), (0, .ref a0), (1, .int i1)], []))) rfl ?_
  refine go_le (lv1 := [(0, .ref a0), (1, .int i1), (2, .int r1_1.1), (3, .int (2 : Int32))]) (aLe_of (show (List.map (fun q => q.1) ([(0, .ref a0), (1, .int i1), (2, .int r1_1.1), (3, .int (2 : Int32))] : ALv)).Nodup from (by show ([0, 1, 2, 3] : List Nat).Nodup; decide)) (aSubL_cons rfl (aSubL_cons rfl (aSubL_cons rfl (aSubL_cons rfl aSubL_nil))))) ?_
  exact Tf247_b7 hd N a0 i1 r1_1.1 (2 : Int32) r1_1.2 _ h
-- KernelGymModel.renames (I)I
def f248_b28 (kad : Nat → Nat) (N : Nat) (Z : AZ) (a0 : Nat) (i1 : Int32) (s0 : Int32) (I : AI) : Option (Int32 × AI) :=
  (gR Z I 11 51 a0).bind fun b30_1 =>
  (f235 kad N Z i1 I).bind fun r34_2 =>
  (gR Z r34_2.2 11 26 a0).bind fun b38_3 =>
  (lI Z r34_2.2 100 b38_3 (1 : Int32)).bind fun x42_4 =>
  (sI Z r34_2.2 100 b30_1 r34_2.1 x42_4).bind fun I43_5 =>
  (f243 kad N Z i1 I43_5).bind fun r46_6 =>
  some ((s0 ||| r46_6.1), r46_6.2)
set_option maxRecDepth 20000 in
theorem Tf248_b28 {kad : Nat → Nat} {N : Nat} {Z : AZ} {d : Nat} {t : Option Nat × (Nat × Nat)} (hd : 2 ≤ d) : ∀ (a0 : Nat) (i1 : Int32) (s0 : Int32) (I : AI) (r : Int32 × AI), f248_b28 kad N Z a0 i1 s0 I = some r → aGo kad d 248 (28, ([(0, .ref a0), (1, .int i1)], [.int s0])) (aMem Z I, t) (qI Z t r) := by
  intro a0 i1 s0 I r h
  unfold f248_b28 at h
  refine go_ops aMi248 2 _ (f1 := (30, ([(3, .int s0), (0, .ref a0), (1, .int i1)], [.ref a0]))) rfl ?_
  obtain ⟨b30_1, hxb30_1, h⟩ := Option.bind_eq_some_iff.mp h
  refine gg_gR aMi248 rfl rfl rfl hxb30_1 ?_
  refine go_ops aMi248 1 _ (f1 := (34, ([(3, .int s0), (0, .ref a0), (1, .int i1)], [.int i1, .ref b30_1]))) rfl ?_
  obtain ⟨r34_2, hxr34_2, h⟩ := Option.bind_eq_some_iff.mp h
  refine gg_cs (as := [.int i1]) (r := [.ref b30_1]) aMi248 rfl rfl rfl aMi235 rfl (Nat.le_of_ble_eq_true rfl) (Nat.le_of_ble_eq_true rfl) (by omega) (Tf235 (by omega) i1 I _ hxr34_2) ?_
  show aGo kad d 248 (37, ([(3, .int s0), (0, .ref a0), (1, .int i1)], [.int r34_2.1, .ref b30_1])) (aMem Z r34_2.2, t) _
  refine go_ops aMi248 1 _ (f1 := (38, ([(3, .int s0), (0, .ref a0), (1, .int i1)], [.ref a0, .int r34_2.1, .ref b30_1]))) rfl ?_
  obtain ⟨b38_3, hxb38_3, h⟩ := Option.bind_eq_some_iff.mp h
  refine gg_gR aMi248 rfl rfl rfl hxb38_3 ?_
  refine go_ops aMi248 1 _ (f1 := (42, ([(3, .int s0), (0, .ref a0), (1, .int i1)], [.int (1 : Int32), .ref b38_3, .int r34_2.1, .ref b30_1]))) rfl ?_
  obtain ⟨x42_4, hxx42_4, h⟩ := Option.bind_eq_some_iff.mp h
  refine gg_lI (Or.inl ⟨rfl, rfl⟩) aMi248 rfl hxx42_4 ?_
  obtain ⟨I43_5, hxI43_5, h⟩ := Option.bind_eq_some_iff.mp h
  refine gg_sI (Or.inl ⟨rfl, rfl⟩) aMi248 rfl hxI43_5 ?_
  refine go_ops aMi248 2 _ (f1 := (46, ([(3, .int s0), (0, .ref a0), (1, .int i1)], [.int i1, .int s0]))) rfl ?_
  obtain ⟨r46_6, hxr46_6, h⟩ := Option.bind_eq_some_iff.mp h
  refine gg_cs (as := [.int i1]) (r := [.int s0]) aMi248 rfl rfl rfl aMi243 rfl (Nat.le_of_ble_eq_true rfl) (Nat.le_of_ble_eq_true rfl) (by omega) (Tf243 (by omega) i1 I43_5 _ hxr46_6) ?_
  show aGo kad d 248 (49, ([(3, .int s0), (0, .ref a0), (1, .int i1)], [.int r46_6.1, .int s0])) (aMem Z r46_6.2, t) _
  refine go_ops aMi248 1 _ (f1 := (50, ([(3, .int s0), (0, .ref a0), (1, .int i1)], [.int (s0 ||| r46_6.1)]))) rfl ?_
  cases h
  exact go_ret aMi248 rfl aRetI ⟨rfl, rfl⟩
def f248 (kad : Nat → Nat) (N : Nat) (Z : AZ) (a0 : Nat) (i1 : Int32) (I : AI) : Option (Int32 × AI) :=
  (gR Z I 11 50 a0).bind fun b1_1 =>
  (gR Z I 11 26 a0).bind fun b5_2 =>
  (lI Z I 100 b5_2 (1 : Int32)).bind fun x9_3 =>
  (f236 kad N Z b1_1 x9_3 I).bind fun r10_4 =>
  if ¬ r10_4.1 = (Int32.ofInt (-1)) then
    (isK Z a0 11).bind fun u25_5 =>
    (f247 kad N Z a0 r10_4.1 r10_4.2).bind fun r25_6 =>
    f248_b28 kad N Z a0 i1 r25_6.1 r25_6.2
  else
    f248_b28 kad N Z a0 i1 (0 : Int32) r10_4.2
set_option maxRecDepth 20000 in
theorem Tf248 {kad : Nat → Nat} {N : Nat} {Z : AZ} {d : Nat} {t : Option Nat × (Nat × Nat)} (hd : 2 ≤ d) : ∀ (a0 : Nat) (i1 : Int32) (I : AI) (r : Int32 × AI), f248 kad N Z a0 i1 I = some r → aGo kad d 248 (0, ([(0, .ref a0), (1, .int i1)], [])) (aMem Z I, t) (qI Z t r) := by
  intro a0 i1 I r h
  unfold f248 at h
  refine go_ops aMi248 1 _ (f1 := (1, ([(0, .ref a0), (1, .int i1)], [.ref a0]))) rfl ?_
  obtain ⟨b1_1, hxb1_1, h⟩ := Option.bind_eq_some_iff.mp h
  refine gg_gR aMi248 rfl rfl rfl hxb1_1 ?_
  refine go_ops aMi248 1 _ (f1 := (5, ([(0, .ref a0), (1, .int i1)], [.ref a0, .ref b1_1]))) rfl ?_
  obtain ⟨b5_2, hxb5_2, h⟩ := Option.bind_eq_some_iff.mp h
  refine gg_gR aMi248 rfl rfl rfl hxb5_2 ?_
  refine go_ops aMi248 1 _ (f1 := (9, ([(0, .ref a0), (1, .int i1)], [.int (1 : Int32), .ref b5_2, .ref b1_1]))) rfl ?_
  obtain ⟨x9_3, hxx9_3, h⟩ := Option.bind_eq_some_iff.mp h
  refine gg_lI (Or.inl ⟨rfl, rfl⟩) aMi248 rfl hxx9_3 ?_
  obtain ⟨r10_4, hxr10_4, h⟩ := Option.bind_eq_some_iff.mp h
  refine gg_cs (as := [.ref b1_1, .int x9_3]) (r := []) aMi248 rfl rfl rfl aMi236 rfl (Nat.le_of_ble_eq_true rfl) (Nat.le_of_ble_eq_true rfl) (by omega) (Tf236 (by omega) b1_1 x9_3 I _ hxr10_4) ?_
  show aGo kad d 248 (13, ([(0, .ref a0), (1, .int i1)], [.int r10_4.1])) (aMem Z r10_4.2, t) _
  refine go_ops aMi248 3 _ (f1 := (16, ([(2, .int r10_4.1), (0, .ref a0), (1, .int i1)], [.int (Int32.ofInt (-1)), .int r10_4.1]))) rfl ?_
  refine gg_br (b := decide (¬ r10_4.1 = (Int32.ofInt (-1)))) (tg := 23) (off := 7) aMi248 rfl rfl rfl rfl (fun hb => ?_) (fun hb => ?_)
  · rw [if_pos (of_decide_eq_true hb)] at h
    refine go_ops aMi248 2 _ (f1 := (25, ([(2, .int r10_4.1), (0, .ref a0), (1, .int i1)], [.int r10_4.1, .ref a0]))) rfl ?_
    obtain ⟨u25_5, hxu25_5, h⟩ := Option.bind_eq_some_iff.mp h
    obtain ⟨r25_6, hxr25_6, h⟩ := Option.bind_eq_some_iff.mp h
    refine gg_cv (as := [.int r10_4.1]) (r := []) aMi248 rfl rfl rfl aMi247 (Nat.le_of_ble_eq_true rfl) rfl (Nat.le_of_ble_eq_true rfl) (Nat.le_of_ble_eq_true rfl) (by omega) hxu25_5 (Tf247 (by omega) a0 r10_4.1 r10_4.2 _ hxr25_6) ?_
    show aGo kad d 248 (28, ([(2, .int r10_4.1), (0, .ref a0), (1, .int i1)], [.int r25_6.1])) (aMem Z r25_6.2, t) _
    refine go_le (lv1 := [(0, .ref a0), (1, .int i1)]) (aLe_of (show (List.map (fun q => q.1) ([(0, .ref a0), (1, .int i1)] : ALv)).Nodup from (by show ([0, 1] : List Nat).Nodup; decide)) (aSubL_cons rfl (aSubL_cons rfl aSubL_nil))) ?_
    exact Tf248_b28 hd a0 i1 r25_6.1 r25_6.2 _ h
  · rw [if_neg (of_decide_eq_false hb)] at h
    refine go_ops aMi248 2 _ (f1 := (28, ([(2, .int r10_4.1), (0, .ref a0), (1, .int i1)], [.int (0 : Int32)]))) rfl ?_
    refine go_le (lv1 := [(0, .ref a0), (1, .int i1)]) (aLe_of (show (List.map (fun q => q.1) ([(0, .ref a0), (1, .int i1)] : ALv)).Nodup from (by show ([0, 1] : List Nat).Nodup; decide)) (aSubL_cons rfl (aSubL_cons rfl aSubL_nil))) ?_
    exact Tf248_b28 hd a0 i1 (0 : Int32) r10_4.2 _ h
-- KernelGymModel.prepares (I)V
def f249_b81 (kad : Nat → Nat) (N : Nat) (Z : AZ) (k7 : Nat → Int32 → Int32 → AI → Option (Unit × AI)) (a0 : Nat) (i1 : Int32) (i2 : Int32) (I : AI) : Option (Unit × AI) :=
  k7 a0 i1 (i2 + (1 : Int32)) I
set_option maxRecDepth 20000 in
theorem Tf249_b81 {kad : Nat → Nat} {N : Nat} {Z : AZ} {d : Nat} {t : Option Nat × (Nat × Nat)} (hd : 0 ≤ d) (k7 : Nat → Int32 → Int32 → AI → Option (Unit × AI))  (hk7 : ∀ (a0 : Nat) (i1 : Int32) (i2 : Int32)  (I : AI) (r : Unit × AI), k7 a0 i1 i2 I = some r → aGo kad d 249 (7, ([(0, .ref a0), (1, .int i1), (2, .int i2)], [])) (aMem Z I, t) (qV Z t r)) : ∀ (a0 : Nat) (i1 : Int32) (i2 : Int32) (I : AI) (r : Unit × AI), f249_b81 kad N Z k7 a0 i1 i2 I = some r → aGo kad d 249 (81, ([(0, .ref a0), (1, .int i1), (2, .int i2)], [])) (aMem Z I, t) (qV Z t r) := by
  intro a0 i1 i2 I r h
  unfold f249_b81 at h
  refine go_ops aMi249 2 _ (f1 := (7, ([(2, .int (i2 + (1 : Int32))), (0, .ref a0), (1, .int i1)], []))) rfl ?_
  refine go_le (lv1 := [(0, .ref a0), (1, .int i1), (2, .int (i2 + (1 : Int32)))]) (aLe_of (show (List.map (fun q => q.1) ([(0, .ref a0), (1, .int i1), (2, .int (i2 + (1 : Int32)))] : ALv)).Nodup from (by show ([0, 1, 2] : List Nat).Nodup; decide)) (aSubL_cons rfl (aSubL_cons rfl (aSubL_cons rfl aSubL_nil)))) ?_
  exact hk7 a0 i1 (i2 + (1 : Int32)) I _ h
def f249_b34 (kad : Nat → Nat) (N : Nat) (Z : AZ) (k7 : Nat → Int32 → Int32 → AI → Option (Unit × AI)) : Nat → Nat → Int32 → Int32 → Int32 → AI → Option (Unit × AI)
  | 0, _, _, _, _, _ => none
  | F + 1, a0, i1, i2, i3, I =>
    if (8 : Int32) ≤ i3 then
      (gI Z I 11 47 a0).bind fun x73_1 =>
      (pI Z I 11 47 a0 (x73_1 + (1 : Int32))).bind fun I78_2 =>
      f249_b81 kad N Z k7 a0 i1 i2 I78_2
    else
      (gR Z I 11 49 a0).bind fun b41_3 =>
      (gI Z I 11 47 a0).bind fun x47_4 =>
      (gR Z I 11 51 a0).bind fun b54_5 =>
      (lI Z I 100 b54_5 (((8 : Int32) * i2) + i3)).bind fun x63_6 =>
      (sI Z I 100 b41_3 (((8 : Int32) * x47_4) + i3) x63_6).bind fun I64_7 =>
      f249_b34 kad N Z k7 F a0 i1 i2 (i3 + (1 : Int32)) I64_7
set_option maxRecDepth 20000 in
theorem Tf249_b34 {kad : Nat → Nat} {N : Nat} {Z : AZ} {d : Nat} {t : Option Nat × (Nat × Nat)} (hd : 0 ≤ d) (k7 : Nat → Int32 → Int32 → AI → Option (Unit × AI))  (hk7 : ∀ (a0 : Nat) (i1 : Int32) (i2 : Int32)  (I : AI) (r : Unit × AI), k7 a0 i1 i2 I = some r → aGo kad d 249 (7, ([(0, .ref a0), (1, .int i1), (2, .int i2)], [])) (aMem Z I, t) (qV Z t r)) : ∀ (F : Nat) (a0 : Nat) (i1 : Int32) (i2 : Int32) (i3 : Int32) (I : AI) (r : Unit × AI), f249_b34 kad N Z k7 F a0 i1 i2 i3 I = some r → aGo kad d 249 (34, ([(0, .ref a0), (1, .int i1), (2, .int i2), (3, .int i3)], [])) (aMem Z I, t) (qV Z t r) := by
  intro F
  induction F with
  | zero => intro a0 i1 i2 i3 I r h; cases h
  | succ F ih =>
    intro a0 i1 i2 i3 I r h
    unfold f249_b34 at h
    refine go_ops aMi249 2 _ (f1 := (37, ([(0, .ref a0), (1, .int i1), (2, .int i2), (3, .int i3)], [.int (8 : Int32), .int i3]))) rfl ?_
    refine gg_br (b := decide ((8 : Int32) ≤ i3)) (tg := 71) (off := 34) aMi249 rfl rfl rfl rfl (fun hb => ?_) (fun hb => ?_)
    · rw [if_pos (of_decide_eq_true hb)] at h
      refine go_ops aMi249 2 _ (f1 := (73, ([(0, .ref a0), (1, .int i1), (2, .int i2), (3, .int i3)], [.ref a0, .ref a0]))) rfl ?_
      obtain ⟨x73_1, hxx73_1, h⟩ := Option.bind_eq_some_iff.mp h
      refine gg_gI aMi249 rfl rfl rfl hxx73_1 ?_
      refine go_ops aMi249 2 _ (f1 := (78, ([(0, .ref a0), (1, .int i1), (2, .int i2), (3, .int i3)], [.int (x73_1 + (1 : Int32)), .ref a0]))) rfl ?_
      obtain ⟨I78_2, hxI78_2, h⟩ := Option.bind_eq_some_iff.mp h
      refine gg_pI aMi249 rfl rfl rfl rfl (by decide) hxI78_2 ?_
      refine go_le (lv1 := [(0, .ref a0), (1, .int i1), (2, .int i2)]) (aLe_of (show (List.map (fun q => q.1) ([(0, .ref a0), (1, .int i1), (2, .int i2)] : ALv)).Nodup from (by show ([0, 1, 2] : List Nat).Nodup; decide)) (aSubL_cons rfl (aSubL_cons rfl (aSubL_cons rfl aSubL_nil)))) ?_
      exact Tf249_b81 hd k7 hk7 a0 i1 i2 I78_2 _ h
    · rw [if_neg (of_decide_eq_false hb)] at h
      refine go_ops aMi249 1 _ (f1 := (41, ([(0, .ref a0), (1, .int i1), (2, .int i2), (3, .int i3)], [.ref a0]))) rfl ?_
      obtain ⟨b41_3, hxb41_3, h⟩ := Option.bind_eq_some_iff.mp h
      refine gg_gR aMi249 rfl rfl rfl hxb41_3 ?_
      refine go_ops aMi249 2 _ (f1 := (47, ([(0, .ref a0), (1, .int i1), (2, .int i2), (3, .int i3)], [.ref a0, .int (8 : Int32), .ref b41_3]))) rfl ?_
      obtain ⟨x47_4, hxx47_4, h⟩ := Option.bind_eq_some_iff.mp h
      refine gg_gI aMi249 rfl rfl rfl hxx47_4 ?_
      refine go_ops aMi249 4 _ (f1 := (54, ([(0, .ref a0), (1, .int i1), (2, .int i2), (3, .int i3)], [.ref a0, .int (((8 : Int32) * x47_4) + i3), .ref b41_3]))) rfl ?_
      obtain ⟨b54_5, hxb54_5, h⟩ := Option.bind_eq_some_iff.mp h
      refine gg_gR aMi249 rfl rfl rfl hxb54_5 ?_
      refine go_ops aMi249 5 _ (f1 := (63, ([(0, .ref a0), (1, .int i1), (2, .int i2), (3, .int i3)], [.int (((8 : Int32) * i2) + i3), .ref b54_5, .int (((8 : Int32) * x47_4) + i3), .ref b41_3]))) rfl ?_
      obtain ⟨x63_6, hxx63_6, h⟩ := Option.bind_eq_some_iff.mp h
      refine gg_lI (Or.inl ⟨rfl, rfl⟩) aMi249 rfl hxx63_6 ?_
      obtain ⟨I64_7, hxI64_7, h⟩ := Option.bind_eq_some_iff.mp h
      refine gg_sI (Or.inl ⟨rfl, rfl⟩) aMi249 rfl hxI64_7 ?_
      refine go_ops aMi249 2 _ (f1 := (34, ([(3, .int (i3 + (1 : Int32))), (0, .ref a0), (1, .int i1), (2, .int i2)], []))) rfl ?_
      refine go_le (lv1 := [(0, .ref a0), (1, .int i1), (2, .int i2), (3, .int (i3 + (1 : Int32)))]) (aLe_of (show (List.map (fun q => q.1) ([(0, .ref a0), (1, .int i1), (2, .int i2), (3, .int (i3 + (1 : Int32)))] : ALv)).Nodup from (by show ([0, 1, 2, 3] : List Nat).Nodup; decide)) (aSubL_cons rfl (aSubL_cons rfl (aSubL_cons rfl (aSubL_cons rfl aSubL_nil))))) ?_
      exact ih a0 i1 i2 (i3 + (1 : Int32)) I64_7 _ h
def f249_b7 (kad : Nat → Nat) (N : Nat) (Z : AZ) : Nat → Nat → Int32 → Int32 → AI → Option (Unit × AI)
  | 0, _, _, _, _ => none
  | F + 1, a0, i1, i2, I =>
    if (32 : Int32) ≤ i2 then
      (gI Z I 11 47 a0).bind fun x90_1 =>
      (pI Z I 11 46 a0 (((2 : Int32) * x90_1) + (2 : Int32))).bind fun I96_2 =>
      some ((), I96_2)
    else
      if ¬ ((i1 >>> (i2 &&& 31)) &&& (1 : Int32)) = (1 : Int32) then
        f249_b81 kad N Z (fun p0 p1 p2 I => f249_b7 kad N Z F p0 p1 p2 I) a0 i1 i2 I
      else
        (gR Z I 11 48 a0).bind fun b23_3 =>
        (gI Z I 11 47 a0).bind fun x27_4 =>
        (sI Z I 100 b23_3 x27_4 i2).bind fun I31_5 =>
        f249_b34 kad N Z (fun p0 p1 p2 I => f249_b7 kad N Z F p0 p1 p2 I) N a0 i1 i2 (0 : Int32) I31_5
set_option maxRecDepth 20000 in
theorem Tf249_b7 {kad : Nat → Nat} {N : Nat} {Z : AZ} {d : Nat} {t : Option Nat × (Nat × Nat)} (hd : 0 ≤ d) : ∀ (F : Nat) (a0 : Nat) (i1 : Int32) (i2 : Int32) (I : AI) (r : Unit × AI), f249_b7 kad N Z F a0 i1 i2 I = some r → aGo kad d 249 (7, ([(0, .ref a0), (1, .int i1), (2, .int i2)], [])) (aMem Z I, t) (qV Z t r) := by
  intro F
  induction F with
  | zero => intro a0 i1 i2 I r h; cases h
  | succ F ih =>
    intro a0 i1 i2 I r h
    unfold f249_b7 at h
    refine go_ops aMi249 2 _ (f1 := (10, ([(0, .ref a0), (1, .int i1), (2, .int i2)], [.int (32 : Int32), .int i2]))) rfl ?_
    refine gg_br (b := decide ((32 : Int32) ≤ i2)) (tg := 87) (off := 77) aMi249 rfl rfl rfl rfl (fun hb => ?_) (fun hb => ?_)
    · rw [if_pos (of_decide_eq_true hb)] at h
      refine go_ops aMi249 3 _ (f1 := (90, ([(0, .ref a0), (1, .int i1), (2, .int i2)], [.ref a0, .int (2 : Int32), .ref a0]))) rfl ?_
      obtain ⟨x90_1, hxx90_1, h⟩ := Option.bind_eq_some_iff.mp h
      refine gg_gI aMi249 rfl rfl rfl hxx90_1 ?_
      refine go_ops aMi249 3 _ (f1 := (96, ([(0, .ref a0), (1, .int i1), (2, .int i2)], [.int (((2 : Int32) * x90_1) + (2 : Int32)), .ref a0]))) rfl ?_
      obtain ⟨I96_2, hxI96_2, h⟩ := Option.bind_eq_some_iff.mp h
      refine gg_pI aMi249 rfl rfl rfl rfl (by decide) hxI96_2 ?_
      cases h
      exact go_ret aMi249 rfl rfl ⟨rfl, rfl⟩
    · rw [if_neg (of_decide_eq_false hb)] at h
      refine go_ops aMi249 6 _ (f1 := (19, ([(0, .ref a0), (1, .int i1), (2, .int i2)], [.int (1 : Int32), .int ((i1 >>> (i2 &&& 31)) &&& (1 : Int32))]))) rfl ?_
      refine gg_br (b := decide (¬ ((i1 >>> (i2 &&& 31)) &&& (1 : Int32)) = (1 : Int32))) (tg := 81) (off := 62) aMi249 rfl rfl rfl rfl (fun hb => ?_) (fun hb => ?_)
      · rw [if_pos (of_decide_eq_true hb)] at h
        exact Tf249_b81 hd (fun p0 p1 p2 I => f249_b7 kad N Z F p0 p1 p2 I) (fun p0 p1 p2 I r hh => ih p0 p1 p2 I r hh) a0 i1 i2 I _ h
      · rw [if_neg (of_decide_eq_false hb)] at h
        refine go_ops aMi249 1 _ (f1 := (23, ([(0, .ref a0), (1, .int i1), (2, .int i2)], [.ref a0]))) rfl ?_
        obtain ⟨b23_3, hxb23_3, h⟩ := Option.bind_eq_some_iff.mp h
        refine gg_gR aMi249 rfl rfl rfl hxb23_3 ?_
        refine go_ops aMi249 1 _ (f1 := (27, ([(0, .ref a0), (1, .int i1), (2, .int i2)], [.ref a0, .ref b23_3]))) rfl ?_
        obtain ⟨x27_4, hxx27_4, h⟩ := Option.bind_eq_some_iff.mp h
        refine gg_gI aMi249 rfl rfl rfl hxx27_4 ?_
        refine go_ops aMi249 1 _ (f1 := (31, ([(0, .ref a0), (1, .int i1), (2, .int i2)], [.int i2, .int x27_4, .ref b23_3]))) rfl ?_
        obtain ⟨I31_5, hxI31_5, h⟩ := Option.bind_eq_some_iff.mp h
        refine gg_sI (Or.inl ⟨rfl, rfl⟩) aMi249 rfl hxI31_5 ?_
        refine go_ops aMi249 2 _ (f1 := (34, ([(3, .int (0 : Int32)), (0, .ref a0), (1, .int i1), (2, .int i2)], []))) rfl ?_
        refine go_le (lv1 := [(0, .ref a0), (1, .int i1), (2, .int i2), (3, .int (0 : Int32))]) (aLe_of (show (List.map (fun q => q.1) ([(0, .ref a0), (1, .int i1), (2, .int i2), (3, .int (0 : Int32))] : ALv)).Nodup from (by show ([0, 1, 2, 3] : List Nat).Nodup; decide)) (aSubL_cons rfl (aSubL_cons rfl (aSubL_cons rfl (aSubL_cons rfl aSubL_nil))))) ?_
        exact Tf249_b34 hd (fun p0 p1 p2 I => f249_b7 kad N Z F p0 p1 p2 I) (fun p0 p1 p2 I r hh => ih p0 p1 p2 I r hh) N a0 i1 i2 (0 : Int32) I31_5 _ h
def f249 (kad : Nat → Nat) (N : Nat) (Z : AZ) (a0 : Nat) (i1 : Int32) (I : AI) : Option (Unit × AI) :=
  (pI Z I 11 47 a0 (0 : Int32)).bind fun I2_1 =>
  f249_b7 kad N Z N a0 i1 (0 : Int32) I2_1
set_option maxRecDepth 20000 in
theorem Tf249 {kad : Nat → Nat} {N : Nat} {Z : AZ} {d : Nat} {t : Option Nat × (Nat × Nat)} (hd : 0 ≤ d) : ∀ (a0 : Nat) (i1 : Int32) (I : AI) (r : Unit × AI), f249 kad N Z a0 i1 I = some r → aGo kad d 249 (0, ([(0, .ref a0), (1, .int i1)], [])) (aMem Z I, t) (qV Z t r) := by
  intro a0 i1 I r h
  unfold f249 at h
  refine go_ops aMi249 2 _ (f1 := (2, ([(0, .ref a0), (1, .int i1)], [.int (0 : Int32), .ref a0]))) rfl ?_
  obtain ⟨I2_1, hxI2_1, h⟩ := Option.bind_eq_some_iff.mp h
  refine gg_pI aMi249 rfl rfl rfl rfl (by decide) hxI2_1 ?_
  refine go_ops aMi249 2 _ (f1 := (7, ([(2, .int (0 : Int32)), (0, .ref a0), (1, .int i1)], []))) rfl ?_
  refine go_le (lv1 := [(0, .ref a0), (1, .int i1), (2, .int (0 : Int32))]) (aLe_of (show (List.map (fun q => q.1) ([(0, .ref a0), (1, .int i1), (2, .int (0 : Int32))] : ALv)).Nodup from (by show ([0, 1, 2] : List Nat).Nodup; decide)) (aSubL_cons rfl (aSubL_cons rfl (aSubL_cons rfl aSubL_nil)))) ?_
  exact Tf249_b7 hd N a0 i1 (0 : Int32) I2_1 _ h
