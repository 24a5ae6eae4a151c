-- KernelGymModel.added (II)I
def f281 (kad : Nat → Nat) (N : Nat) (Z : AZ) (i0 : Int32) (i1 : Int32) (I : AI) : Option (Int32 × AI) :=
  some ((((((31 : Int64) * (i0.toInt64)) + (i1.toInt64)) - (((31 : Int64) * (i0.toInt64)) + (i1.toInt64)) / (1000003 : Int64) * (1000003 : Int64)).toInt32), I)
set_option maxRecDepth 20000 in
theorem Tf281 {kad : Nat → Nat} {N : Nat} {Z : AZ} {d : Nat} {t : Option Nat × (Nat × Nat)} (hd : 0 ≤ d) : ∀ (i0 : Int32) (i1 : Int32) (I : AI) (r : Int32 × AI), f281 kad N Z i0 i1 I = some r → aGo kad d 281 (0, ([(0, .int i0), (1, .int i1)], [])) (aMem Z I, t) (qI Z t r) := by
  intro i0 i1 I r h
  unfold f281 at h
  refine gg_kL aMi281 rfl rfl ?_
  refine go_ops aMi281 6 _ (f1 := (9, ([(0, .int i0), (1, .int i1)], [.long (((31 : Int64) * (i0.toInt64)) + (i1.toInt64))]))) rfl ?_
  refine gg_kL aMi281 rfl rfl ?_
  refine go_ops aMi281 2 _ (f1 := (14, ([(0, .int i0), (1, .int i1)], [.int (((((31 : Int64) * (i0.toInt64)) + (i1.toInt64)) - (((31 : Int64) * (i0.toInt64)) + (i1.toInt64)) / (1000003 : Int64) * (1000003 : Int64)).toInt32)]))) rfl ?_
  cases h
  exact go_ret aMi281 rfl aRetI ⟨rfl, rfl⟩
-- KernelGymModel.sumOf ()I
def f282_b157 (kad : Nat → Nat) (N : Nat) (Z : AZ) : Nat → Nat → Int32 → Int32 → AI → Option (Int32 × AI)
  | 0, _, _, _, _ => none
  | F + 1, a0, i1, i2, I =>
    if (I a0 37) ≤ i2 then
      some (i1, I)
    else
      (ixA 60 i2).bind fun j171_1 =>
      (f281 kad N Z i1 (I (a0 + 17) j171_1) I).bind fun r172_2 =>
      f282_b157 kad N Z F a0 r172_2.1 (i2 + (1 : Int32)) r172_2.2
set_option maxRecDepth 20000 in
theorem Tf282_b157 {kad : Nat → Nat} {N : Nat} {Z : AZ} {d : Nat} {t : Option Nat × (Nat × Nat)} (hd : 1 ≤ d) : ∀ (F : Nat) (a0 : Nat) (ha0 : sh11 kad Z a0) (i1 : Int32) (i2 : Int32) (I : AI) (r : Int32 × AI), f282_b157 kad N Z F a0 i1 i2 I = some r → aGo kad d 282 (157, ([(0, .ref a0), (1, .int i1), (2, .int i2)], [])) (aMem Z I, t) (qI Z t r) := by
  intro F
  induction F with
  | zero => intro a0 ha0 i1 i2 I r h; cases h
  | succ F ih =>
    intro a0 ha0 i1 i2 I r h
    unfold f282_b157 at h
    refine go_ops aMi282 2 _ (f1 := (159, ([(0, .ref a0), (1, .int i1), (2, .int i2)], [.ref a0, .int i2]))) rfl ?_
    refine gg_gI aMi282 rfl rfl rfl (gI_of (sh11_z ha0)) ?_
    refine gg_br (b := decide ((I a0 37) ≤ i2)) (tg := 182) (off := 20) aMi282 rfl rfl rfl rfl (fun hb => ?_) (fun hb => ?_)
    · rw [if_pos (of_decide_eq_true hb)] at h
      refine go_ops aMi282 1 _ (f1 := (183, ([(0, .ref a0), (1, .int i1), (2, .int i2)], [.int i1]))) rfl ?_
      cases h
      exact go_ret aMi282 rfl aRetI ⟨rfl, rfl⟩
    · rw [if_neg (of_decide_eq_false hb)] at h
      refine go_ops aMi282 2 _ (f1 := (167, ([(0, .ref a0), (1, .int i1), (2, .int i2)], [.ref a0, .int i1]))) rfl ?_
      refine gg_gR (b := (a0 + 17)) aMi282 rfl rfl rfl (gR_of (sh11_z ha0) (sh11_r36 ha0)) ?_
      refine go_ops aMi282 1 _ (f1 := (171, ([(0, .ref a0), (1, .int i1), (2, .int i2)], [.int i2, .ref (a0 + 17), .int i1]))) rfl ?_
      obtain ⟨j171_1, hxj171_1, h⟩ := Option.bind_eq_some_iff.mp h
      refine gg_lI (Or.inl ⟨rfl, rfl⟩) aMi282 rfl (lI_of (sh11_a36 ha0) hxj171_1) ?_
      obtain ⟨r172_2, hxr172_2, h⟩ := Option.bind_eq_some_iff.mp h
      refine gg_cs (as := [.int i1, .int (I (a0 + 17) j171_1)]) (r := []) aMi282 rfl rfl rfl aMi281 rfl (Nat.le_of_ble_eq_true rfl) (Nat.le_of_ble_eq_true rfl) (by omega) (Tf281 (by omega) i1 (I (a0 + 17) j171_1) I _ hxr172_2) ?_
      show aGo kad d 282 (175, ([(0, .ref a0), (1, .int i1), (2, .int i2)], [.int r172_2.1])) (aMem Z r172_2.2, t) _
      refine go_ops aMi282 3 _ (f1 := (157, ([(2, .int (i2 + (1 : Int32))), (1, .int r172_2.1), (0, .ref a0)], []))) rfl ?_
      refine go_le (lv1 := [(0, .ref a0), (1, .int r172_2.1), (2, .int (i2 + (1 : Int32)))]) (aLe_of (show (List.map (fun q => q.1) ([(0, .ref a0), (1, .int r172_2.1), (2, .int (i2 + (1 : Int32)))] : ALv)).Nodup from (by show ([0, 1, 2] : List Nat).Nodup; decide)) (aSubL_cons rfl (aSubL_cons rfl (aSubL_cons rfl aSubL_nil)))) ?_
      exact ih a0 ha0 r172_2.1 (i2 + (1 : Int32)) r172_2.2 _ h
def f282_b122 (kad : Nat → Nat) (N : Nat) (Z : AZ) : Nat → Nat → Int32 → Int32 → AI → Option (Int32 × AI)
  | 0, _, _, _, _ => none
  | F + 1, a0, i1, i2, I =>
    if (256 : Int32) ≤ i2 then
      (f281 kad N Z i1 (I a0 37) I).bind fun r151_1 =>
      f282_b157 kad N Z N a0 r151_1.1 (0 : Int32) r151_1.2
    else
      (ixA 256 i2).bind fun j135_2 =>
      (f281 kad N Z i1 (I (a0 + 24) j135_2) I).bind fun r136_3 =>
      f282_b122 kad N Z F a0 r136_3.1 (i2 + (1 : Int32)) r136_3.2
set_option maxRecDepth 20000 in
theorem Tf282_b122 {kad : Nat → Nat} {N : Nat} {Z : AZ} {d : Nat} {t : Option Nat × (Nat × Nat)} (hd : 1 ≤ d) : ∀ (F : Nat) (a0 : Nat) (ha0 : sh11 kad Z a0) (i1 : Int32) (i2 : Int32) (I : AI) (r : Int32 × AI), f282_b122 kad N Z F a0 i1 i2 I = some r → aGo kad d 282 (122, ([(0, .ref a0), (1, .int i1), (2, .int i2)], [])) (aMem Z I, t) (qI Z t r) := by
  intro F
  induction F with
  | zero => intro a0 ha0 i1 i2 I r h; cases h
  | succ F ih =>
    intro a0 ha0 i1 i2 I r h
    unfold f282_b122 at h
    refine go_ops aMi282 2 _ (f1 := (126, ([(0, .ref a0), (1, .int i1), (2, .int i2)], [.int (256 : Int32), .int i2]))) rfl ?_
    refine gg_br (b := decide ((256 : Int32) ≤ i2)) (tg := 146) (off := 20) aMi282 rfl rfl rfl rfl (fun hb => ?_) (fun hb => ?_)
    · rw [if_pos (of_decide_eq_true hb)] at h
      refine go_ops aMi282 2 _ (f1 := (148, ([(0, .ref a0), (1, .int i1), (2, .int i2)], [.ref a0, .int i1]))) rfl ?_
      refine gg_gI aMi282 rfl rfl rfl (gI_of (sh11_z ha0)) ?_
      obtain ⟨r151_1, hxr151_1, h⟩ := Option.bind_eq_some_iff.mp h
      refine gg_cs (as := [.int i1, .int (I a0 37)]) (r := []) aMi282 rfl rfl rfl aMi281 rfl (Nat.le_of_ble_eq_true rfl) (Nat.le_of_ble_eq_true rfl) (by omega) (Tf281 (by omega) i1 (I a0 37) I _ hxr151_1) ?_
      show aGo kad d 282 (154, ([(0, .ref a0), (1, .int i1), (2, .int i2)], [.int r151_1.1])) (aMem Z r151_1.2, t) _
      refine go_ops aMi282 3 _ (f1 := (157, ([(2, .int (0 : Int32)), (1, .int r151_1.1), (0, .ref a0)], []))) rfl ?_
      refine go_le (lv1 := [(0, .ref a0), (1, .int r151_1.1), (2, .int (0 : Int32))]) (aLe_of (show (List.map (fun q => q.1) ([(0, .ref a0), (1, .int r151_1.1), (2, .int (0 : Int32))] : ALv)).Nodup from (by show ([0, 1, 2] : List Nat).Nodup; decide)) (aSubL_cons rfl (aSubL_cons rfl (aSubL_cons rfl aSubL_nil)))) ?_
      exact Tf282_b157 hd N a0 ha0 r151_1.1 (0 : Int32) r151_1.2 _ h
    · rw [if_neg (of_decide_eq_false hb)] at h
      refine go_ops aMi282 2 _ (f1 := (131, ([(0, .ref a0), (1, .int i1), (2, .int i2)], [.ref a0, .int i1]))) rfl ?_
      refine gg_gR (b := (a0 + 24)) aMi282 rfl rfl rfl (gR_of (sh11_z ha0) (sh11_r50 ha0)) ?_
      refine go_ops aMi282 1 _ (f1 := (135, ([(0, .ref a0), (1, .int i1), (2, .int i2)], [.int i2, .ref (a0 + 24), .int i1]))) rfl ?_
      obtain ⟨j135_2, hxj135_2, h⟩ := Option.bind_eq_some_iff.mp h
      refine gg_lI (Or.inl ⟨rfl, rfl⟩) aMi282 rfl (lI_of (sh11_a50 ha0) hxj135_2) ?_
      obtain ⟨r136_3, hxr136_3, h⟩ := Option.bind_eq_some_iff.mp h
      refine gg_cs (as := [.int i1, .int (I (a0 + 24) j135_2)]) (r := []) aMi282 rfl rfl rfl aMi281 rfl (Nat.le_of_ble_eq_true rfl) (Nat.le_of_ble_eq_true rfl) (by omega) (Tf281 (by omega) i1 (I (a0 + 24) j135_2) I _ hxr136_3) ?_
      show aGo kad d 282 (139, ([(0, .ref a0), (1, .int i1), (2, .int i2)], [.int r136_3.1])) (aMem Z r136_3.2, t) _
      refine go_ops aMi282 3 _ (f1 := (122, ([(2, .int (i2 + (1 : Int32))), (1, .int r136_3.1), (0, .ref a0)], []))) rfl ?_
      refine go_le (lv1 := [(0, .ref a0), (1, .int r136_3.1), (2, .int (i2 + (1 : Int32)))]) (aLe_of (show (List.map (fun q => q.1) ([(0, .ref a0), (1, .int r136_3.1), (2, .int (i2 + (1 : Int32)))] : ALv)).Nodup from (by show ([0, 1, 2] : List Nat).Nodup; decide)) (aSubL_cons rfl (aSubL_cons rfl (aSubL_cons rfl aSubL_nil)))) ?_
      exact ih a0 ha0 r136_3.1 (i2 + (1 : Int32)) r136_3.2 _ h
def f282_b96 (kad : Nat → Nat) (N : Nat) (Z : AZ) : Nat → Nat → Int32 → Int32 → AI → Option (Int32 × AI)
  | 0, _, _, _, _ => none
  | F + 1, a0, i1, i2, I =>
    if (256 : Int32) ≤ i2 then
      f282_b122 kad N Z N a0 i1 (0 : Int32) I
    else
      (ixA 256 i2).bind fun j109_1 =>
      (f281 kad N Z i1 (I (a0 + 15) j109_1) I).bind fun r110_2 =>
      f282_b96 kad N Z F a0 r110_2.1 (i2 + (1 : Int32)) r110_2.2
set_option maxRecDepth 20000 in
theorem Tf282_b96 {kad : Nat → Nat} {N : Nat} {Z : AZ} {d : Nat} {t : Option Nat × (Nat × Nat)} (hd : 1 ≤ d) : ∀ (F : Nat) (a0 : Nat) (ha0 : sh11 kad Z a0) (i1 : Int32) (i2 : Int32) (I : AI) (r : Int32 × AI), f282_b96 kad N Z F a0 i1 i2 I = some r → aGo kad d 282 (96, ([(0, .ref a0), (1, .int i1), (2, .int i2)], [])) (aMem Z I, t) (qI Z t r) := by
  intro F
  induction F with
  | zero => intro a0 ha0 i1 i2 I r h; cases h
  | succ F ih =>
    intro a0 ha0 i1 i2 I r h
    unfold f282_b96 at h
    refine go_ops aMi282 2 _ (f1 := (100, ([(0, .ref a0), (1, .int i1), (2, .int i2)], [.int (256 : Int32), .int i2]))) rfl ?_
    refine gg_br (b := decide ((256 : Int32) ≤ i2)) (tg := 120) (off := 20) aMi282 rfl rfl rfl rfl (fun hb => ?_) (fun hb => ?_)
    · rw [if_pos (of_decide_eq_true hb)] at h
      refine go_ops aMi282 2 _ (f1 := (122, ([(2, .int (0 : Int32)), (0, .ref a0), (1, .int i1)], []))) rfl ?_
      refine go_le (lv1 := [(0, .ref a0), (1, .int i1), (2, .int (0 : Int32))]) (aLe_of (show (List.map (fun q => q.1) ([(0, .ref a0), (1, .int i1), (2, .int (0 : Int32))] : ALv)).Nodup from (by show ([0, 1, 2] : List Nat).Nodup; decide)) (aSubL_cons rfl (aSubL_cons rfl (aSubL_cons rfl aSubL_nil)))) ?_
      exact Tf282_b122 hd N a0 ha0 i1 (0 : Int32) I _ h
    · rw [if_neg (of_decide_eq_false hb)] at h
      refine go_ops aMi282 2 _ (f1 := (105, ([(0, .ref a0), (1, .int i1), (2, .int i2)], [.ref a0, .int i1]))) rfl ?_
      refine gg_gR (b := (a0 + 15)) aMi282 rfl rfl rfl (gR_of (sh11_z ha0) (sh11_r25 ha0)) ?_
      refine go_ops aMi282 1 _ (f1 := (109, ([(0, .ref a0), (1, .int i1), (2, .int i2)], [.int i2, .ref (a0 + 15), .int i1]))) rfl ?_
      obtain ⟨j109_1, hxj109_1, h⟩ := Option.bind_eq_some_iff.mp h
      refine gg_lI (Or.inl ⟨rfl, rfl⟩) aMi282 rfl (lI_of (sh11_a25 ha0) hxj109_1) ?_
      obtain ⟨r110_2, hxr110_2, h⟩ := Option.bind_eq_some_iff.mp h
      refine gg_cs (as := [.int i1, .int (I (a0 + 15) j109_1)]) (r := []) aMi282 rfl rfl rfl aMi281 rfl (Nat.le_of_ble_eq_true rfl) (Nat.le_of_ble_eq_true rfl) (by omega) (Tf281 (by omega) i1 (I (a0 + 15) j109_1) I _ hxr110_2) ?_
      show aGo kad d 282 (113, ([(0, .ref a0), (1, .int i1), (2, .int i2)], [.int r110_2.1])) (aMem Z r110_2.2, t) _
      refine go_ops aMi282 3 _ (f1 := (96, ([(2, .int (i2 + (1 : Int32))), (1, .int r110_2.1), (0, .ref a0)], []))) rfl ?_
      refine go_le (lv1 := [(0, .ref a0), (1, .int r110_2.1), (2, .int (i2 + (1 : Int32)))]) (aLe_of (show (List.map (fun q => q.1) ([(0, .ref a0), (1, .int r110_2.1), (2, .int (i2 + (1 : Int32)))] : ALv)).Nodup from (by show ([0, 1, 2] : List Nat).Nodup; decide)) (aSubL_cons rfl (aSubL_cons rfl (aSubL_cons rfl aSubL_nil)))) ?_
      exact ih a0 ha0 r110_2.1 (i2 + (1 : Int32)) r110_2.2 _ h
def f282_b63 (kad : Nat → Nat) (N : Nat) (Z : AZ) : Nat → Nat → Int32 → Int32 → AI → Option (Int32 × AI)
  | 0, _, _, _, _ => none
  | F + 1, a0, i1, i2, I =>
    if (4 : Int32) ≤ i2 then
      (f281 kad N Z i1 (I a0 46) I).bind fun r90_1 =>
      f282_b96 kad N Z N a0 r90_1.1 (0 : Int32) r90_1.2
    else
      (ixA 4 i2).bind fun j74_2 =>
      (f281 kad N Z i1 (I (a0 + 16) j74_2) I).bind fun r75_3 =>
      f282_b63 kad N Z F a0 r75_3.1 (i2 + (1 : Int32)) r75_3.2
set_option maxRecDepth 20000 in
theorem Tf282_b63 {kad : Nat → Nat} {N : Nat} {Z : AZ} {d : Nat} {t : Option Nat × (Nat × Nat)} (hd : 1 ≤ d) : ∀ (F : Nat) (a0 : Nat) (ha0 : sh11 kad Z a0) (i1 : Int32) (i2 : Int32) (I : AI) (r : Int32 × AI), f282_b63 kad N Z F a0 i1 i2 I = some r → aGo kad d 282 (63, ([(0, .ref a0), (1, .int i1), (2, .int i2)], [])) (aMem Z I, t) (qI Z t r) := by
  intro F
  induction F with
  | zero => intro a0 ha0 i1 i2 I r h; cases h
  | succ F ih =>
    intro a0 ha0 i1 i2 I r h
    unfold f282_b63 at h
    refine go_ops aMi282 2 _ (f1 := (65, ([(0, .ref a0), (1, .int i1), (2, .int i2)], [.int (4 : Int32), .int i2]))) rfl ?_
    refine gg_br (b := decide ((4 : Int32) ≤ i2)) (tg := 85) (off := 20) aMi282 rfl rfl rfl rfl (fun hb => ?_) (fun hb => ?_)
    · rw [if_pos (of_decide_eq_true hb)] at h
      refine go_ops aMi282 2 _ (f1 := (87, ([(0, .ref a0), (1, .int i1), (2, .int i2)], [.ref a0, .int i1]))) rfl ?_
      refine gg_gI aMi282 rfl rfl rfl (gI_of (sh11_z ha0)) ?_
      obtain ⟨r90_1, hxr90_1, h⟩ := Option.bind_eq_some_iff.mp h
      refine gg_cs (as := [.int i1, .int (I a0 46)]) (r := []) aMi282 rfl rfl rfl aMi281 rfl (Nat.le_of_ble_eq_true rfl) (Nat.le_of_ble_eq_true rfl) (by omega) (Tf281 (by omega) i1 (I a0 46) I _ hxr90_1) ?_
      show aGo kad d 282 (93, ([(0, .ref a0), (1, .int i1), (2, .int i2)], [.int r90_1.1])) (aMem Z r90_1.2, t) _
      refine go_ops aMi282 3 _ (f1 := (96, ([(2, .int (0 : Int32)), (1, .int r90_1.1), (0, .ref a0)], []))) rfl ?_
      refine go_le (lv1 := [(0, .ref a0), (1, .int r90_1.1), (2, .int (0 : Int32))]) (aLe_of (show (List.map (fun q => q.1) ([(0, .ref a0), (1, .int r90_1.1), (2, .int (0 : Int32))] : ALv)).Nodup from (by show ([0, 1, 2] : List Nat).Nodup; decide)) (aSubL_cons rfl (aSubL_cons rfl (aSubL_cons rfl aSubL_nil)))) ?_
      exact Tf282_b96 hd N a0 ha0 r90_1.1 (0 : Int32) r90_1.2 _ h
    · rw [if_neg (of_decide_eq_false hb)] at h
      refine go_ops aMi282 2 _ (f1 := (70, ([(0, .ref a0), (1, .int i1), (2, .int i2)], [.ref a0, .int i1]))) rfl ?_
      refine gg_gR (b := (a0 + 16)) aMi282 rfl rfl rfl (gR_of (sh11_z ha0) (sh11_r26 ha0)) ?_
      refine go_ops aMi282 1 _ (f1 := (74, ([(0, .ref a0), (1, .int i1), (2, .int i2)], [.int i2, .ref (a0 + 16), .int i1]))) rfl ?_
      obtain ⟨j74_2, hxj74_2, h⟩ := Option.bind_eq_some_iff.mp h
      refine gg_lI (Or.inl ⟨rfl, rfl⟩) aMi282 rfl (lI_of (sh11_a26 ha0) hxj74_2) ?_
      obtain ⟨r75_3, hxr75_3, h⟩ := Option.bind_eq_some_iff.mp h
      refine gg_cs (as := [.int i1, .int (I (a0 + 16) j74_2)]) (r := []) aMi282 rfl rfl rfl aMi281 rfl (Nat.le_of_ble_eq_true rfl) (Nat.le_of_ble_eq_true rfl) (by omega) (Tf281 (by omega) i1 (I (a0 + 16) j74_2) I _ hxr75_3) ?_
      show aGo kad d 282 (78, ([(0, .ref a0), (1, .int i1), (2, .int i2)], [.int r75_3.1])) (aMem Z r75_3.2, t) _
      refine go_ops aMi282 3 _ (f1 := (63, ([(2, .int (i2 + (1 : Int32))), (1, .int r75_3.1), (0, .ref a0)], []))) rfl ?_
      refine go_le (lv1 := [(0, .ref a0), (1, .int r75_3.1), (2, .int (i2 + (1 : Int32)))]) (aLe_of (show (List.map (fun q => q.1) ([(0, .ref a0), (1, .int r75_3.1), (2, .int (i2 + (1 : Int32)))] : ALv)).Nodup from (by show ([0, 1, 2] : List Nat).Nodup; decide)) (aSubL_cons rfl (aSubL_cons rfl (aSubL_cons rfl aSubL_nil)))) ?_
      exact ih a0 ha0 r75_3.1 (i2 + (1 : Int32)) r75_3.2 _ h
def f282 (kad : Nat → Nat) (N : Nat) (Z : AZ) (a0 : Nat) (I : AI) : Option (Int32 × AI) :=
  (f281 kad N Z (7 : Int32) (I a0 23) I).bind fun r6_1 =>
  (f281 kad N Z r6_1.1 ((r6_1.2) a0 24) r6_1.2).bind fun r13_2 =>
  (f281 kad N Z r13_2.1 ((r13_2.2) a0 38) r13_2.2).bind fun r20_3 =>
  (f281 kad N Z r20_3.1 ((r20_3.2) a0 27) r20_3.2).bind fun r27_4 =>
  (f281 kad N Z r27_4.1 ((r27_4.2) a0 28) r27_4.2).bind fun r36_5 =>
  (f272 kad N Z a0 r36_5.2).bind fun r40_6 =>
  (f281 kad N Z r36_5.1 r40_6.1 r40_6.2).bind fun r43_7 =>
  (f281 kad N Z r43_7.1 ((r43_7.2) a0 34) r43_7.2).bind fun r50_8 =>
  (f281 kad N Z r50_8.1 ((r50_8.2) a0 35) r50_8.2).bind fun r57_9 =>
  f282_b63 kad N Z N a0 r57_9.1 (0 : Int32) r57_9.2
set_option maxRecDepth 20000 in
theorem Tf282 {kad : Nat → Nat} {N : Nat} {Z : AZ} {d : Nat} {t : Option Nat × (Nat × Nat)} (hd : 1 ≤ d) : ∀ (a0 : Nat) (ha0 : sh11 kad Z a0) (I : AI) (r : Int32 × AI), f282 kad N Z a0 I = some r → aGo kad d 282 (0, ([(0, .ref a0)], [])) (aMem Z I, t) (qI Z t r) := by
  intro a0 ha0 I r h
  unfold f282 at h
  refine go_ops aMi282 2 _ (f1 := (3, ([(0, .ref a0)], [.ref a0, .int (7 : Int32)]))) rfl ?_
  refine gg_gI aMi282 rfl rfl rfl (gI_of (sh11_z ha0)) ?_
  obtain ⟨r6_1, hxr6_1, h⟩ := Option.bind_eq_some_iff.mp h
  refine gg_cs (as := [.int (7 : Int32), .int (I a0 23)]) (r := []) aMi282 rfl rfl rfl aMi281 rfl (Nat.le_of_ble_eq_true rfl) (Nat.le_of_ble_eq_true rfl) (by omega) (Tf281 (by omega) (7 : Int32) (I a0 23) I _ hxr6_1) ?_
  show aGo kad d 282 (9, ([(0, .ref a0)], [.int r6_1.1])) (aMem Z r6_1.2, t) _
  refine go_ops aMi282 1 _ (f1 := (10, ([(0, .ref a0)], [.ref a0, .int r6_1.1]))) rfl ?_
  refine gg_gI aMi282 rfl rfl rfl (gI_of (sh11_z ha0)) ?_
  obtain ⟨r13_2, hxr13_2, h⟩ := Option.bind_eq_some_iff.mp h
  refine gg_cs (as := [.int r6_1.1, .int ((r6_1.2) a0 24)]) (r := []) aMi282 rfl rfl rfl aMi281 rfl (Nat.le_of_ble_eq_true rfl) (Nat.le_of_ble_eq_true rfl) (by omega) (Tf281 (by omega) r6_1.1 ((r6_1.2) a0 24) r6_1.2 _ hxr13_2) ?_
  show aGo kad d 282 (16, ([(0, .ref a0)], [.int r13_2.1])) (aMem Z r13_2.2, t) _
  refine go_ops aMi282 1 _ (f1 := (17, ([(0, .ref a0)], [.ref a0, .int r13_2.1]))) rfl ?_
  refine gg_gI aMi282 rfl rfl rfl (gI_of (sh11_z ha0)) ?_
  obtain ⟨r20_3, hxr20_3, h⟩ := Option.bind_eq_some_iff.mp h
  refine gg_cs (as := [.int r13_2.1, .int ((r13_2.2) a0 38)]) (r := []) aMi282 rfl rfl rfl aMi281 rfl (Nat.le_of_ble_eq_true rfl) (Nat.le_of_ble_eq_true rfl) (by omega) (Tf281 (by omega) r13_2.1 ((r13_2.2) a0 38) r13_2.2 _ hxr20_3) ?_
  show aGo kad d 282 (23, ([(0, .ref a0)], [.int r20_3.1])) (aMem Z r20_3.2, t) _
  refine go_ops aMi282 1 _ (f1 := (24, ([(0, .ref a0)], [.ref a0, .int r20_3.1]))) rfl ?_
  refine gg_gI aMi282 rfl rfl rfl (gI_of (sh11_z ha0)) ?_
  obtain ⟨r27_4, hxr27_4, h⟩ := Option.bind_eq_some_iff.mp h
  refine gg_cs (as := [.int r20_3.1, .int ((r20_3.2) a0 27)]) (r := []) aMi282 rfl rfl rfl aMi281 rfl (Nat.le_of_ble_eq_true rfl) (Nat.le_of_ble_eq_true rfl) (by omega) (Tf281 (by omega) r20_3.1 ((r20_3.2) a0 27) r20_3.2 _ hxr27_4) ?_
  show aGo kad d 282 (30, ([(0, .ref a0)], [.int r27_4.1])) (aMem Z r27_4.2, t) _
  refine go_ops aMi282 3 _ (f1 := (33, ([(1, .int r27_4.1), (0, .ref a0)], [.ref a0, .int r27_4.1]))) rfl ?_
  refine gg_gI aMi282 rfl rfl rfl (gI_of (sh11_z ha0)) ?_
  obtain ⟨r36_5, hxr36_5, h⟩ := Option.bind_eq_some_iff.mp h
  refine gg_cs (as := [.int r27_4.1, .int ((r27_4.2) a0 28)]) (r := []) aMi282 rfl rfl rfl aMi281 rfl (Nat.le_of_ble_eq_true rfl) (Nat.le_of_ble_eq_true rfl) (by omega) (Tf281 (by omega) r27_4.1 ((r27_4.2) a0 28) r27_4.2 _ hxr36_5) ?_
  show aGo kad d 282 (39, ([(1, .int r27_4.1), (0, .ref a0)], [.int r36_5.1])) (aMem Z r36_5.2, t) _
  refine go_ops aMi282 1 _ (f1 := (40, ([(1, .int r27_4.1), (0, .ref a0)], [.ref a0, .int r36_5.1]))) rfl ?_
  obtain ⟨r40_6, hxr40_6, h⟩ := Option.bind_eq_some_iff.mp h
  refine gg_cv (as := []) (r := [.int r36_5.1]) aMi282 rfl rfl rfl aMi272 (Nat.le_of_ble_eq_true rfl) rfl (Nat.le_of_ble_eq_true rfl) (Nat.le_of_ble_eq_true rfl) (by omega) (isK_of (sh11_z ha0)) (Tf272 (by omega) a0 ha0 r36_5.2 _ hxr40_6) ?_
  show aGo kad d 282 (43, ([(1, .int r27_4.1), (0, .ref a0)], [.int r40_6.1, .int r36_5.1])) (aMem Z r40_6.2, t) _
  obtain ⟨r43_7, hxr43_7, h⟩ := Option.bind_eq_some_iff.mp h
  refine gg_cs (as := [.int r36_5.1, .int r40_6.1]) (r := []) aMi282 rfl rfl rfl aMi281 rfl (Nat.le_of_ble_eq_true rfl) (Nat.le_of_ble_eq_true rfl) (by omega) (Tf281 (by omega) r36_5.1 r40_6.1 r40_6.2 _ hxr43_7) ?_
  show aGo kad d 282 (46, ([(1, .int r27_4.1), (0, .ref a0)], [.int r43_7.1])) (aMem Z r43_7.2, t) _
  refine go_ops aMi282 1 _ (f1 := (47, ([(1, .int r27_4.1), (0, .ref a0)], [.ref a0, .int r43_7.1]))) rfl ?_
  refine gg_gI aMi282 rfl rfl rfl (gI_of (sh11_z ha0)) ?_
  obtain ⟨r50_8, hxr50_8, h⟩ := Option.bind_eq_some_iff.mp h
  refine gg_cs (as := [.int r43_7.1, .int ((r43_7.2) a0 34)]) (r := []) aMi282 rfl rfl rfl aMi281 rfl (Nat.le_of_ble_eq_true rfl) (Nat.le_of_ble_eq_true rfl) (by omega) (Tf281 (by omega) r43_7.1 ((r43_7.2) a0 34) r43_7.2 _ hxr50_8) ?_
  show aGo kad d 282 (53, ([(1, .int r27_4.1), (0, .ref a0)], [.int r50_8.1])) (aMem Z r50_8.2, t) _
  refine go_ops aMi282 1 _ (f1 := (54, ([(1, .int r27_4.1), (0, .ref a0)], [.ref a0, .int r50_8.1]))) rfl ?_
  refine gg_gI aMi282 rfl rfl rfl (gI_of (sh11_z ha0)) ?_
  obtain ⟨r57_9, hxr57_9, h⟩ := Option.bind_eq_some_iff.mp h
  refine gg_cs (as := [.int r50_8.1, .int ((r50_8.2) a0 35)]) (r := []) aMi282 rfl rfl rfl aMi281 rfl (Nat.le_of_ble_eq_true rfl) (Nat.le_of_ble_eq_true rfl) (by omega) (Tf281 (by omega) r50_8.1 ((r50_8.2) a0 35) r50_8.2 _ hxr57_9) ?_
  show aGo kad d 282 (60, ([(1, .int r27_4.1), (0, .ref a0)], [.int r57_9.1])) (aMem Z r57_9.2, t) _
  refine go_ops aMi282 3 _ (f1 := (63, ([(2, .int (0 : Int32)), (1, .int r57_9.1), (0, .ref a0)], []))) rfl ?_
  refine go_le (lv1 := [(0, .ref a0), (1, .int r57_9.1), (2, .int (0 : Int32))]) (aLe_of (show (List.map (fun q => q.1) ([(0, .ref a0), (1, .int r57_9.1), (2, .int (0 : Int32))] : ALv)).Nodup from (by show ([0, 1, 2] : List Nat).Nodup; decide)) (aSubL_cons rfl (aSubL_cons rfl (aSubL_cons rfl aSubL_nil)))) ?_
  exact Tf282_b63 hd N a0 ha0 r57_9.1 (0 : Int32) r57_9.2 _ h
-- KernelGymModel.sum ()I
def f283 (kad : Nat → Nat) (N : Nat) (Z : AZ) (a0 : Nat) (I : AI) : Option (Int32 × AI) :=
  (wI I a0 0 (0 : Int32)).bind fun I2_1 =>
  (f282 kad N Z a0 I2_1).bind fun r6_2 =>
  some (r6_2.1, r6_2.2)
set_option maxRecDepth 20000 in
theorem Tf283 {kad : Nat → Nat} {N : Nat} {Z : AZ} {d : Nat} {t : Option Nat × (Nat × Nat)} (hd : 2 ≤ d) : ∀ (a0 : Nat) (ha0 : sh11 kad Z a0) (I : AI) (r : Int32 × AI), f283 kad N Z a0 I = some r → aGo kad d 283 (0, ([(0, .ref a0)], [])) (aMem Z I, t) (qI Z t r) := by
  intro a0 ha0 I r h
  unfold f283 at h
  refine go_ops aMi283 2 _ (f1 := (2, ([(0, .ref a0)], [.int (0 : Int32), .ref a0]))) rfl ?_
  obtain ⟨I2_1, hxI2_1, h⟩ := Option.bind_eq_some_iff.mp h
  refine gg_pI aMi283 rfl rfl rfl rfl (by decide) (pI_of (sh11_z ha0) hxI2_1) ?_
  refine go_ops aMi283 1 _ (f1 := (6, ([(0, .ref a0)], [.ref a0]))) rfl ?_
  obtain ⟨r6_2, hxr6_2, h⟩ := Option.bind_eq_some_iff.mp h
  refine gg_cv (as := []) (r := []) aMi283 rfl rfl rfl aMi282 (Nat.le_of_ble_eq_true rfl) rfl (Nat.le_of_ble_eq_true rfl) (Nat.le_of_ble_eq_true rfl) (by omega) (isK_of (sh11_z ha0)) (Tf282 (by omega) a0 ha0 I2_1 _ hxr6_2) ?_
  show aGo kad d 283 (9, ([(0, .ref a0)], [.int r6_2.1])) (aMem Z r6_2.2, t) _
  cases h
  exact go_ret aMi283 rfl aRetI ⟨rfl, rfl⟩
-- KernelGymModel.sumAnew (I)I
def f284_b29 (kad : Nat → Nat) (N : Nat) (Z : AZ) (a0 : Nat) (i1 : Int32) (s0 : Int32) (I : AI) : Option (Int32 × AI) :=
  (f185 kad N Z a0 s0 I).bind fun r29_1 =>
  if ¬ r29_1.1 = 0 then
    (f256 kad N Z a0 i1 r29_1.2).bind fun r44_2 =>
    (f282 kad N Z a0 r44_2.2).bind fun r48_3 =>
    (f256 kad N Z a0 ((r29_1.2) a0 38) r48_3.2).bind fun r54_4 =>
    some (r48_3.1, r54_4.2)
  else
    some ((0 : Int32), r29_1.2)
set_option maxRecDepth 20000 in
theorem Tf284_b29 {kad : Nat → Nat} {N : Nat} {Z : AZ} {d : Nat} {t : Option Nat × (Nat × Nat)} (hd : 8 ≤ d) : ∀ (a0 : Nat) (ha0 : sh11 kad Z a0) (i1 : Int32) (s0 : Int32) (I : AI) (r : Int32 × AI), f284_b29 kad N Z a0 i1 s0 I = some r → aGo kad d 284 (29, ([(0, .ref a0), (1, .int i1)], [.int s0, .ref a0])) (aMem Z I, t) (qI Z t r) := by
  intro a0 ha0 i1 s0 I r h
  unfold f284_b29 at h
  obtain ⟨r29_1, hxr29_1, h⟩ := Option.bind_eq_some_iff.mp h
  refine gg_cv (as := [.int s0]) (r := []) aMi284 rfl rfl rfl aMi185 (Nat.le_of_ble_eq_true rfl) rfl (Nat.le_of_ble_eq_true rfl) (Nat.le_of_ble_eq_true rfl) (by omega) (isK_of (sh11_z ha0)) (Tf185 (by omega) a0 ha0 s0 I _ hxr29_1) ?_
  show aGo kad d 284 (32, ([(0, .ref a0), (1, .int i1)], [.int r29_1.1])) (aMem Z r29_1.2, t) _
  refine gg_br (b := decide (¬ r29_1.1 = 0)) (tg := 37) (off := 5) aMi284 rfl rfl rfl rfl (fun hb => ?_) (fun hb => ?_)
  · rw [if_pos (of_decide_eq_true hb)] at h
    refine go_ops aMi284 1 _ (f1 := (38, ([(0, .ref a0), (1, .int i1)], [.ref a0]))) rfl ?_
    refine gg_gI aMi284 rfl rfl rfl (gI_of (sh11_z ha0)) ?_
    refine go_ops aMi284 3 _ (f1 := (44, ([(2, .int ((r29_1.2) a0 38)), (0, .ref a0), (1, .int i1)], [.int i1, .ref a0]))) rfl ?_
    obtain ⟨r44_2, hxr44_2, h⟩ := Option.bind_eq_some_iff.mp h
    refine gg_cv (as := [.int i1]) (r := []) aMi284 rfl rfl rfl aMi256 (Nat.le_of_ble_eq_true rfl) rfl (Nat.le_of_ble_eq_true rfl) (Nat.le_of_ble_eq_true rfl) (by omega) (isK_of (sh11_z ha0)) (Tf256 (by omega) a0 ha0 i1 r29_1.2 _ hxr44_2) ?_
    show aGo kad d 284 (47, ([(2, .int ((r29_1.2) a0 38)), (0, .ref a0), (1, .int i1)], [])) (aMem Z r44_2.2, t) _
    refine go_ops aMi284 1 _ (f1 := (48, ([(2, .int ((r29_1.2) a0 38)), (0, .ref a0), (1, .int i1)], [.ref a0]))) rfl ?_
    obtain ⟨r48_3, hxr48_3, h⟩ := Option.bind_eq_some_iff.mp h
    refine gg_cv (as := []) (r := []) aMi284 rfl rfl rfl aMi282 (Nat.le_of_ble_eq_true rfl) rfl (Nat.le_of_ble_eq_true rfl) (Nat.le_of_ble_eq_true rfl) (by omega) (isK_of (sh11_z ha0)) (Tf282 (by omega) a0 ha0 r44_2.2 _ hxr48_3) ?_
    show aGo kad d 284 (51, ([(2, .int ((r29_1.2) a0 38)), (0, .ref a0), (1, .int i1)], [.int r48_3.1])) (aMem Z r48_3.2, t) _
    refine go_ops aMi284 3 _ (f1 := (54, ([(3, .int r48_3.1), (2, .int ((r29_1.2) a0 38)), (0, .ref a0), (1, .int i1)], [.int ((r29_1.2) a0 38), .ref a0]))) rfl ?_
    obtain ⟨r54_4, hxr54_4, h⟩ := Option.bind_eq_some_iff.mp h
    refine gg_cv (as := [.int ((r29_1.2) a0 38)]) (r := []) aMi284 rfl rfl rfl aMi256 (Nat.le_of_ble_eq_true rfl) rfl (Nat.le_of_ble_eq_true rfl) (Nat.le_of_ble_eq_true rfl) (by omega) (isK_of (sh11_z ha0)) (Tf256 (by omega) a0 ha0 ((r29_1.2) a0 38) r48_3.2 _ hxr54_4) ?_
    show aGo kad d 284 (57, ([(3, .int r48_3.1), (2, .int ((r29_1.2) a0 38)), (0, .ref a0), (1, .int i1)], [])) (aMem Z r54_4.2, t) _
    refine go_ops aMi284 1 _ (f1 := (58, ([(3, .int r48_3.1), (2, .int ((r29_1.2) a0 38)), (0, .ref a0), (1, .int i1)], [.int r48_3.1]))) rfl ?_
    cases h
    exact go_ret aMi284 rfl aRetI ⟨rfl, rfl⟩
  · rw [if_neg (of_decide_eq_false hb)] at h
    refine go_ops aMi284 1 _ (f1 := (36, ([(0, .ref a0), (1, .int i1)], [.int (0 : Int32)]))) rfl ?_
    cases h
    exact go_ret aMi284 rfl aRetI ⟨rfl, rfl⟩
def f284 (kad : Nat → Nat) (N : Nat) (Z : AZ) (a0 : Nat) (i1 : Int32) (I : AI) : Option (Int32 × AI) :=
  (f216 kad N Z a0 I).bind fun r2_1 =>
  if ¬ r2_1.1 = 0 then
    (f186 kad N Z i1 (0 : Int32) ((r2_1.2) a0 38) r2_1.2).bind fun r18_2 =>
    if r18_2.1 = 0 then
      f284_b29 kad N Z a0 i1 (2 : Int32) r18_2.2
    else
      f284_b29 kad N Z a0 i1 (0 : Int32) r18_2.2
  else
    f284_b29 kad N Z a0 i1 (1 : Int32) r2_1.2
set_option maxRecDepth 20000 in
theorem Tf284 {kad : Nat → Nat} {N : Nat} {Z : AZ} {d : Nat} {t : Option Nat × (Nat × Nat)} (hd : 8 ≤ d) : ∀ (a0 : Nat) (ha0 : sh11 kad Z a0) (i1 : Int32) (I : AI) (r : Int32 × AI), f284 kad N Z a0 i1 I = some r → aGo kad d 284 (0, ([(0, .ref a0), (1, .int i1)], [])) (aMem Z I, t) (qI Z t r) := by
  intro a0 ha0 i1 I r h
  unfold f284 at h
  refine go_ops aMi284 2 _ (f1 := (2, ([(0, .ref a0), (1, .int i1)], [.ref a0, .ref a0]))) rfl ?_
  obtain ⟨r2_1, hxr2_1, h⟩ := Option.bind_eq_some_iff.mp h
  refine gg_cv (as := []) (r := [.ref a0]) aMi284 rfl rfl rfl aMi216 (Nat.le_of_ble_eq_true rfl) rfl (Nat.le_of_ble_eq_true rfl) (Nat.le_of_ble_eq_true rfl) (by omega) (isK_of (sh11_z ha0)) (Tf216 (by omega) a0 ha0 I _ hxr2_1) ?_
  show aGo kad d 284 (5, ([(0, .ref a0), (1, .int i1)], [.int r2_1.1, .ref a0])) (aMem Z r2_1.2, t) _
  refine gg_br (b := decide (¬ r2_1.1 = 0)) (tg := 12) (off := 7) aMi284 rfl rfl rfl rfl (fun hb => ?_) (fun hb => ?_)
  · rw [if_pos (of_decide_eq_true hb)] at h
    refine go_ops aMi284 3 _ (f1 := (15, ([(0, .ref a0), (1, .int i1)], [.ref a0, .int (0 : Int32), .int i1, .ref a0]))) rfl ?_
    refine gg_gI aMi284 rfl rfl rfl (gI_of (sh11_z ha0)) ?_
    obtain ⟨r18_2, hxr18_2, h⟩ := Option.bind_eq_some_iff.mp h
    refine gg_cs (as := [.int i1, .int (0 : Int32), .int ((r2_1.2) a0 38)]) (r := [.ref a0]) aMi284 rfl rfl rfl aMi186 rfl (Nat.le_of_ble_eq_true rfl) (Nat.le_of_ble_eq_true rfl) (by omega) (Tf186 (by omega) i1 (0 : Int32) ((r2_1.2) a0 38) r2_1.2 _ hxr18_2) ?_
    show aGo kad d 284 (21, ([(0, .ref a0), (1, .int i1)], [.int r18_2.1, .ref a0])) (aMem Z r18_2.2, t) _
    refine gg_br (b := decide (r18_2.1 = 0)) (tg := 28) (off := 7) aMi284 rfl rfl rfl rfl (fun hb => ?_) (fun hb => ?_)
    · rw [if_pos (of_decide_eq_true hb)] at h
      refine go_ops aMi284 1 _ (f1 := (29, ([(0, .ref a0), (1, .int i1)], [.int (2 : Int32), .ref a0]))) rfl ?_
      exact Tf284_b29 hd a0 ha0 i1 (2 : Int32) r18_2.2 _ h
    · rw [if_neg (of_decide_eq_false hb)] at h
      refine go_ops aMi284 2 _ (f1 := (29, ([(0, .ref a0), (1, .int i1)], [.int (0 : Int32), .ref a0]))) rfl ?_
      exact Tf284_b29 hd a0 ha0 i1 (0 : Int32) r18_2.2 _ h
  · rw [if_neg (of_decide_eq_false hb)] at h
    refine go_ops aMi284 2 _ (f1 := (29, ([(0, .ref a0), (1, .int i1)], [.int (1 : Int32), .ref a0]))) rfl ?_
    exact Tf284_b29 hd a0 ha0 i1 (1 : Int32) r2_1.2 _ h
-- KernelGymModel.written ()I
def f286 (kad : Nat → Nat) (N : Nat) (Z : AZ) (a0 : Nat) (I : AI) : Option (Int32 × AI) :=
  (wI I a0 0 (0 : Int32)).bind fun I2_1 =>
  some ((I2_1 a0 52), I2_1)
set_option maxRecDepth 20000 in
theorem Tf286 {kad : Nat → Nat} {N : Nat} {Z : AZ} {d : Nat} {t : Option Nat × (Nat × Nat)} (hd : 0 ≤ d) : ∀ (a0 : Nat) (ha0 : sh11 kad Z a0) (I : AI) (r : Int32 × AI), f286 kad N Z a0 I = some r → aGo kad d 286 (0, ([(0, .ref a0)], [])) (aMem Z I, t) (qI Z t r) := by
  intro a0 ha0 I r h
  unfold f286 at h
  refine go_ops aMi286 2 _ (f1 := (2, ([(0, .ref a0)], [.int (0 : Int32), .ref a0]))) rfl ?_
  obtain ⟨I2_1, hxI2_1, h⟩ := Option.bind_eq_some_iff.mp h
  refine gg_pI aMi286 rfl rfl rfl rfl (by decide) (pI_of (sh11_z ha0) hxI2_1) ?_
  refine go_ops aMi286 1 _ (f1 := (6, ([(0, .ref a0)], [.ref a0]))) rfl ?_
  refine gg_gI aMi286 rfl rfl rfl (gI_of (sh11_z ha0)) ?_
  cases h
  exact go_ret aMi286 rfl aRetI ⟨rfl, rfl⟩
-- KernelGymModel.disk (II)I
def f287_b47 (kad : Nat → Nat) (N : Nat) (Z : AZ) (a0 : Nat) (s0 : Int32) (I : AI) : Option (Int32 × AI) :=
  some (s0, I)
set_option maxRecDepth 20000 in
theorem Tf287_b47 {kad : Nat → Nat} {N : Nat} {Z : AZ} {d : Nat} {t : Option Nat × (Nat × Nat)} (hd : 1 ≤ d) : ∀ (a0 : Nat) (ha0 : sh11 kad Z a0) (s0 : Int32) (I : AI) (r : Int32 × AI), f287_b47 kad N Z a0 s0 I = some r → aGo kad d 287 (47, ([], [.int s0])) (aMem Z I, t) (qI Z t r) := by
  intro a0 ha0 s0 I r h
  unfold f287_b47 at h
  cases h
  exact go_ret aMi287 rfl aRetI ⟨rfl, rfl⟩
def f287_b26 (kad : Nat → Nat) (N : Nat) (Z : AZ) (a0 : Nat) (i1 : Int32) (i2 : Int32) (s0 : Int32) (I : AI) : Option (Int32 × AI) :=
  (f185 kad N Z a0 s0 I).bind fun r26_1 =>
  if r26_1.1 = 0 then
    f287_b47 kad N Z a0 (0 : Int32) r26_1.2
  else
    (ixA 256 (((8 : Int32) * i1) + i2)).bind fun j42_2 =>
    f287_b47 kad N Z a0 (r26_1.2 (a0 + 24) j42_2) r26_1.2
set_option maxRecDepth 20000 in
theorem Tf287_b26 {kad : Nat → Nat} {N : Nat} {Z : AZ} {d : Nat} {t : Option Nat × (Nat × Nat)} (hd : 1 ≤ d) : ∀ (a0 : Nat) (ha0 : sh11 kad Z a0) (i1 : Int32) (i2 : Int32) (s0 : Int32) (I : AI) (r : Int32 × AI), f287_b26 kad N Z a0 i1 i2 s0 I = some r → aGo kad d 287 (26, ([(0, .ref a0), (1, .int i1), (2, .int i2)], [.int s0, .ref a0])) (aMem Z I, t) (qI Z t r) := by
  intro a0 ha0 i1 i2 s0 I r h
  unfold f287_b26 at h
  obtain ⟨r26_1, hxr26_1, h⟩ := Option.bind_eq_some_iff.mp h
  refine gg_cv (as := [.int s0]) (r := []) aMi287 rfl rfl rfl aMi185 (Nat.le_of_ble_eq_true rfl) rfl (Nat.le_of_ble_eq_true rfl) (Nat.le_of_ble_eq_true rfl) (by omega) (isK_of (sh11_z ha0)) (Tf185 (by omega) a0 ha0 s0 I _ hxr26_1) ?_
  show aGo kad d 287 (29, ([(0, .ref a0), (1, .int i1), (2, .int i2)], [.int r26_1.1])) (aMem Z r26_1.2, t) _
  refine gg_br (b := decide (r26_1.1 = 0)) (tg := 46) (off := 17) aMi287 rfl rfl rfl rfl (fun hb => ?_) (fun hb => ?_)
  · rw [if_pos (of_decide_eq_true hb)] at h
    refine go_ops aMi287 1 _ (f1 := (47, ([(0, .ref a0), (1, .int i1), (2, .int i2)], [.int (0 : Int32)]))) rfl ?_
    refine go_le (lv1 := []) (aLe_of (show (List.map (fun q => q.1) ([] : ALv)).Nodup from (by show ([] : List Nat).Nodup; decide)) aSubL_nil) ?_
    exact Tf287_b47 hd a0 ha0 (0 : Int32) r26_1.2 _ h
  · rw [if_neg (of_decide_eq_false hb)] at h
    refine go_ops aMi287 1 _ (f1 := (33, ([(0, .ref a0), (1, .int i1), (2, .int i2)], [.ref a0]))) rfl ?_
    refine gg_gR (b := (a0 + 24)) aMi287 rfl rfl rfl (gR_of (sh11_z ha0) (sh11_r50 ha0)) ?_
    refine go_ops aMi287 5 _ (f1 := (42, ([(0, .ref a0), (1, .int i1), (2, .int i2)], [.int (((8 : Int32) * i1) + i2), .ref (a0 + 24)]))) rfl ?_
    obtain ⟨j42_2, hxj42_2, h⟩ := Option.bind_eq_some_iff.mp h
    refine gg_lI (Or.inl ⟨rfl, rfl⟩) aMi287 rfl (lI_of (sh11_a50 ha0) hxj42_2) ?_
    refine go_ops aMi287 1 _ (f1 := (47, ([(0, .ref a0), (1, .int i1), (2, .int i2)], [.int (r26_1.2 (a0 + 24) j42_2)]))) rfl ?_
    refine go_le (lv1 := []) (aLe_of (show (List.map (fun q => q.1) ([] : ALv)).Nodup from (by show ([] : List Nat).Nodup; decide)) aSubL_nil) ?_
    exact Tf287_b47 hd a0 ha0 (r26_1.2 (a0 + 24) j42_2) r26_1.2 _ h
def f287_b25 (kad : Nat → Nat) (N : Nat) (Z : AZ) (a0 : Nat) (i1 : Int32) (i2 : Int32) (I : AI) : Option (Int32 × AI) :=
  f287_b26 kad N Z a0 i1 i2 (1 : Int32) I
set_option maxRecDepth 20000 in
theorem Tf287_b25 {kad : Nat → Nat} {N : Nat} {Z : AZ} {d : Nat} {t : Option Nat × (Nat × Nat)} (hd : 1 ≤ d) : ∀ (a0 : Nat) (ha0 : sh11 kad Z a0) (i1 : Int32) (i2 : Int32) (I : AI) (r : Int32 × AI), f287_b25 kad N Z a0 i1 i2 I = some r → aGo kad d 287 (25, ([(0, .ref a0), (1, .int i1), (2, .int i2)], [.ref a0])) (aMem Z I, t) (qI Z t r) := by
  intro a0 ha0 i1 i2 I r h
  unfold f287_b25 at h
  refine go_ops aMi287 1 _ (f1 := (26, ([(0, .ref a0), (1, .int i1), (2, .int i2)], [.int (1 : Int32), .ref a0]))) rfl ?_
  exact Tf287_b26 hd a0 ha0 i1 i2 (1 : Int32) I _ h
def f287 (kad : Nat → Nat) (N : Nat) (Z : AZ) (a0 : Nat) (i1 : Int32) (i2 : Int32) (I : AI) : Option (Int32 × AI) :=
  (f186 kad N Z i1 (0 : Int32) (31 : Int32) I).bind fun r5_1 =>
  if r5_1.1 = 0 then
    f287_b25 kad N Z a0 i1 i2 r5_1.2
  else
    (f186 kad N Z i2 (0 : Int32) (7 : Int32) r5_1.2).bind fun r15_2 =>
    if r15_2.1 = 0 then
      f287_b25 kad N Z a0 i1 i2 r15_2.2
    else
      f287_b26 kad N Z a0 i1 i2 (0 : Int32) r15_2.2
set_option maxRecDepth 20000 in
theorem Tf287 {kad : Nat → Nat} {N : Nat} {Z : AZ} {d : Nat} {t : Option Nat × (Nat × Nat)} (hd : 1 ≤ d) : ∀ (a0 : Nat) (ha0 : sh11 kad Z a0) (i1 : Int32) (i2 : Int32) (I : AI) (r : Int32 × AI), f287 kad N Z a0 i1 i2 I = some r → aGo kad d 287 (0, ([(0, .ref a0), (1, .int i1), (2, .int i2)], [])) (aMem Z I, t) (qI Z t r) := by
  intro a0 ha0 i1 i2 I r h
  unfold f287 at h
  refine go_ops aMi287 4 _ (f1 := (5, ([(0, .ref a0), (1, .int i1), (2, .int i2)], [.int (31 : Int32), .int (0 : Int32), .int i1, .ref a0]))) rfl ?_
  obtain ⟨r5_1, hxr5_1, h⟩ := Option.bind_eq_some_iff.mp h
  refine gg_cs (as := [.int i1, .int (0 : Int32), .int (31 : Int32)]) (r := [.ref a0]) aMi287 rfl rfl rfl aMi186 rfl (Nat.le_of_ble_eq_true rfl) (Nat.le_of_ble_eq_true rfl) (by omega) (Tf186 (by omega) i1 (0 : Int32) (31 : Int32) I _ hxr5_1) ?_
  show aGo kad d 287 (8, ([(0, .ref a0), (1, .int i1), (2, .int i2)], [.int r5_1.1, .ref a0])) (aMem Z r5_1.2, t) _
  refine gg_br (b := decide (r5_1.1 = 0)) (tg := 25) (off := 17) aMi287 rfl rfl rfl rfl (fun hb => ?_) (fun hb => ?_)
  · rw [if_pos (of_decide_eq_true hb)] at h
    exact Tf287_b25 hd a0 ha0 i1 i2 r5_1.2 _ h
  · rw [if_neg (of_decide_eq_false hb)] at h
    refine go_ops aMi287 3 _ (f1 := (15, ([(0, .ref a0), (1, .int i1), (2, .int i2)], [.int (7 : Int32), .int (0 : Int32), .int i2, .ref a0]))) rfl ?_
    obtain ⟨r15_2, hxr15_2, h⟩ := Option.bind_eq_some_iff.mp h
    refine gg_cs (as := [.int i2, .int (0 : Int32), .int (7 : Int32)]) (r := [.ref a0]) aMi287 rfl rfl rfl aMi186 rfl (Nat.le_of_ble_eq_true rfl) (Nat.le_of_ble_eq_true rfl) (by omega) (Tf186 (by omega) i2 (0 : Int32) (7 : Int32) r5_1.2 _ hxr15_2) ?_
    show aGo kad d 287 (18, ([(0, .ref a0), (1, .int i1), (2, .int i2)], [.int r15_2.1, .ref a0])) (aMem Z r15_2.2, t) _
    refine gg_br (b := decide (r15_2.1 = 0)) (tg := 25) (off := 7) aMi287 rfl rfl rfl rfl (fun hb => ?_) (fun hb => ?_)
    · rw [if_pos (of_decide_eq_true hb)] at h
      exact Tf287_b25 hd a0 ha0 i1 i2 r15_2.2 _ h
    · rw [if_neg (of_decide_eq_false hb)] at h
      refine go_ops aMi287 2 _ (f1 := (26, ([(0, .ref a0), (1, .int i1), (2, .int i2)], [.int (0 : Int32), .ref a0]))) rfl ?_
      exact Tf287_b26 hd a0 ha0 i1 i2 (0 : Int32) r15_2.2 _ h
-- KernelGymModel.files ()I
def f288 (kad : Nat → Nat) (N : Nat) (Z : AZ) (a0 : Nat) (I : AI) : Option (Int32 × AI) :=
  (wI I a0 0 (0 : Int32)).bind fun I2_1 =>
  (f285 kad N Z a0 I2_1).bind fun r6_2 =>
  some (r6_2.1, r6_2.2)
set_option maxRecDepth 20000 in
theorem Tf288 {kad : Nat → Nat} {N : Nat} {Z : AZ} {d : Nat} {t : Option Nat × (Nat × Nat)} (hd : 2 ≤ d) : ∀ (a0 : Nat) (ha0 : sh11 kad Z a0) (I : AI) (r : Int32 × AI), f288 kad N Z a0 I = some r → aGo kad d 288 (0, ([(0, .ref a0)], [])) (aMem Z I, t) (qI Z t r) := by
  intro a0 ha0 I r h
  unfold f288 at h
  refine go_ops aMi288 2 _ (f1 := (2, ([(0, .ref a0)], [.int (0 : Int32), .ref a0]))) rfl ?_
  obtain ⟨I2_1, hxI2_1, h⟩ := Option.bind_eq_some_iff.mp h
  refine gg_pI aMi288 rfl rfl rfl rfl (by decide) (pI_of (sh11_z ha0) hxI2_1) ?_
  refine go_ops aMi288 1 _ (f1 := (6, ([(0, .ref a0)], [.ref a0]))) rfl ?_
  obtain ⟨r6_2, hxr6_2, h⟩ := Option.bind_eq_some_iff.mp h
  refine gg_cv (as := []) (r := []) aMi288 rfl rfl rfl aMi285 (Nat.le_of_ble_eq_true rfl) rfl (Nat.le_of_ble_eq_true rfl) (Nat.le_of_ble_eq_true rfl) (by omega) (isK_of (sh11_z ha0)) (Tf285 (by omega) a0 ha0 I2_1 _ hxr6_2) ?_
  show aGo kad d 288 (9, ([(0, .ref a0)], [.int r6_2.1])) (aMem Z r6_2.2, t) _
  cases h
  exact go_ret aMi288 rfl aRetI ⟨rfl, rfl⟩
-- KernelGymModel.errorOfName (I)I
def f289_b31 (kad : Nat → Nat) (N : Nat) (Z : AZ) (a0 : Nat) (s0 : Int32) (I : AI) : Option (Int32 × AI) :=
  some (s0, I)
set_option maxRecDepth 20000 in
theorem Tf289_b31 {kad : Nat → Nat} {N : Nat} {Z : AZ} {d : Nat} {t : Option Nat × (Nat × Nat)} (hd : 2 ≤ d) : ∀ (a0 : Nat) (ha0 : sh11 kad Z a0) (s0 : Int32) (I : AI) (r : Int32 × AI), f289_b31 kad N Z a0 s0 I = some r → aGo kad d 289 (31, ([], [.int s0])) (aMem Z I, t) (qI Z t r) := by
  intro a0 ha0 s0 I r h
  unfold f289_b31 at h
  cases h
  exact go_ret aMi289 rfl aRetI ⟨rfl, rfl⟩
def f289 (kad : Nat → Nat) (N : Nat) (Z : AZ) (a0 : Nat) (i1 : Int32) (I : AI) : Option (Int32 × AI) :=
  (f186 kad N Z i1 (1 : Int32) (65535 : Int32) I).bind fun r4_1 =>
  if ¬ r4_1.1 = 0 then
    (f236 kad N Z (a0 + 24) i1 r4_1.2).bind fun r19_2 =>
    if ¬ r19_2.1 = (Int32.ofInt (-1)) then
      f289_b31 kad N Z a0 (0 : Int32) r19_2.2
    else
      f289_b31 kad N Z a0 (2 : Int32) r19_2.2
  else
    f289_b31 kad N Z a0 (1 : Int32) r4_1.2
set_option maxRecDepth 20000 in
theorem Tf289 {kad : Nat → Nat} {N : Nat} {Z : AZ} {d : Nat} {t : Option Nat × (Nat × Nat)} (hd : 2 ≤ d) : ∀ (a0 : Nat) (ha0 : sh11 kad Z a0) (i1 : Int32) (I : AI) (r : Int32 × AI), f289 kad N Z a0 i1 I = some r → aGo kad d 289 (0, ([(0, .ref a0), (1, .int i1)], [])) (aMem Z I, t) (qI Z t r) := by
  intro a0 ha0 i1 I r h
  unfold f289 at h
  refine go_ops aMi289 2 _ (f1 := (2, ([(0, .ref a0), (1, .int i1)], [.int (1 : Int32), .int i1]))) rfl ?_
  refine gg_kI (Or.inl ⟨rfl, rfl⟩) aMi289 rfl rfl ?_
  obtain ⟨r4_1, hxr4_1, h⟩ := Option.bind_eq_some_iff.mp h
  refine gg_cs (as := [.int i1, .int (1 : Int32), .int (65535 : Int32)]) (r := []) aMi289 rfl rfl rfl aMi186 rfl (Nat.le_of_ble_eq_true rfl) (Nat.le_of_ble_eq_true rfl) (by omega) (Tf186 (by omega) i1 (1 : Int32) (65535 : Int32) I _ hxr4_1) ?_
  show aGo kad d 289 (7, ([(0, .ref a0), (1, .int i1)], [.int r4_1.1])) (aMem Z r4_1.2, t) _
  refine gg_br (b := decide (¬ r4_1.1 = 0)) (tg := 14) (off := 7) aMi289 rfl rfl rfl rfl (fun hb => ?_) (fun hb => ?_)
  · rw [if_pos (of_decide_eq_true hb)] at h
    refine go_ops aMi289 1 _ (f1 := (15, ([(0, .ref a0), (1, .int i1)], [.ref a0]))) rfl ?_
    refine gg_gR (b := (a0 + 24)) aMi289 rfl rfl rfl (gR_of (sh11_z ha0) (sh11_r50 ha0)) ?_
    refine go_ops aMi289 1 _ (f1 := (19, ([(0, .ref a0), (1, .int i1)], [.int i1, .ref (a0 + 24)]))) rfl ?_
    obtain ⟨r19_2, hxr19_2, h⟩ := Option.bind_eq_some_iff.mp h
    refine gg_cs (as := [.ref (a0 + 24), .int i1]) (r := []) aMi289 rfl rfl rfl aMi236 rfl (Nat.le_of_ble_eq_true rfl) (Nat.le_of_ble_eq_true rfl) (by omega) (Tf236 (by omega) (a0 + 24) i1 r4_1.2 _ hxr19_2) ?_
    show aGo kad d 289 (22, ([(0, .ref a0), (1, .int i1)], [.int r19_2.1])) (aMem Z r19_2.2, t) _
    refine go_ops aMi289 1 _ (f1 := (23, ([(0, .ref a0), (1, .int i1)], [.int (Int32.ofInt (-1)), .int r19_2.1]))) rfl ?_
    refine gg_br (b := decide (¬ r19_2.1 = (Int32.ofInt (-1)))) (tg := 30) (off := 7) aMi289 rfl rfl rfl rfl (fun hb => ?_) (fun hb => ?_)
    · rw [if_pos (of_decide_eq_true hb)] at h
      refine go_ops aMi289 1 _ (f1 := (31, ([(0, .ref a0), (1, .int i1)], [.int (0 : Int32)]))) rfl ?_
      refine go_le (lv1 := []) (aLe_of (show (List.map (fun q => q.1) ([] : ALv)).Nodup from (by show ([] : List Nat).Nodup; decide)) aSubL_nil) ?_
      exact Tf289_b31 hd a0 ha0 (0 : Int32) r19_2.2 _ h
    · rw [if_neg (of_decide_eq_false hb)] at h
      refine go_ops aMi289 2 _ (f1 := (31, ([(0, .ref a0), (1, .int i1)], [.int (2 : Int32)]))) rfl ?_
      refine go_le (lv1 := []) (aLe_of (show (List.map (fun q => q.1) ([] : ALv)).Nodup from (by show ([] : List Nat).Nodup; decide)) aSubL_nil) ?_
      exact Tf289_b31 hd a0 ha0 (2 : Int32) r19_2.2 _ h
  · rw [if_neg (of_decide_eq_false hb)] at h
    refine go_ops aMi289 2 _ (f1 := (31, ([(0, .ref a0), (1, .int i1)], [.int (1 : Int32)]))) rfl ?_
    refine go_le (lv1 := []) (aLe_of (show (List.map (fun q => q.1) ([] : ALv)).Nodup from (by show ([] : List Nat).Nodup; decide)) aSubL_nil) ?_
    exact Tf289_b31 hd a0 ha0 (1 : Int32) r4_1.2 _ h
-- KernelGymModel.size (I)I
def f290_b34 (kad : Nat → Nat) (N : Nat) (Z : AZ) (a0 : Nat) (s0 : Int32) (I : AI) : Option (Int32 × AI) :=
  some (s0, I)
set_option maxRecDepth 20000 in
theorem Tf290_b34 {kad : Nat → Nat} {N : Nat} {Z : AZ} {d : Nat} {t : Option Nat × (Nat × Nat)} (hd : 3 ≤ d) : ∀ (a0 : Nat) (ha0 : sh11 kad Z a0) (s0 : Int32) (I : AI) (r : Int32 × AI), f290_b34 kad N Z a0 s0 I = some r → aGo kad d 290 (34, ([], [.int s0])) (aMem Z I, t) (qI Z t r) := by
  intro a0 ha0 s0 I r h
  unfold f290_b34 at h
  cases h
  exact go_ret aMi290 rfl aRetI ⟨rfl, rfl⟩
def f290 (kad : Nat → Nat) (N : Nat) (Z : AZ) (a0 : Nat) (i1 : Int32) (I : AI) : Option (Int32 × AI) :=
  (f289 kad N Z a0 i1 I).bind fun r3_1 =>
  (f185 kad N Z a0 r3_1.1 r3_1.2).bind fun r6_2 =>
  if r6_2.1 = 0 then
    f290_b34 kad N Z a0 (0 : Int32) r6_2.2
  else
    (f236 kad N Z (a0 + 24) i1 r6_2.2).bind fun r21_3 =>
    (f235 kad N Z r21_3.1 r21_3.2).bind fun r24_4 =>
    (ixA 256 (r24_4.1 + (1 : Int32))).bind fun j29_5 =>
    f290_b34 kad N Z a0 (r24_4.2 (a0 + 24) j29_5) r24_4.2
set_option maxRecDepth 20000 in
theorem Tf290 {kad : Nat → Nat} {N : Nat} {Z : AZ} {d : Nat} {t : Option Nat × (Nat × Nat)} (hd : 3 ≤ d) : ∀ (a0 : Nat) (ha0 : sh11 kad Z a0) (i1 : Int32) (I : AI) (r : Int32 × AI), f290 kad N Z a0 i1 I = some r → aGo kad d 290 (0, ([(0, .ref a0), (1, .int i1)], [])) (aMem Z I, t) (qI Z t r) := by
  intro a0 ha0 i1 I r h
  unfold f290 at h
  refine go_ops aMi290 3 _ (f1 := (3, ([(0, .ref a0), (1, .int i1)], [.int i1, .ref a0, .ref a0]))) rfl ?_
  obtain ⟨r3_1, hxr3_1, h⟩ := Option.bind_eq_some_iff.mp h
  refine gg_cv (as := [.int i1]) (r := [.ref a0]) aMi290 rfl rfl rfl aMi289 (Nat.le_of_ble_eq_true rfl) rfl (Nat.le_of_ble_eq_true rfl) (Nat.le_of_ble_eq_true rfl) (by omega) (isK_of (sh11_z ha0)) (Tf289 (by omega) a0 ha0 i1 I _ hxr3_1) ?_
  show aGo kad d 290 (6, ([(0, .ref a0), (1, .int i1)], [.int r3_1.1, .ref a0])) (aMem Z r3_1.2, t) _
  obtain ⟨r6_2, hxr6_2, h⟩ := Option.bind_eq_some_iff.mp h
  refine gg_cv (as := [.int r3_1.1]) (r := []) aMi290 rfl rfl rfl aMi185 (Nat.le_of_ble_eq_true rfl) rfl (Nat.le_of_ble_eq_true rfl) (Nat.le_of_ble_eq_true rfl) (by omega) (isK_of (sh11_z ha0)) (Tf185 (by omega) a0 ha0 r3_1.1 r3_1.2 _ hxr6_2) ?_
  show aGo kad d 290 (9, ([(0, .ref a0), (1, .int i1)], [.int r6_2.1])) (aMem Z r6_2.2, t) _
  refine gg_br (b := decide (r6_2.1 = 0)) (tg := 33) (off := 24) aMi290 rfl rfl rfl rfl (fun hb => ?_) (fun hb => ?_)
  · rw [if_pos (of_decide_eq_true hb)] at h
    refine go_ops aMi290 1 _ (f1 := (34, ([(0, .ref a0), (1, .int i1)], [.int (0 : Int32)]))) rfl ?_
    refine go_le (lv1 := []) (aLe_of (show (List.map (fun q => q.1) ([] : ALv)).Nodup from (by show ([] : List Nat).Nodup; decide)) aSubL_nil) ?_
    exact Tf290_b34 hd a0 ha0 (0 : Int32) r6_2.2 _ h
  · rw [if_neg (of_decide_eq_false hb)] at h
    refine go_ops aMi290 1 _ (f1 := (13, ([(0, .ref a0), (1, .int i1)], [.ref a0]))) rfl ?_
    refine gg_gR (b := (a0 + 24)) aMi290 rfl rfl rfl (gR_of (sh11_z ha0) (sh11_r50 ha0)) ?_
    refine go_ops aMi290 1 _ (f1 := (17, ([(0, .ref a0), (1, .int i1)], [.ref a0, .ref (a0 + 24)]))) rfl ?_
    refine gg_gR (b := (a0 + 24)) aMi290 rfl rfl rfl (gR_of (sh11_z ha0) (sh11_r50 ha0)) ?_
    refine go_ops aMi290 1 _ (f1 := (21, ([(0, .ref a0), (1, .int i1)], [.int i1, .ref (a0 + 24), .ref (a0 + 24)]))) rfl ?_
    obtain ⟨r21_3, hxr21_3, h⟩ := Option.bind_eq_some_iff.mp h
    refine gg_cs (as := [.ref (a0 + 24), .int i1]) (r := [.ref (a0 + 24)]) aMi290 rfl rfl rfl aMi236 rfl (Nat.le_of_ble_eq_true rfl) (Nat.le_of_ble_eq_true rfl) (by omega) (Tf236 (by omega) (a0 + 24) i1 r6_2.2 _ hxr21_3) ?_
    show aGo kad d 290 (24, ([(0, .ref a0), (1, .int i1)], [.int r21_3.1, .ref (a0 + 24)])) (aMem Z r21_3.2, t) _
    obtain ⟨r24_4, hxr24_4, h⟩ := Option.bind_eq_some_iff.mp h
    refine gg_cs (as := [.int r21_3.1]) (r := [.ref (a0 + 24)]) aMi290 rfl rfl rfl aMi235 rfl (Nat.le_of_ble_eq_true rfl) (Nat.le_of_ble_eq_true rfl) (by omega) (Tf235 (by omega) r21_3.1 r21_3.2 _ hxr24_4) ?_
    show aGo kad d 290 (27, ([(0, .ref a0), (1, .int i1)], [.int r24_4.1, .ref (a0 + 24)])) (aMem Z r24_4.2, t) _
    refine go_ops aMi290 2 _ (f1 := (29, ([(0, .ref a0), (1, .int i1)], [.int (r24_4.1 + (1 : Int32)), .ref (a0 + 24)]))) rfl ?_
    obtain ⟨j29_5, hxj29_5, h⟩ := Option.bind_eq_some_iff.mp h
    refine gg_lI (Or.inl ⟨rfl, rfl⟩) aMi290 rfl (lI_of (sh11_a50 ha0) hxj29_5) ?_
    refine go_ops aMi290 1 _ (f1 := (34, ([(0, .ref a0), (1, .int i1)], [.int (r24_4.2 (a0 + 24) j29_5)]))) rfl ?_
    refine go_le (lv1 := []) (aLe_of (show (List.map (fun q => q.1) ([] : ALv)).Nodup from (by show ([] : List Nat).Nodup; decide)) aSubL_nil) ?_
    exact Tf290_b34 hd a0 ha0 (r24_4.2 (a0 + 24) j29_5) r24_4.2 _ h
-- KernelGymModel.wordOf (II)I
def f291_b52 (kad : Nat → Nat) (N : Nat) (Z : AZ) (a0 : Nat) (i2 : Int32) (i4 : Int32) (s0 : Int32) (I : AI) : Option (Int32 × AI) :=
  (f185 kad N Z a0 s0 I).bind fun r52_1 =>
  if ¬ r52_1.1 = 0 then
    (f241 kad N Z a0 (a0 + 24) i4 i2 r52_1.2).bind fun r74_2 =>
    (ixA 256 (((8 : Int32) * r74_2.1) + (i2 - i2 / (8 : Int32) * (8 : Int32)))).bind fun j83_3 =>
    some ((r74_2.2 (a0 + 24) j83_3), r74_2.2)
  else
    some ((0 : Int32), r52_1.2)
set_option maxRecDepth 20000 in
theorem Tf291_b52 {kad : Nat → Nat} {N : Nat} {Z : AZ} {d : Nat} {t : Option Nat × (Nat × Nat)} (hd : 3 ≤ d) : ∀ (a0 : Nat) (ha0 : sh11 kad Z a0) (i2 : Int32) (i4 : Int32) (s0 : Int32) (I : AI) (r : Int32 × AI), f291_b52 kad N Z a0 i2 i4 s0 I = some r → aGo kad d 291 (52, ([(0, .ref a0), (2, .int i2), (4, .int i4)], [.int s0, .ref a0])) (aMem Z I, t) (qI Z t r) := by
  intro a0 ha0 i2 i4 s0 I r h
  unfold f291_b52 at h
  obtain ⟨r52_1, hxr52_1, h⟩ := Option.bind_eq_some_iff.mp h
  refine gg_cv (as := [.int s0]) (r := []) aMi291 rfl rfl rfl aMi185 (Nat.le_of_ble_eq_true rfl) rfl (Nat.le_of_ble_eq_true rfl) (Nat.le_of_ble_eq_true rfl) (by omega) (isK_of (sh11_z ha0)) (Tf185 (by omega) a0 ha0 s0 I _ hxr52_1) ?_
  show aGo kad d 291 (55, ([(0, .ref a0), (2, .int i2), (4, .int i4)], [.int r52_1.1])) (aMem Z r52_1.2, t) _
  refine gg_br (b := decide (¬ r52_1.1 = 0)) (tg := 60) (off := 5) aMi291 rfl rfl rfl rfl (fun hb => ?_) (fun hb => ?_)
  · rw [if_pos (of_decide_eq_true hb)] at h
    refine go_ops aMi291 1 _ (f1 := (61, ([(0, .ref a0), (2, .int i2), (4, .int i4)], [.ref a0]))) rfl ?_
    refine gg_gR (b := (a0 + 24)) aMi291 rfl rfl rfl (gR_of (sh11_z ha0) (sh11_r50 ha0)) ?_
    refine go_ops aMi291 3 _ (f1 := (68, ([(0, .ref a0), (2, .int i2), (4, .int i4)], [.ref a0, .ref a0, .int (8 : Int32), .ref (a0 + 24)]))) rfl ?_
    refine gg_gR (b := (a0 + 24)) aMi291 rfl rfl rfl (gR_of (sh11_z ha0) (sh11_r50 ha0)) ?_
    refine go_ops aMi291 2 _ (f1 := (74, ([(0, .ref a0), (2, .int i2), (4, .int i4)], [.int i2, .int i4, .ref (a0 + 24), .ref a0, .int (8 : Int32), .ref (a0 + 24)]))) rfl ?_
    obtain ⟨r74_2, hxr74_2, h⟩ := Option.bind_eq_some_iff.mp h
    refine gg_cv (as := [.ref (a0 + 24), .int i4, .int i2]) (r := [.int (8 : Int32), .ref (a0 + 24)]) aMi291 rfl rfl rfl aMi241 (Nat.le_of_ble_eq_true rfl) rfl (Nat.le_of_ble_eq_true rfl) (Nat.le_of_ble_eq_true rfl) (by omega) (isK_of (sh11_z ha0)) (Tf241 (by omega) a0 ha0 (a0 + 24) i4 i2 r52_1.2 _ hxr74_2) ?_
    show aGo kad d 291 (77, ([(0, .ref a0), (2, .int i2), (4, .int i4)], [.int r74_2.1, .int (8 : Int32), .ref (a0 + 24)])) (aMem Z r74_2.2, t) _
    refine go_ops aMi291 5 _ (f1 := (83, ([(0, .ref a0), (2, .int i2), (4, .int i4)], [.int (((8 : Int32) * r74_2.1) + (i2 - i2 / (8 : Int32) * (8 : Int32))), .ref (a0 + 24)]))) rfl ?_
    obtain ⟨j83_3, hxj83_3, h⟩ := Option.bind_eq_some_iff.mp h
    refine gg_lI (Or.inl ⟨rfl, rfl⟩) aMi291 rfl (lI_of (sh11_a50 ha0) hxj83_3) ?_
    cases h
    exact go_ret aMi291 rfl aRetI ⟨rfl, rfl⟩
  · rw [if_neg (of_decide_eq_false hb)] at h
    refine go_ops aMi291 1 _ (f1 := (59, ([(0, .ref a0), (2, .int i2), (4, .int i4)], [.int (0 : Int32)]))) rfl ?_
    cases h
    exact go_ret aMi291 rfl aRetI ⟨rfl, rfl⟩
def f291 (kad : Nat → Nat) (N : Nat) (Z : AZ) (a0 : Nat) (i1 : Int32) (i2 : Int32) (I : AI) : Option (Int32 × AI) :=
  (f289 kad N Z a0 i1 I).bind fun r2_1 =>
  (f236 kad N Z (a0 + 24) i1 r2_1.2).bind fun r11_2 =>
  if r2_1.1 = 0 then
    (f235 kad N Z r11_2.1 r11_2.2).bind fun r33_3 =>
    (ixA 256 (r33_3.1 + (1 : Int32))).bind fun j38_4 =>
    (f186 kad N Z i2 (0 : Int32) ((r33_3.2 (a0 + 24) j38_4) - (1 : Int32)) r33_3.2).bind fun r41_5 =>
    if r41_5.1 = 0 then
      f291_b52 kad N Z a0 i2 r11_2.1 (3 : Int32) r41_5.2
    else
      f291_b52 kad N Z a0 i2 r11_2.1 (0 : Int32) r41_5.2
  else
    f291_b52 kad N Z a0 i2 r11_2.1 r2_1.1 r11_2.2
set_option maxRecDepth 20000 in
theorem Tf291 {kad : Nat → Nat} {N : Nat} {Z : AZ} {d : Nat} {t : Option Nat × (Nat × Nat)} (hd : 3 ≤ d) : ∀ (a0 : Nat) (ha0 : sh11 kad Z a0) (i1 : Int32) (i2 : Int32) (I : AI) (r : Int32 × AI), f291 kad N Z a0 i1 i2 I = some r → aGo kad d 291 (0, ([(0, .ref a0), (1, .int i1), (2, .int i2)], [])) (aMem Z I, t) (qI Z t r) := by
  intro a0 ha0 i1 i2 I r h
  unfold f291 at h
  refine go_ops aMi291 2 _ (f1 := (2, ([(0, .ref a0), (1, .int i1), (2, .int i2)], [.int i1, .ref a0]))) rfl ?_
  obtain ⟨r2_1, hxr2_1, h⟩ := Option.bind_eq_some_iff.mp h
  refine gg_cv (as := [.int i1]) (r := []) aMi291 rfl rfl rfl aMi289 (Nat.le_of_ble_eq_true rfl) rfl (Nat.le_of_ble_eq_true rfl) (Nat.le_of_ble_eq_true rfl) (by omega) (isK_of (sh11_z ha0)) (Tf289 (by omega) a0 ha0 i1 I _ hxr2_1) ?_
  show aGo kad d 291 (5, ([(0, .ref a0), (1, .int i1), (2, .int i2)], [.int r2_1.1])) (aMem Z r2_1.2, t) _
  refine go_ops aMi291 2 _ (f1 := (7, ([(3, .int r2_1.1), (0, .ref a0), (1, .int i1), (2, .int i2)], [.ref a0]))) rfl ?_
  refine gg_gR (b := (a0 + 24)) aMi291 rfl rfl rfl (gR_of (sh11_z ha0) (sh11_r50 ha0)) ?_
  refine go_ops aMi291 1 _ (f1 := (11, ([(3, .int r2_1.1), (0, .ref a0), (1, .int i1), (2, .int i2)], [.int i1, .ref (a0 + 24)]))) rfl ?_
  obtain ⟨r11_2, hxr11_2, h⟩ := Option.bind_eq_some_iff.mp h
  refine gg_cs (as := [.ref (a0 + 24), .int i1]) (r := []) aMi291 rfl rfl rfl aMi236 rfl (Nat.le_of_ble_eq_true rfl) (Nat.le_of_ble_eq_true rfl) (by omega) (Tf236 (by omega) (a0 + 24) i1 r2_1.2 _ hxr11_2) ?_
  show aGo kad d 291 (14, ([(3, .int r2_1.1), (0, .ref a0), (1, .int i1), (2, .int i2)], [.int r11_2.1])) (aMem Z r11_2.2, t) _
  refine go_ops aMi291 3 _ (f1 := (18, ([(4, .int r11_2.1), (3, .int r2_1.1), (0, .ref a0), (1, .int i1), (2, .int i2)], [.int r2_1.1, .ref a0]))) rfl ?_
  refine gg_br (b := decide (r2_1.1 = 0)) (tg := 25) (off := 7) aMi291 rfl rfl rfl rfl (fun hb => ?_) (fun hb => ?_)
  · rw [if_pos (of_decide_eq_true hb)] at h
    refine go_ops aMi291 3 _ (f1 := (28, ([(4, .int r11_2.1), (3, .int r2_1.1), (0, .ref a0), (1, .int i1), (2, .int i2)], [.ref a0, .int (0 : Int32), .int i2, .ref a0]))) rfl ?_
    refine gg_gR (b := (a0 + 24)) aMi291 rfl rfl rfl (gR_of (sh11_z ha0) (sh11_r50 ha0)) ?_
    refine go_ops aMi291 1 _ (f1 := (33, ([(4, .int r11_2.1), (3, .int r2_1.1), (0, .ref a0), (1, .int i1), (2, .int i2)], [.int r11_2.1, .ref (a0 + 24), .int (0 : Int32), .int i2, .ref a0]))) rfl ?_
    obtain ⟨r33_3, hxr33_3, h⟩ := Option.bind_eq_some_iff.mp h
    refine gg_cs (as := [.int r11_2.1]) (r := [.ref (a0 + 24), .int (0 : Int32), .int i2, .ref a0]) aMi291 rfl rfl rfl aMi235 rfl (Nat.le_of_ble_eq_true rfl) (Nat.le_of_ble_eq_true rfl) (by omega) (Tf235 (by omega) r11_2.1 r11_2.2 _ hxr33_3) ?_
    show aGo kad d 291 (36, ([(4, .int r11_2.1), (3, .int r2_1.1), (0, .ref a0), (1, .int i1), (2, .int i2)], [.int r33_3.1, .ref (a0 + 24), .int (0 : Int32), .int i2, .ref a0])) (aMem Z r33_3.2, t) _
    refine go_ops aMi291 2 _ (f1 := (38, ([(4, .int r11_2.1), (3, .int r2_1.1), (0, .ref a0), (1, .int i1), (2, .int i2)], [.int (r33_3.1 + (1 : Int32)), .ref (a0 + 24), .int (0 : Int32), .int i2, .ref a0]))) rfl ?_
    obtain ⟨j38_4, hxj38_4, h⟩ := Option.bind_eq_some_iff.mp h
    refine gg_lI (Or.inl ⟨rfl, rfl⟩) aMi291 rfl (lI_of (sh11_a50 ha0) hxj38_4) ?_
    refine go_ops aMi291 2 _ (f1 := (41, ([(4, .int r11_2.1), (3, .int r2_1.1), (0, .ref a0), (1, .int i1), (2, .int i2)], [.int ((r33_3.2 (a0 + 24) j38_4) - (1 : Int32)), .int (0 : Int32), .int i2, .ref a0]))) rfl ?_
    obtain ⟨r41_5, hxr41_5, h⟩ := Option.bind_eq_some_iff.mp h
    refine gg_cs (as := [.int i2, .int (0 : Int32), .int ((r33_3.2 (a0 + 24) j38_4) - (1 : Int32))]) (r := [.ref a0]) aMi291 rfl rfl rfl aMi186 rfl (Nat.le_of_ble_eq_true rfl) (Nat.le_of_ble_eq_true rfl) (by omega) (Tf186 (by omega) i2 (0 : Int32) ((r33_3.2 (a0 + 24) j38_4) - (1 : Int32)) r33_3.2 _ hxr41_5) ?_
    show aGo kad d 291 (44, ([(4, .int r11_2.1), (3, .int r2_1.1), (0, .ref a0), (1, .int i1), (2, .int i2)], [.int r41_5.1, .ref a0])) (aMem Z r41_5.2, t) _
    refine gg_br (b := decide (r41_5.1 = 0)) (tg := 51) (off := 7) aMi291 rfl rfl rfl rfl (fun hb => ?_) (fun hb => ?_)
    · rw [if_pos (of_decide_eq_true hb)] at h
      refine go_ops aMi291 1 _ (f1 := (52, ([(4, .int r11_2.1), (3, .int r2_1.1), (0, .ref a0), (1, .int i1), (2, .int i2)], [.int (3 : Int32), .ref a0]))) rfl ?_
      refine go_le (lv1 := [(0, .ref a0), (2, .int i2), (4, .int r11_2.1)]) (aLe_of (show (List.map (fun q => q.1) ([(0, .ref a0), (2, .int i2), (4, .int r11_2.1)] : ALv)).Nodup from (by show ([0, 2, 4] : List Nat).Nodup; decide)) (aSubL_cons rfl (aSubL_cons rfl (aSubL_cons rfl aSubL_nil)))) ?_
      exact Tf291_b52 hd a0 ha0 i2 r11_2.1 (3 : Int32) r41_5.2 _ h
    · rw [if_neg (of_decide_eq_false hb)] at h
      refine go_ops aMi291 2 _ (f1 := (52, ([(4, .int r11_2.1), (3, .int r2_1.1), (0, .ref a0), (1, .int i1), (2, .int i2)], [.int (0 : Int32), .ref a0]))) rfl ?_
      refine go_le (lv1 := [(0, .ref a0), (2, .int i2), (4, .int r11_2.1)]) (aLe_of (show (List.map (fun q => q.1) ([(0, .ref a0), (2, .int i2), (4, .int r11_2.1)] : ALv)).Nodup from (by show ([0, 2, 4] : List Nat).Nodup; decide)) (aSubL_cons rfl (aSubL_cons rfl (aSubL_cons rfl aSubL_nil)))) ?_
      exact Tf291_b52 hd a0 ha0 i2 r11_2.1 (0 : Int32) r41_5.2 _ h
  · rw [if_neg (of_decide_eq_false hb)] at h
    refine go_ops aMi291 2 _ (f1 := (52, ([(4, .int r11_2.1), (3, .int r2_1.1), (0, .ref a0), (1, .int i1), (2, .int i2)], [.int r2_1.1, .ref a0]))) rfl ?_
    refine go_le (lv1 := [(0, .ref a0), (2, .int i2), (4, .int r11_2.1)]) (aLe_of (show (List.map (fun q => q.1) ([(0, .ref a0), (2, .int i2), (4, .int r11_2.1)] : ALv)).Nodup from (by show ([0, 2, 4] : List Nat).Nodup; decide)) (aSubL_cons rfl (aSubL_cons rfl (aSubL_cons rfl aSubL_nil)))) ?_
    exact Tf291_b52 hd a0 ha0 i2 r11_2.1 r2_1.1 r11_2.2 _ h
-- KernelGymModel.freeBlocks ()I
def f292_b33 (kad : Nat → Nat) (N : Nat) (Z : AZ) (k10 : Nat → Int32 → Int32 → AI → Option (Int32 × AI)) (a0 : Nat) (i2 : Int32) (s0 : Int32) (s1 : Int32) (I : AI) : Option (Int32 × AI) :=
  k10 a0 (s1 + s0) (i2 + (1 : Int32)) I
set_option maxRecDepth 20000 in
theorem Tf292_b33 {kad : Nat → Nat} {N : Nat} {Z : AZ} {d : Nat} {t : Option Nat × (Nat × Nat)} (hd : 1 ≤ d) (k10 : Nat → Int32 → Int32 → AI → Option (Int32 × AI))  (hk10 : ∀ (a0 : Nat) (ha0 : sh11 kad Z a0) (i1 : Int32) (i2 : Int32) (I : AI) (r : Int32 × AI), k10 a0 i1 i2 I = some r → aGo kad d 292 (10, ([(0, .ref a0), (1, .int i1), (2, .int i2)], [])) (aMem Z I, t) (qI Z t r)) : ∀ (a0 : Nat) (ha0 : sh11 kad Z a0) (i2 : Int32) (s0 : Int32) (s1 : Int32) (I : AI) (r : Int32 × AI), f292_b33 kad N Z k10 a0 i2 s0 s1 I = some r → aGo kad d 292 (33, ([(0, .ref a0), (2, .int i2)], [.int s0, .int s1])) (aMem Z I, t) (qI Z t r) := by
  intro a0 ha0 i2 s0 s1 I r h
  unfold f292_b33 at h
  refine go_ops aMi292 4 _ (f1 := (10, ([(2, .int (i2 + (1 : Int32))), (1, .int (s1 + s0)), (0, .ref a0)], []))) rfl ?_
  refine go_le (lv1 := [(0, .ref a0), (1, .int (s1 + s0)), (2, .int (i2 + (1 : Int32)))]) (aLe_of (show (List.map (fun q => q.1) ([(0, .ref a0), (1, .int (s1 + s0)), (2, .int (i2 + (1 : Int32)))] : ALv)).Nodup from (by show ([0, 1, 2] : List Nat).Nodup; decide)) (aSubL_cons rfl (aSubL_cons rfl (aSubL_cons rfl aSubL_nil)))) ?_
  exact hk10 a0 ha0 (s1 + s0) (i2 + (1 : Int32)) I _ h
def f292_b10 (kad : Nat → Nat) (N : Nat) (Z : AZ) : Nat → Nat → Int32 → Int32 → AI → Option (Int32 × AI)
  | 0, _, _, _, _ => none
  | F + 1, a0, i1, i2, I =>
    if (32 : Int32) ≤ i2 then
      some (i1, I)
    else
      (f237 kad N Z (a0 + 24) i2 I).bind fun r22_1 =>
      if r22_1.1 = 0 then
        f292_b33 kad N Z (fun p0 p1 p2 I => f292_b10 kad N Z F p0 p1 p2 I) a0 i2 (1 : Int32) i1 r22_1.2
      else
        f292_b33 kad N Z (fun p0 p1 p2 I => f292_b10 kad N Z F p0 p1 p2 I) a0 i2 (0 : Int32) i1 r22_1.2
set_option maxRecDepth 20000 in
theorem Tf292_b10 {kad : Nat → Nat} {N : Nat} {Z : AZ} {d : Nat} {t : Option Nat × (Nat × Nat)} (hd : 1 ≤ d) : ∀ (F : Nat) (a0 : Nat) (ha0 : sh11 kad Z a0) (i1 : Int32) (i2 : Int32) (I : AI) (r : Int32 × AI), f292_b10 kad N Z F a0 i1 i2 I = some r → aGo kad d 292 (10, ([(0, .ref a0), (1, .int i1), (2, .int i2)], [])) (aMem Z I, t) (qI Z t r) := by
  intro F
  induction F with
  | zero => intro a0 ha0 i1 i2 I r h; cases h
  | succ F ih =>
    intro a0 ha0 i1 i2 I r h
    unfold f292_b10 at h
    refine go_ops aMi292 2 _ (f1 := (13, ([(0, .ref a0), (1, .int i1), (2, .int i2)], [.int (32 : Int32), .int i2]))) rfl ?_
    refine gg_br (b := decide ((32 : Int32) ≤ i2)) (tg := 41) (off := 28) aMi292 rfl rfl rfl rfl (fun hb => ?_) (fun hb => ?_)
    · rw [if_pos (of_decide_eq_true hb)] at h
      refine go_ops aMi292 1 _ (f1 := (42, ([(0, .ref a0), (1, .int i1), (2, .int i2)], [.int i1]))) rfl ?_
      cases h
      exact go_ret aMi292 rfl aRetI ⟨rfl, rfl⟩
    · rw [if_neg (of_decide_eq_false hb)] at h
      refine go_ops aMi292 2 _ (f1 := (18, ([(0, .ref a0), (1, .int i1), (2, .int i2)], [.ref a0, .int i1]))) rfl ?_
      refine gg_gR (b := (a0 + 24)) aMi292 rfl rfl rfl (gR_of (sh11_z ha0) (sh11_r50 ha0)) ?_
      refine go_ops aMi292 1 _ (f1 := (22, ([(0, .ref a0), (1, .int i1), (2, .int i2)], [.int i2, .ref (a0 + 24), .int i1]))) rfl ?_
      obtain ⟨r22_1, hxr22_1, h⟩ := Option.bind_eq_some_iff.mp h
      refine gg_cs (as := [.ref (a0 + 24), .int i2]) (r := [.int i1]) aMi292 rfl rfl rfl aMi237 rfl (Nat.le_of_ble_eq_true rfl) (Nat.le_of_ble_eq_true rfl) (by omega) (Tf237 (by omega) (a0 + 24) i2 I _ hxr22_1) ?_
      show aGo kad d 292 (25, ([(0, .ref a0), (1, .int i1), (2, .int i2)], [.int r22_1.1, .int i1])) (aMem Z r22_1.2, t) _
      refine gg_br (b := decide (r22_1.1 = 0)) (tg := 32) (off := 7) aMi292 rfl rfl rfl rfl (fun hb => ?_) (fun hb => ?_)
      · rw [if_pos (of_decide_eq_true hb)] at h
        refine go_ops aMi292 1 _ (f1 := (33, ([(0, .ref a0), (1, .int i1), (2, .int i2)], [.int (1 : Int32), .int i1]))) rfl ?_
        refine go_le (lv1 := [(0, .ref a0), (2, .int i2)]) (aLe_of (show (List.map (fun q => q.1) ([(0, .ref a0), (2, .int i2)] : ALv)).Nodup from (by show ([0, 2] : List Nat).Nodup; decide)) (aSubL_cons rfl (aSubL_cons rfl aSubL_nil))) ?_
        exact Tf292_b33 hd (fun p0 p1 p2 I => f292_b10 kad N Z F p0 p1 p2 I) (fun p0 q0 p1 p2 I r hh => ih p0 q0 p1 p2 I r hh) a0 ha0 i2 (1 : Int32) i1 r22_1.2 _ h
      · rw [if_neg (of_decide_eq_false hb)] at h
        refine go_ops aMi292 2 _ (f1 := (33, ([(0, .ref a0), (1, .int i1), (2, .int i2)], [.int (0 : Int32), .int i1]))) rfl ?_
        refine go_le (lv1 := [(0, .ref a0), (2, .int i2)]) (aLe_of (show (List.map (fun q => q.1) ([(0, .ref a0), (2, .int i2)] : ALv)).Nodup from (by show ([0, 2] : List Nat).Nodup; decide)) (aSubL_cons rfl (aSubL_cons rfl aSubL_nil))) ?_
        exact Tf292_b33 hd (fun p0 p1 p2 I => f292_b10 kad N Z F p0 p1 p2 I) (fun p0 q0 p1 p2 I r hh => ih p0 q0 p1 p2 I r hh) a0 ha0 i2 (0 : Int32) i1 r22_1.2 _ h
def f292 (kad : Nat → Nat) (N : Nat) (Z : AZ) (a0 : Nat) (I : AI) : Option (Int32 × AI) :=
  (wI I a0 0 (0 : Int32)).bind fun I2_1 =>
  f292_b10 kad N Z N a0 (0 : Int32) (8 : Int32) I2_1
set_option maxRecDepth 20000 in
theorem Tf292 {kad : Nat → Nat} {N : Nat} {Z : AZ} {d : Nat} {t : Option Nat × (Nat × Nat)} (hd : 1 ≤ d) : ∀ (a0 : Nat) (ha0 : sh11 kad Z a0) (I : AI) (r : Int32 × AI), f292 kad N Z a0 I = some r → aGo kad d 292 (0, ([(0, .ref a0)], [])) (aMem Z I, t) (qI Z t r) := by
  intro a0 ha0 I r h
  unfold f292 at h
  refine go_ops aMi292 2 _ (f1 := (2, ([(0, .ref a0)], [.int (0 : Int32), .ref a0]))) rfl ?_
  obtain ⟨I2_1, hxI2_1, h⟩ := Option.bind_eq_some_iff.mp h
  refine gg_pI aMi292 rfl rfl rfl rfl (by decide) (pI_of (sh11_z ha0) hxI2_1) ?_
  refine go_ops aMi292 4 _ (f1 := (10, ([(2, .int (8 : Int32)), (1, .int (0 : Int32)), (0, .ref a0)], []))) rfl ?_
  refine go_le (lv1 := [(0, .ref a0), (1, .int (0 : Int32)), (2, .int (8 : Int32))]) (aLe_of (show (List.map (fun q => q.1) ([(0, .ref a0), (1, .int (0 : Int32)), (2, .int (8 : Int32))] : ALv)).Nodup from (by show ([0, 1, 2] : List Nat).Nodup; decide)) (aSubL_cons rfl (aSubL_cons rfl (aSubL_cons rfl aSubL_nil)))) ?_
  exact Tf292_b10 hd N a0 ha0 (0 : Int32) (8 : Int32) I2_1 _ h
-- KernelGymModel.isEntrySo (I)Z
def f293_b67 (kad : Nat → Nat) (N : Nat) (Z : AZ) (a0 : Nat) (s0 : Int32) (I : AI) : Option (Int32 × AI) :=
  if s0 = 0 ∨ s0 = 1 then some (s0, I) else none
set_option maxRecDepth 20000 in
theorem Tf293_b67 {kad : Nat → Nat} {N : Nat} {Z : AZ} {d : Nat} {t : Option Nat × (Nat × Nat)} (hd : 2 ≤ d) : ∀ (a0 : Nat) (ha0 : sh11 kad Z a0) (s0 : Int32) (I : AI) (r : Int32 × AI), f293_b67 kad N Z a0 s0 I = some r → aGo kad d 293 (67, ([], [.int s0])) (aMem Z I, t) (qI Z t r) := by
  intro a0 ha0 s0 I r h
  unfold f293_b67 at h
  split at h
  · rename_i hz
    cases h
    exact go_ret aMi293 rfl (aRetZ hz) ⟨rfl, rfl⟩
  · cases h
def f293_b66 (kad : Nat → Nat) (N : Nat) (Z : AZ) (a0 : Nat) (I : AI) : Option (Int32 × AI) :=
  f293_b67 kad N Z a0 (0 : Int32) I
set_option maxRecDepth 20000 in
theorem Tf293_b66 {kad : Nat → Nat} {N : Nat} {Z : AZ} {d : Nat} {t : Option Nat × (Nat × Nat)} (hd : 2 ≤ d) : ∀ (a0 : Nat) (ha0 : sh11 kad Z a0) (I : AI) (r : Int32 × AI), f293_b66 kad N Z a0 I = some r → aGo kad d 293 (66, ([], [])) (aMem Z I, t) (qI Z t r) := by
  intro a0 ha0 I r h
  unfold f293_b66 at h
  refine go_ops aMi293 1 _ (f1 := (67, ([], [.int (0 : Int32)]))) rfl ?_
  exact Tf293_b67 hd a0 ha0 (0 : Int32) I _ h
def f293_b188 (kad : Nat → Nat) (N : Nat) (Z : AZ) (a0 : Nat) (s0 : Int32) (I : AI) : Option (Int32 × AI) :=
  if s0 = 0 ∨ s0 = 1 then some (s0, I) else none
set_option maxRecDepth 20000 in
theorem Tf293_b188 {kad : Nat → Nat} {N : Nat} {Z : AZ} {d : Nat} {t : Option Nat × (Nat × Nat)} (hd : 2 ≤ d) : ∀ (a0 : Nat) (ha0 : sh11 kad Z a0) (s0 : Int32) (I : AI) (r : Int32 × AI), f293_b188 kad N Z a0 s0 I = some r → aGo kad d 293 (188, ([], [.int s0])) (aMem Z I, t) (qI Z t r) := by
  intro a0 ha0 s0 I r h
  unfold f293_b188 at h
  split at h
  · rename_i hz
    cases h
    exact go_ret aMi293 rfl (aRetZ hz) ⟨rfl, rfl⟩
  · cases h
def f293_b187 (kad : Nat → Nat) (N : Nat) (Z : AZ) (a0 : Nat) (I : AI) : Option (Int32 × AI) :=
  f293_b188 kad N Z a0 (0 : Int32) I
set_option maxRecDepth 20000 in
theorem Tf293_b187 {kad : Nat → Nat} {N : Nat} {Z : AZ} {d : Nat} {t : Option Nat × (Nat × Nat)} (hd : 2 ≤ d) : ∀ (a0 : Nat) (ha0 : sh11 kad Z a0) (I : AI) (r : Int32 × AI), f293_b187 kad N Z a0 I = some r → aGo kad d 293 (187, ([], [])) (aMem Z I, t) (qI Z t r) := by
  intro a0 ha0 I r h
  unfold f293_b187 at h
  refine go_ops aMi293 1 _ (f1 := (188, ([], [.int (0 : Int32)]))) rfl ?_
  exact Tf293_b188 hd a0 ha0 (0 : Int32) I _ h
def f293_b163 (kad : Nat → Nat) (N : Nat) (Z : AZ) (a0 : Nat) (i1 : Int32) (I : AI) : Option (Int32 × AI) :=
  (f235 kad N Z i1 I).bind fun r172_1 =>
  (ixA 256 r172_1.1).bind fun j175_2 =>
  (f236 kad N Z (a0 + 24) (r172_1.2 (a0 + 24) j175_2) r172_1.2).bind fun r176_3 =>
  if ¬ r176_3.1 = i1 then
    f293_b187 kad N Z a0 r176_3.2
  else
    f293_b188 kad N Z a0 (1 : Int32) r176_3.2
set_option maxRecDepth 20000 in
theorem Tf293_b163 {kad : Nat → Nat} {N : Nat} {Z : AZ} {d : Nat} {t : Option Nat × (Nat × Nat)} (hd : 2 ≤ d) : ∀ (a0 : Nat) (ha0 : sh11 kad Z a0) (i1 : Int32) (I : AI) (r : Int32 × AI), f293_b163 kad N Z a0 i1 I = some r → aGo kad d 293 (163, ([(0, .ref a0), (1, .int i1)], [])) (aMem Z I, t) (qI Z t r) := by
  intro a0 ha0 i1 I r h
  unfold f293_b163 at h
  refine go_ops aMi293 1 _ (f1 := (164, ([(0, .ref a0), (1, .int i1)], [.ref a0]))) rfl ?_
  refine gg_gR (b := (a0 + 24)) aMi293 rfl rfl rfl (gR_of (sh11_z ha0) (sh11_r50 ha0)) ?_
  refine go_ops aMi293 1 _ (f1 := (168, ([(0, .ref a0), (1, .int i1)], [.ref a0, .ref (a0 + 24)]))) rfl ?_
  refine gg_gR (b := (a0 + 24)) aMi293 rfl rfl rfl (gR_of (sh11_z ha0) (sh11_r50 ha0)) ?_
  refine go_ops aMi293 1 _ (f1 := (172, ([(0, .ref a0), (1, .int i1)], [.int i1, .ref (a0 + 24), .ref (a0 + 24)]))) rfl ?_
  obtain ⟨r172_1, hxr172_1, h⟩ := Option.bind_eq_some_iff.mp h
  refine gg_cs (as := [.int i1]) (r := [.ref (a0 + 24), .ref (a0 + 24)]) aMi293 rfl rfl rfl aMi235 rfl (Nat.le_of_ble_eq_true rfl) (Nat.le_of_ble_eq_true rfl) (by omega) (Tf235 (by omega) i1 I _ hxr172_1) ?_
  show aGo kad d 293 (175, ([(0, .ref a0), (1, .int i1)], [.int r172_1.1, .ref (a0 + 24), .ref (a0 + 24)])) (aMem Z r172_1.2, t) _
  obtain ⟨j175_2, hxj175_2, h⟩ := Option.bind_eq_some_iff.mp h
  refine gg_lI (Or.inl ⟨rfl, rfl⟩) aMi293 rfl (lI_of (sh11_a50 ha0) hxj175_2) ?_
  obtain ⟨r176_3, hxr176_3, h⟩ := Option.bind_eq_some_iff.mp h
  refine gg_cs (as := [.ref (a0 + 24), .int (r172_1.2 (a0 + 24) j175_2)]) (r := []) aMi293 rfl rfl rfl aMi236 rfl (Nat.le_of_ble_eq_true rfl) (Nat.le_of_ble_eq_true rfl) (by omega) (Tf236 (by omega) (a0 + 24) (r172_1.2 (a0 + 24) j175_2) r172_1.2 _ hxr176_3) ?_
  show aGo kad d 293 (179, ([(0, .ref a0), (1, .int i1)], [.int r176_3.1])) (aMem Z r176_3.2, t) _
  refine go_ops aMi293 1 _ (f1 := (180, ([(0, .ref a0), (1, .int i1)], [.int i1, .int r176_3.1]))) rfl ?_
  refine gg_br (b := decide (¬ r176_3.1 = i1)) (tg := 187) (off := 7) aMi293 rfl rfl rfl rfl (fun hb => ?_) (fun hb => ?_)
  · rw [if_pos (of_decide_eq_true hb)] at h
    refine go_le (lv1 := []) (aLe_of (show (List.map (fun q => q.1) ([] : ALv)).Nodup from (by show ([] : List Nat).Nodup; decide)) aSubL_nil) ?_
    exact Tf293_b187 hd a0 ha0 r176_3.2 _ h
  · rw [if_neg (of_decide_eq_false hb)] at h
    refine go_ops aMi293 2 _ (f1 := (188, ([(0, .ref a0), (1, .int i1)], [.int (1 : Int32)]))) rfl ?_
    refine go_le (lv1 := []) (aLe_of (show (List.map (fun q => q.1) ([] : ALv)).Nodup from (by show ([] : List Nat).Nodup; decide)) aSubL_nil) ?_
    exact Tf293_b188 hd a0 ha0 (1 : Int32) r176_3.2 _ h
def f293_b146 (kad : Nat → Nat) (N : Nat) (Z : AZ) (a0 : Nat) (i1 : Int32) (i4 : Int32) (I : AI) : Option (Int32 × AI) :=
  if i4 = 0 then
    f293_b163 kad N Z a0 i1 I
  else
    (f186 kad N Z i4 (8 : Int32) (31 : Int32) I).bind fun r157_1 =>
    if r157_1.1 = 0 then
      f293_b187 kad N Z a0 r157_1.2
    else
      f293_b163 kad N Z a0 i1 r157_1.2
set_option maxRecDepth 20000 in
theorem Tf293_b146 {kad : Nat → Nat} {N : Nat} {Z : AZ} {d : Nat} {t : Option Nat × (Nat × Nat)} (hd : 2 ≤ d) : ∀ (a0 : Nat) (ha0 : sh11 kad Z a0) (i1 : Int32) (i4 : Int32) (I : AI) (r : Int32 × AI), f293_b146 kad N Z a0 i1 i4 I = some r → aGo kad d 293 (146, ([(0, .ref a0), (1, .int i1), (4, .int i4)], [])) (aMem Z I, t) (qI Z t r) := by
  intro a0 ha0 i1 i4 I r h
  unfold f293_b146 at h
  refine go_ops aMi293 1 _ (f1 := (148, ([(0, .ref a0), (1, .int i1), (4, .int i4)], [.int i4]))) rfl ?_
  refine gg_br (b := decide (i4 = 0)) (tg := 163) (off := 15) aMi293 rfl rfl rfl rfl (fun hb => ?_) (fun hb => ?_)
  · rw [if_pos (of_decide_eq_true hb)] at h
    refine go_le (lv1 := [(0, .ref a0), (1, .int i1)]) (aLe_of (show (List.map (fun q => q.1) ([(0, .ref a0), (1, .int i1)] : ALv)).Nodup from (by show ([0, 1] : List Nat).Nodup; decide)) (aSubL_cons rfl (aSubL_cons rfl aSubL_nil))) ?_
    exact Tf293_b163 hd a0 ha0 i1 I _ h
  · rw [if_neg (of_decide_eq_false hb)] at h
    refine go_ops aMi293 3 _ (f1 := (157, ([(0, .ref a0), (1, .int i1), (4, .int i4)], [.int (31 : Int32), .int (8 : Int32), .int i4]))) rfl ?_
    obtain ⟨r157_1, hxr157_1, h⟩ := Option.bind_eq_some_iff.mp h
    refine gg_cs (as := [.int i4, .int (8 : Int32), .int (31 : Int32)]) (r := []) aMi293 rfl rfl rfl aMi186 rfl (Nat.le_of_ble_eq_true rfl) (Nat.le_of_ble_eq_true rfl) (by omega) (Tf186 (by omega) i4 (8 : Int32) (31 : Int32) I _ hxr157_1) ?_
    show aGo kad d 293 (160, ([(0, .ref a0), (1, .int i1), (4, .int i4)], [.int r157_1.1])) (aMem Z r157_1.2, t) _
    refine gg_br (b := decide (r157_1.1 = 0)) (tg := 187) (off := 27) aMi293 rfl rfl rfl rfl (fun hb => ?_) (fun hb => ?_)
    · rw [if_pos (of_decide_eq_true hb)] at h
      refine go_le (lv1 := []) (aLe_of (show (List.map (fun q => q.1) ([] : ALv)).Nodup from (by show ([] : List Nat).Nodup; decide)) aSubL_nil) ?_
      exact Tf293_b187 hd a0 ha0 r157_1.2 _ h
    · rw [if_neg (of_decide_eq_false hb)] at h
      refine go_le (lv1 := [(0, .ref a0), (1, .int i1)]) (aLe_of (show (List.map (fun q => q.1) ([(0, .ref a0), (1, .int i1)] : ALv)).Nodup from (by show ([0, 1] : List Nat).Nodup; decide)) (aSubL_cons rfl (aSubL_cons rfl aSubL_nil))) ?_
      exact Tf293_b163 hd a0 ha0 i1 r157_1.2 _ h
def f293_b124 (kad : Nat → Nat) (N : Nat) (Z : AZ) (a0 : Nat) (i1 : Int32) (i3 : Int32) (i4 : Int32) (s0 : Int32) (I : AI) : Option (Int32 × AI) :=
  if s0 = 0 then
    f293_b187 kad N Z a0 I
  else
    if i3 = 0 then
      f293_b146 kad N Z a0 i1 i4 I
    else
      (f186 kad N Z i3 (8 : Int32) (31 : Int32) I).bind fun r140_1 =>
      if r140_1.1 = 0 then
        f293_b187 kad N Z a0 r140_1.2
      else
        f293_b146 kad N Z a0 i1 i4 r140_1.2
set_option maxRecDepth 20000 in
theorem Tf293_b124 {kad : Nat → Nat} {N : Nat} {Z : AZ} {d : Nat} {t : Option Nat × (Nat × Nat)} (hd : 2 ≤ d) : ∀ (a0 : Nat) (ha0 : sh11 kad Z a0) (i1 : Int32) (i3 : Int32) (i4 : Int32) (s0 : Int32) (I : AI) (r : Int32 × AI), f293_b124 kad N Z a0 i1 i3 i4 s0 I = some r → aGo kad d 293 (124, ([(0, .ref a0), (1, .int i1), (3, .int i3), (4, .int i4)], [.int s0])) (aMem Z I, t) (qI Z t r) := by
  intro a0 ha0 i1 i3 i4 s0 I r h
  unfold f293_b124 at h
  refine go_ops aMi293 2 _ (f1 := (128, ([(5, .int s0), (0, .ref a0), (1, .int i1), (3, .int i3), (4, .int i4)], [.int s0]))) rfl ?_
  refine gg_br (b := decide (s0 = 0)) (tg := 187) (off := 59) aMi293 rfl rfl rfl rfl (fun hb => ?_) (fun hb => ?_)
  · rw [if_pos (of_decide_eq_true hb)] at h
    refine go_le (lv1 := []) (aLe_of (show (List.map (fun q => q.1) ([] : ALv)).Nodup from (by show ([] : List Nat).Nodup; decide)) aSubL_nil) ?_
    exact Tf293_b187 hd a0 ha0 I _ h
  · rw [if_neg (of_decide_eq_false hb)] at h
    refine go_ops aMi293 1 _ (f1 := (132, ([(5, .int s0), (0, .ref a0), (1, .int i1), (3, .int i3), (4, .int i4)], [.int i3]))) rfl ?_
    refine gg_br (b := decide (i3 = 0)) (tg := 146) (off := 14) aMi293 rfl rfl rfl rfl (fun hb => ?_) (fun hb => ?_)
    · rw [if_pos (of_decide_eq_true hb)] at h
      refine go_le (lv1 := [(0, .ref a0), (1, .int i1), (4, .int i4)]) (aLe_of (show (List.map (fun q => q.1) ([(0, .ref a0), (1, .int i1), (4, .int i4)] : ALv)).Nodup from (by show ([0, 1, 4] : List Nat).Nodup; decide)) (aSubL_cons rfl (aSubL_cons rfl (aSubL_cons rfl aSubL_nil)))) ?_
      exact Tf293_b146 hd a0 ha0 i1 i4 I _ h
    · rw [if_neg (of_decide_eq_false hb)] at h
      refine go_ops aMi293 3 _ (f1 := (140, ([(5, .int s0), (0, .ref a0), (1, .int i1), (3, .int i3), (4, .int i4)], [.int (31 : Int32), .int (8 : Int32), .int i3]))) rfl ?_
      obtain ⟨r140_1, hxr140_1, h⟩ := Option.bind_eq_some_iff.mp h
      refine gg_cs (as := [.int i3, .int (8 : Int32), .int (31 : Int32)]) (r := []) aMi293 rfl rfl rfl aMi186 rfl (Nat.le_of_ble_eq_true rfl) (Nat.le_of_ble_eq_true rfl) (by omega) (Tf186 (by omega) i3 (8 : Int32) (31 : Int32) I _ hxr140_1) ?_
      show aGo kad d 293 (143, ([(5, .int s0), (0, .ref a0), (1, .int i1), (3, .int i3), (4, .int i4)], [.int r140_1.1])) (aMem Z r140_1.2, t) _
      refine gg_br (b := decide (r140_1.1 = 0)) (tg := 187) (off := 44) aMi293 rfl rfl rfl rfl (fun hb => ?_) (fun hb => ?_)
      · rw [if_pos (of_decide_eq_true hb)] at h
        refine go_le (lv1 := []) (aLe_of (show (List.map (fun q => q.1) ([] : ALv)).Nodup from (by show ([] : List Nat).Nodup; decide)) aSubL_nil) ?_
        exact Tf293_b187 hd a0 ha0 r140_1.2 _ h
      · rw [if_neg (of_decide_eq_false hb)] at h
        refine go_le (lv1 := [(0, .ref a0), (1, .int i1), (4, .int i4)]) (aLe_of (show (List.map (fun q => q.1) ([(0, .ref a0), (1, .int i1), (4, .int i4)] : ALv)).Nodup from (by show ([0, 1, 4] : List Nat).Nodup; decide)) (aSubL_cons rfl (aSubL_cons rfl (aSubL_cons rfl aSubL_nil)))) ?_
        exact Tf293_b146 hd a0 ha0 i1 i4 r140_1.2 _ h
def f293_b123 (kad : Nat → Nat) (N : Nat) (Z : AZ) (a0 : Nat) (i1 : Int32) (i3 : Int32) (i4 : Int32) (I : AI) : Option (Int32 × AI) :=
  f293_b124 kad N Z a0 i1 i3 i4 (0 : Int32) I
set_option maxRecDepth 20000 in
theorem Tf293_b123 {kad : Nat → Nat} {N : Nat} {Z : AZ} {d : Nat} {t : Option Nat × (Nat × Nat)} (hd : 2 ≤ d) : ∀ (a0 : Nat) (ha0 : sh11 kad Z a0) (i1 : Int32) (i3 : Int32) (i4 : Int32) (I : AI) (r : Int32 × AI), f293_b123 kad N Z a0 i1 i3 i4 I = some r → aGo kad d 293 (123, ([(0, .ref a0), (1, .int i1), (3, .int i3), (4, .int i4)], [])) (aMem Z I, t) (qI Z t r) := by
  intro a0 ha0 i1 i3 i4 I r h
  unfold f293_b123 at h
  refine go_ops aMi293 1 _ (f1 := (124, ([(0, .ref a0), (1, .int i1), (3, .int i3), (4, .int i4)], [.int (0 : Int32)]))) rfl ?_
  exact Tf293_b124 hd a0 ha0 i1 i3 i4 (0 : Int32) I _ h
def f293_b116 (kad : Nat → Nat) (N : Nat) (Z : AZ) (a0 : Nat) (i1 : Int32) (i3 : Int32) (i4 : Int32) (s0 : Int32) (s1 : Int32) (I : AI) : Option (Int32 × AI) :=
  if ¬ s1 = s0 then
    f293_b123 kad N Z a0 i1 i3 i4 I
  else
    f293_b124 kad N Z a0 i1 i3 i4 (1 : Int32) I
set_option maxRecDepth 20000 in
theorem Tf293_b116 {kad : Nat → Nat} {N : Nat} {Z : AZ} {d : Nat} {t : Option Nat × (Nat × Nat)} (hd : 2 ≤ d) : ∀ (a0 : Nat) (ha0 : sh11 kad Z a0) (i1 : Int32) (i3 : Int32) (i4 : Int32) (s0 : Int32) (s1 : Int32) (I : AI) (r : Int32 × AI), f293_b116 kad N Z a0 i1 i3 i4 s0 s1 I = some r → aGo kad d 293 (116, ([(0, .ref a0), (1, .int i1), (3, .int i3), (4, .int i4)], [.int s0, .int s1])) (aMem Z I, t) (qI Z t r) := by
  intro a0 ha0 i1 i3 i4 s0 s1 I r h
  unfold f293_b116 at h
  refine gg_br (b := decide (¬ s1 = s0)) (tg := 123) (off := 7) aMi293 rfl rfl rfl rfl (fun hb => ?_) (fun hb => ?_)
  · rw [if_pos (of_decide_eq_true hb)] at h
    exact Tf293_b123 hd a0 ha0 i1 i3 i4 I _ h
  · rw [if_neg (of_decide_eq_false hb)] at h
    refine go_ops aMi293 2 _ (f1 := (124, ([(0, .ref a0), (1, .int i1), (3, .int i3), (4, .int i4)], [.int (1 : Int32)]))) rfl ?_
    exact Tf293_b124 hd a0 ha0 i1 i3 i4 (1 : Int32) I _ h
def f293_b105 (kad : Nat → Nat) (N : Nat) (Z : AZ) (a0 : Nat) (i1 : Int32) (i2 : Int32) (i3 : Int32) (i4 : Int32) (s0 : Int32) (I : AI) : Option (Int32 × AI) :=
  if i2 ≤ (8 : Int32) then
    f293_b116 kad N Z a0 i1 i3 i4 (0 : Int32) s0 I
  else
    f293_b116 kad N Z a0 i1 i3 i4 (1 : Int32) s0 I
set_option maxRecDepth 20000 in
theorem Tf293_b105 {kad : Nat → Nat} {N : Nat} {Z : AZ} {d : Nat} {t : Option Nat × (Nat × Nat)} (hd : 2 ≤ d) : ∀ (a0 : Nat) (ha0 : sh11 kad Z a0) (i1 : Int32) (i2 : Int32) (i3 : Int32) (i4 : Int32) (s0 : Int32) (I : AI) (r : Int32 × AI), f293_b105 kad N Z a0 i1 i2 i3 i4 s0 I = some r → aGo kad d 293 (105, ([(0, .ref a0), (1, .int i1), (2, .int i2), (3, .int i3), (4, .int i4)], [.int s0])) (aMem Z I, t) (qI Z t r) := by
  intro a0 ha0 i1 i2 i3 i4 s0 I r h
  unfold f293_b105 at h
  refine go_ops aMi293 2 _ (f1 := (108, ([(0, .ref a0), (1, .int i1), (2, .int i2), (3, .int i3), (4, .int i4)], [.int (8 : Int32), .int i2, .int s0]))) rfl ?_
  refine gg_br (b := decide (i2 ≤ (8 : Int32))) (tg := 115) (off := 7) aMi293 rfl rfl rfl rfl (fun hb => ?_) (fun hb => ?_)
  · rw [if_pos (of_decide_eq_true hb)] at h
    refine go_ops aMi293 1 _ (f1 := (116, ([(0, .ref a0), (1, .int i1), (2, .int i2), (3, .int i3), (4, .int i4)], [.int (0 : Int32), .int s0]))) rfl ?_
    refine go_le (lv1 := [(0, .ref a0), (1, .int i1), (3, .int i3), (4, .int i4)]) (aLe_of (show (List.map (fun q => q.1) ([(0, .ref a0), (1, .int i1), (3, .int i3), (4, .int i4)] : ALv)).Nodup from (by show ([0, 1, 3, 4] : List Nat).Nodup; decide)) (aSubL_cons rfl (aSubL_cons rfl (aSubL_cons rfl (aSubL_cons rfl aSubL_nil))))) ?_
    exact Tf293_b116 hd a0 ha0 i1 i3 i4 (0 : Int32) s0 I _ h
  · rw [if_neg (of_decide_eq_false hb)] at h
    refine go_ops aMi293 2 _ (f1 := (116, ([(0, .ref a0), (1, .int i1), (2, .int i2), (3, .int i3), (4, .int i4)], [.int (1 : Int32), .int s0]))) rfl ?_
    refine go_le (lv1 := [(0, .ref a0), (1, .int i1), (3, .int i3), (4, .int i4)]) (aLe_of (show (List.map (fun q => q.1) ([(0, .ref a0), (1, .int i1), (3, .int i3), (4, .int i4)] : ALv)).Nodup from (by show ([0, 1, 3, 4] : List Nat).Nodup; decide)) (aSubL_cons rfl (aSubL_cons rfl (aSubL_cons rfl (aSubL_cons rfl aSubL_nil))))) ?_
    exact Tf293_b116 hd a0 ha0 i1 i3 i4 (1 : Int32) s0 I _ h
def f293_b92 (kad : Nat → Nat) (N : Nat) (Z : AZ) (a0 : Nat) (i1 : Int32) (i2 : Int32) (i3 : Int32) (i4 : Int32) (s0 : Int32) (s1 : Int32) (I : AI) : Option (Int32 × AI) :=
  if ¬ s1 = s0 then
    f293_b123 kad N Z a0 i1 i3 i4 I
  else
    if i4 ≤ 0 then
      f293_b105 kad N Z a0 i1 i2 i3 i4 (0 : Int32) I
    else
      f293_b105 kad N Z a0 i1 i2 i3 i4 (1 : Int32) I
set_option maxRecDepth 20000 in
theorem Tf293_b92 {kad : Nat → Nat} {N : Nat} {Z : AZ} {d : Nat} {t : Option Nat × (Nat × Nat)} (hd : 2 ≤ d) : ∀ (a0 : Nat) (ha0 : sh11 kad Z a0) (i1 : Int32) (i2 : Int32) (i3 : Int32) (i4 : Int32) (s0 : Int32) (s1 : Int32) (I : AI) (r : Int32 × AI), f293_b92 kad N Z a0 i1 i2 i3 i4 s0 s1 I = some r → aGo kad d 293 (92, ([(0, .ref a0), (1, .int i1), (2, .int i2), (3, .int i3), (4, .int i4)], [.int s0, .int s1])) (aMem Z I, t) (qI Z t r) := by
  intro a0 ha0 i1 i2 i3 i4 s0 s1 I r h
  unfold f293_b92 at h
  refine gg_br (b := decide (¬ s1 = s0)) (tg := 123) (off := 31) aMi293 rfl rfl rfl rfl (fun hb => ?_) (fun hb => ?_)
  · rw [if_pos (of_decide_eq_true hb)] at h
    refine go_le (lv1 := [(0, .ref a0), (1, .int i1), (3, .int i3), (4, .int i4)]) (aLe_of (show (List.map (fun q => q.1) ([(0, .ref a0), (1, .int i1), (3, .int i3), (4, .int i4)] : ALv)).Nodup from (by show ([0, 1, 3, 4] : List Nat).Nodup; decide)) (aSubL_cons rfl (aSubL_cons rfl (aSubL_cons rfl (aSubL_cons rfl aSubL_nil))))) ?_
    exact Tf293_b123 hd a0 ha0 i1 i3 i4 I _ h
  · rw [if_neg (of_decide_eq_false hb)] at h
    refine go_ops aMi293 1 _ (f1 := (97, ([(0, .ref a0), (1, .int i1), (2, .int i2), (3, .int i3), (4, .int i4)], [.int i4]))) rfl ?_
    refine gg_br (b := decide (i4 ≤ 0)) (tg := 104) (off := 7) aMi293 rfl rfl rfl rfl (fun hb => ?_) (fun hb => ?_)
    · rw [if_pos (of_decide_eq_true hb)] at h
      refine go_ops aMi293 1 _ (f1 := (105, ([(0, .ref a0), (1, .int i1), (2, .int i2), (3, .int i3), (4, .int i4)], [.int (0 : Int32)]))) rfl ?_
      exact Tf293_b105 hd a0 ha0 i1 i2 i3 i4 (0 : Int32) I _ h
    · rw [if_neg (of_decide_eq_false hb)] at h
      refine go_ops aMi293 2 _ (f1 := (105, ([(0, .ref a0), (1, .int i1), (2, .int i2), (3, .int i3), (4, .int i4)], [.int (1 : Int32)]))) rfl ?_
      exact Tf293_b105 hd a0 ha0 i1 i2 i3 i4 (1 : Int32) I _ h
def f293_b83 (kad : Nat → Nat) (N : Nat) (Z : AZ) (a0 : Nat) (i1 : Int32) (i2 : Int32) (i3 : Int32) (i4 : Int32) (s0 : Int32) (I : AI) : Option (Int32 × AI) :=
  if i2 ≤ 0 then
    f293_b92 kad N Z a0 i1 i2 i3 i4 (0 : Int32) s0 I
  else
    f293_b92 kad N Z a0 i1 i2 i3 i4 (1 : Int32) s0 I
set_option maxRecDepth 20000 in
theorem Tf293_b83 {kad : Nat → Nat} {N : Nat} {Z : AZ} {d : Nat} {t : Option Nat × (Nat × Nat)} (hd : 2 ≤ d) : ∀ (a0 : Nat) (ha0 : sh11 kad Z a0) (i1 : Int32) (i2 : Int32) (i3 : Int32) (i4 : Int32) (s0 : Int32) (I : AI) (r : Int32 × AI), f293_b83 kad N Z a0 i1 i2 i3 i4 s0 I = some r → aGo kad d 293 (83, ([(0, .ref a0), (1, .int i1), (2, .int i2), (3, .int i3), (4, .int i4)], [.int s0])) (aMem Z I, t) (qI Z t r) := by
  intro a0 ha0 i1 i2 i3 i4 s0 I r h
  unfold f293_b83 at h
  refine go_ops aMi293 1 _ (f1 := (84, ([(0, .ref a0), (1, .int i1), (2, .int i2), (3, .int i3), (4, .int i4)], [.int i2, .int s0]))) rfl ?_
  refine gg_br (b := decide (i2 ≤ 0)) (tg := 91) (off := 7) aMi293 rfl rfl rfl rfl (fun hb => ?_) (fun hb => ?_)
  · rw [if_pos (of_decide_eq_true hb)] at h
    refine go_ops aMi293 1 _ (f1 := (92, ([(0, .ref a0), (1, .int i1), (2, .int i2), (3, .int i3), (4, .int i4)], [.int (0 : Int32), .int s0]))) rfl ?_
    exact Tf293_b92 hd a0 ha0 i1 i2 i3 i4 (0 : Int32) s0 I _ h
  · rw [if_neg (of_decide_eq_false hb)] at h
    refine go_ops aMi293 2 _ (f1 := (92, ([(0, .ref a0), (1, .int i1), (2, .int i2), (3, .int i3), (4, .int i4)], [.int (1 : Int32), .int s0]))) rfl ?_
    exact Tf293_b92 hd a0 ha0 i1 i2 i3 i4 (1 : Int32) s0 I _ h
def f293 (kad : Nat → Nat) (N : Nat) (Z : AZ) (a0 : Nat) (i1 : Int32) (I : AI) : Option (Int32 × AI) :=
  (f235 kad N Z i1 I).bind fun r5_1 =>
  (ixA 256 (r5_1.1 + (1 : Int32))).bind fun j10_2 =>
  (f235 kad N Z i1 r5_1.2).bind fun r17_3 =>
  (ixA 256 (r17_3.1 + (2 : Int32))).bind fun j22_4 =>
  (f235 kad N Z i1 r17_3.2).bind fun r29_5 =>
  (ixA 256 (r29_5.1 + (3 : Int32))).bind fun j34_6 =>
  (f235 kad N Z i1 r29_5.2).bind fun r42_7 =>
  (ixA 256 r42_7.1).bind fun j45_8 =>
  if ¬ (r42_7.2 (a0 + 24) j45_8) = 0 then
    if (16 : Int32) < (r5_1.2 (a0 + 24) j10_2) then
      f293_b123 kad N Z a0 i1 (r17_3.2 (a0 + 24) j22_4) (r29_5.2 (a0 + 24) j34_6) r42_7.2
    else
      if (r17_3.2 (a0 + 24) j22_4) ≤ 0 then
        f293_b83 kad N Z a0 i1 (r5_1.2 (a0 + 24) j10_2) (r17_3.2 (a0 + 24) j22_4) (r29_5.2 (a0 + 24) j34_6) (0 : Int32) r42_7.2
      else
        f293_b83 kad N Z a0 i1 (r5_1.2 (a0 + 24) j10_2) (r17_3.2 (a0 + 24) j22_4) (r29_5.2 (a0 + 24) j34_6) (1 : Int32) r42_7.2
  else
    if ¬ (r5_1.2 (a0 + 24) j10_2) = 0 then
      f293_b66 kad N Z a0 r42_7.2
    else
      if ¬ (r17_3.2 (a0 + 24) j22_4) = 0 then
        f293_b66 kad N Z a0 r42_7.2
      else
        if ¬ (r29_5.2 (a0 + 24) j34_6) = 0 then
          f293_b66 kad N Z a0 r42_7.2
        else
          f293_b67 kad N Z a0 (1 : Int32) r42_7.2
set_option maxRecDepth 20000 in
theorem Tf293 {kad : Nat → Nat} {N : Nat} {Z : AZ} {d : Nat} {t : Option Nat × (Nat × Nat)} (hd : 2 ≤ d) : ∀ (a0 : Nat) (ha0 : sh11 kad Z a0) (i1 : Int32) (I : AI) (r : Int32 × AI), f293 kad N Z a0 i1 I = some r → aGo kad d 293 (0, ([(0, .ref a0), (1, .int i1)], [])) (aMem Z I, t) (qI Z t r) := by
  intro a0 ha0 i1 I r h
  unfold f293 at h
  refine go_ops aMi293 1 _ (f1 := (1, ([(0, .ref a0), (1, .int i1)], [.ref a0]))) rfl ?_
  refine gg_gR (b := (a0 + 24)) aMi293 rfl rfl rfl (gR_of (sh11_z ha0) (sh11_r50 ha0)) ?_
  refine go_ops aMi293 1 _ (f1 := (5, ([(0, .ref a0), (1, .int i1)], [.int i1, .ref (a0 + 24)]))) rfl ?_
  obtain ⟨r5_1, hxr5_1, h⟩ := Option.bind_eq_some_iff.mp h
  refine gg_cs (as := [.int i1]) (r := [.ref (a0 + 24)]) aMi293 rfl rfl rfl aMi235 rfl (Nat.le_of_ble_eq_true rfl) (Nat.le_of_ble_eq_true rfl) (by omega) (Tf235 (by omega) i1 I _ hxr5_1) ?_
  show aGo kad d 293 (8, ([(0, .ref a0), (1, .int i1)], [.int r5_1.1, .ref (a0 + 24)])) (aMem Z r5_1.2, t) _
  refine go_ops aMi293 2 _ (f1 := (10, ([(0, .ref a0), (1, .int i1)], [.int (r5_1.1 + (1 : Int32)), .ref (a0 + 24)]))) rfl ?_
  obtain ⟨j10_2, hxj10_2, h⟩ := Option.bind_eq_some_iff.mp h
  refine gg_lI (Or.inl ⟨rfl, rfl⟩) aMi293 rfl (lI_of (sh11_a50 ha0) hxj10_2) ?_
  refine go_ops aMi293 2 _ (f1 := (13, ([(2, .int (r5_1.2 (a0 + 24) j10_2)), (0, .ref a0), (1, .int i1)], [.ref a0]))) rfl ?_
  refine gg_gR (b := (a0 + 24)) aMi293 rfl rfl rfl (gR_of (sh11_z ha0) (sh11_r50 ha0)) ?_
  refine go_ops aMi293 1 _ (f1 := (17, ([(2, .int (r5_1.2 (a0 + 24) j10_2)), (0, .ref a0), (1, .int i1)], [.int i1, .ref (a0 + 24)]))) rfl ?_
  obtain ⟨r17_3, hxr17_3, h⟩ := Option.bind_eq_some_iff.mp h
  refine gg_cs (as := [.int i1]) (r := [.ref (a0 + 24)]) aMi293 rfl rfl rfl aMi235 rfl (Nat.le_of_ble_eq_true rfl) (Nat.le_of_ble_eq_true rfl) (by omega) (Tf235 (by omega) i1 r5_1.2 _ hxr17_3) ?_
  show aGo kad d 293 (20, ([(2, .int (r5_1.2 (a0 + 24) j10_2)), (0, .ref a0), (1, .int i1)], [.int r17_3.1, .ref (a0 + 24)])) (aMem Z r17_3.2, t) _
  refine go_ops aMi293 2 _ (f1 := (22, ([(2, .int (r5_1.2 (a0 + 24) j10_2)), (0, .ref a0), (1, .int i1)], [.int (r17_3.1 + (2 : Int32)), .ref (a0 + 24)]))) rfl ?_
  obtain ⟨j22_4, hxj22_4, h⟩ := Option.bind_eq_some_iff.mp h
  refine gg_lI (Or.inl ⟨rfl, rfl⟩) aMi293 rfl (lI_of (sh11_a50 ha0) hxj22_4) ?_
  refine go_ops aMi293 2 _ (f1 := (25, ([(3, .int (r17_3.2 (a0 + 24) j22_4)), (2, .int (r5_1.2 (a0 + 24) j10_2)), (0, .ref a0), (1, .int i1)], [.ref a0]))) rfl ?_
  refine gg_gR (b := (a0 + 24)) aMi293 rfl rfl rfl (gR_of (sh11_z ha0) (sh11_r50 ha0)) ?_
  refine go_ops aMi293 1 _ (f1 := (29, ([(3, .int (r17_3.2 (a0 + 24) j22_4)), (2, .int (r5_1.2 (a0 + 24) j10_2)), (0, .ref a0), (1, .int i1)], [.int i1, .ref (a0 + 24)]))) rfl ?_
  obtain ⟨r29_5, hxr29_5, h⟩ := Option.bind_eq_some_iff.mp h
  refine gg_cs (as := [.int i1]) (r := [.ref (a0 + 24)]) aMi293 rfl rfl rfl aMi235 rfl (Nat.le_of_ble_eq_true rfl) (Nat.le_of_ble_eq_true rfl) (by omega) (Tf235 (by omega) i1 r17_3.2 _ hxr29_5) ?_
  show aGo kad d 293 (32, ([(3, .int (r17_3.2 (a0 + 24) j22_4)), (2, .int (r5_1.2 (a0 + 24) j10_2)), (0, .ref a0), (1, .int i1)], [.int r29_5.1, .ref (a0 + 24)])) (aMem Z r29_5.2, t) _
  refine go_ops aMi293 2 _ (f1 := (34, ([(3, .int (r17_3.2 (a0 + 24) j22_4)), (2, .int (r5_1.2 (a0 + 24) j10_2)), (0, .ref a0), (1, .int i1)], [.int (r29_5.1 + (3 : Int32)), .ref (a0 + 24)]))) rfl ?_
  obtain ⟨j34_6, hxj34_6, h⟩ := Option.bind_eq_some_iff.mp h
  refine gg_lI (Or.inl ⟨rfl, rfl⟩) aMi293 rfl (lI_of (sh11_a50 ha0) hxj34_6) ?_
  refine go_ops aMi293 2 _ (f1 := (38, ([(4, .int (r29_5.2 (a0 + 24) j34_6)), (3, .int (r17_3.2 (a0 + 24) j22_4)), (2, .int (r5_1.2 (a0 + 24) j10_2)), (0, .ref a0), (1, .int i1)], [.ref a0]))) rfl ?_
  refine gg_gR (b := (a0 + 24)) aMi293 rfl rfl rfl (gR_of (sh11_z ha0) (sh11_r50 ha0)) ?_
  refine go_ops aMi293 1 _ (f1 := (42, ([(4, .int (r29_5.2 (a0 + 24) j34_6)), (3, .int (r17_3.2 (a0 + 24) j22_4)), (2, .int (r5_1.2 (a0 + 24) j10_2)), (0, .ref a0), (1, .int i1)], [.int i1, .ref (a0 + 24)]))) rfl ?_
  obtain ⟨r42_7, hxr42_7, h⟩ := Option.bind_eq_some_iff.mp h
  refine gg_cs (as := [.int i1]) (r := [.ref (a0 + 24)]) aMi293 rfl rfl rfl aMi235 rfl (Nat.le_of_ble_eq_true rfl) (Nat.le_of_ble_eq_true rfl) (by omega) (Tf235 (by omega) i1 r29_5.2 _ hxr42_7) ?_
  show aGo kad d 293 (45, ([(4, .int (r29_5.2 (a0 + 24) j34_6)), (3, .int (r17_3.2 (a0 + 24) j22_4)), (2, .int (r5_1.2 (a0 + 24) j10_2)), (0, .ref a0), (1, .int i1)], [.int r42_7.1, .ref (a0 + 24)])) (aMem Z r42_7.2, t) _
  obtain ⟨j45_8, hxj45_8, h⟩ := Option.bind_eq_some_iff.mp h
  refine gg_lI (Or.inl ⟨rfl, rfl⟩) aMi293 rfl (lI_of (sh11_a50 ha0) hxj45_8) ?_
  refine gg_br (b := decide (¬ (r42_7.2 (a0 + 24) j45_8) = 0)) (tg := 68) (off := 22) aMi293 rfl rfl rfl rfl (fun hb => ?_) (fun hb => ?_)
  · rw [if_pos (of_decide_eq_true hb)] at h
    refine go_ops aMi293 2 _ (f1 := (71, ([(4, .int (r29_5.2 (a0 + 24) j34_6)), (3, .int (r17_3.2 (a0 + 24) j22_4)), (2, .int (r5_1.2 (a0 + 24) j10_2)), (0, .ref a0), (1, .int i1)], [.int (16 : Int32), .int (r5_1.2 (a0 + 24) j10_2)]))) rfl ?_
    refine gg_br (b := decide ((16 : Int32) < (r5_1.2 (a0 + 24) j10_2))) (tg := 123) (off := 52) aMi293 rfl rfl rfl rfl (fun hb => ?_) (fun hb => ?_)
    · rw [if_pos (of_decide_eq_true hb)] at h
      refine go_le (lv1 := [(0, .ref a0), (1, .int i1), (3, .int (r17_3.2 (a0 + 24) j22_4)), (4, .int (r29_5.2 (a0 + 24) j34_6))]) (aLe_of (show (List.map (fun q => q.1) ([(0, .ref a0), (1, .int i1), (3, .int (r17_3.2 (a0 + 24) j22_4)), (4, .int (r29_5.2 (a0 + 24) j34_6))] : ALv)).Nodup from (by show ([0, 1, 3, 4] : List Nat).Nodup; decide)) (aSubL_cons rfl (aSubL_cons rfl (aSubL_cons rfl (aSubL_cons rfl aSubL_nil))))) ?_
      exact Tf293_b123 hd a0 ha0 i1 (r17_3.2 (a0 + 24) j22_4) (r29_5.2 (a0 + 24) j34_6) r42_7.2 _ h
    · rw [if_neg (of_decide_eq_false hb)] at h
      refine go_ops aMi293 1 _ (f1 := (75, ([(4, .int (r29_5.2 (a0 + 24) j34_6)), (3, .int (r17_3.2 (a0 + 24) j22_4)), (2, .int (r5_1.2 (a0 + 24) j10_2)), (0, .ref a0), (1, .int i1)], [.int (r17_3.2 (a0 + 24) j22_4)]))) rfl ?_
      refine gg_br (b := decide ((r17_3.2 (a0 + 24) j22_4) ≤ 0)) (tg := 82) (off := 7) aMi293 rfl rfl rfl rfl (fun hb => ?_) (fun hb => ?_)
      · rw [if_pos (of_decide_eq_true hb)] at h
        refine go_ops aMi293 1 _ (f1 := (83, ([(4, .int (r29_5.2 (a0 + 24) j34_6)), (3, .int (r17_3.2 (a0 + 24) j22_4)), (2, .int (r5_1.2 (a0 + 24) j10_2)), (0, .ref a0), (1, .int i1)], [.int (0 : Int32)]))) rfl ?_
        refine go_le (lv1 := [(0, .ref a0), (1, .int i1), (2, .int (r5_1.2 (a0 + 24) j10_2)), (3, .int (r17_3.2 (a0 + 24) j22_4)), (4, .int (r29_5.2 (a0 + 24) j34_6))]) (aLe_of (show (List.map (fun q => q.1) ([(0, .ref a0), (1, .int i1), (2, .int (r5_1.2 (a0 + 24) j10_2)), (3, .int (r17_3.2 (a0 + 24) j22_4)), (4, .int (r29_5.2 (a0 + 24) j34_6))] : ALv)).Nodup from (by show ([0, 1, 2, 3, 4] : List Nat).Nodup; decide)) (aSubL_cons rfl (aSubL_cons rfl (aSubL_cons rfl (aSubL_cons rfl (aSubL_cons rfl aSubL_nil)))))) ?_
        exact Tf293_b83 hd a0 ha0 i1 (r5_1.2 (a0 + 24) j10_2) (r17_3.2 (a0 + 24) j22_4) (r29_5.2 (a0 + 24) j34_6) (0 : Int32) r42_7.2 _ h
      · rw [if_neg (of_decide_eq_false hb)] at h
        refine go_ops aMi293 2 _ (f1 := (83, ([(4, .int (r29_5.2 (a0 + 24) j34_6)), (3, .int (r17_3.2 (a0 + 24) j22_4)), (2, .int (r5_1.2 (a0 + 24) j10_2)), (0, .ref a0), (1, .int i1)], [.int (1 : Int32)]))) rfl ?_
        refine go_le (lv1 := [(0, .ref a0), (1, .int i1), (2, .int (r5_1.2 (a0 + 24) j10_2)), (3, .int (r17_3.2 (a0 + 24) j22_4)), (4, .int (r29_5.2 (a0 + 24) j34_6))]) (aLe_of (show (List.map (fun q => q.1) ([(0, .ref a0), (1, .int i1), (2, .int (r5_1.2 (a0 + 24) j10_2)), (3, .int (r17_3.2 (a0 + 24) j22_4)), (4, .int (r29_5.2 (a0 + 24) j34_6))] : ALv)).Nodup from (by show ([0, 1, 2, 3, 4] : List Nat).Nodup; decide)) (aSubL_cons rfl (aSubL_cons rfl (aSubL_cons rfl (aSubL_cons rfl (aSubL_cons rfl aSubL_nil)))))) ?_
        exact Tf293_b83 hd a0 ha0 i1 (r5_1.2 (a0 + 24) j10_2) (r17_3.2 (a0 + 24) j22_4) (r29_5.2 (a0 + 24) j34_6) (1 : Int32) r42_7.2 _ h
  · rw [if_neg (of_decide_eq_false hb)] at h
    refine go_ops aMi293 1 _ (f1 := (50, ([(4, .int (r29_5.2 (a0 + 24) j34_6)), (3, .int (r17_3.2 (a0 + 24) j22_4)), (2, .int (r5_1.2 (a0 + 24) j10_2)), (0, .ref a0), (1, .int i1)], [.int (r5_1.2 (a0 + 24) j10_2)]))) rfl ?_
    refine gg_br (b := decide (¬ (r5_1.2 (a0 + 24) j10_2) = 0)) (tg := 66) (off := 16) aMi293 rfl rfl rfl rfl (fun hb => ?_) (fun hb => ?_)
    · rw [if_pos (of_decide_eq_true hb)] at h
      refine go_le (lv1 := []) (aLe_of (show (List.map (fun q => q.1) ([] : ALv)).Nodup from (by show ([] : List Nat).Nodup; decide)) aSubL_nil) ?_
      exact Tf293_b66 hd a0 ha0 r42_7.2 _ h
    · rw [if_neg (of_decide_eq_false hb)] at h
      refine go_ops aMi293 1 _ (f1 := (54, ([(4, .int (r29_5.2 (a0 + 24) j34_6)), (3, .int (r17_3.2 (a0 + 24) j22_4)), (2, .int (r5_1.2 (a0 + 24) j10_2)), (0, .ref a0), (1, .int i1)], [.int (r17_3.2 (a0 + 24) j22_4)]))) rfl ?_
      refine gg_br (b := decide (¬ (r17_3.2 (a0 + 24) j22_4) = 0)) (tg := 66) (off := 12) aMi293 rfl rfl rfl rfl (fun hb => ?_) (fun hb => ?_)
      · rw [if_pos (of_decide_eq_true hb)] at h
        refine go_le (lv1 := []) (aLe_of (show (List.map (fun q => q.1) ([] : ALv)).Nodup from (by show ([] : List Nat).Nodup; decide)) aSubL_nil) ?_
        exact Tf293_b66 hd a0 ha0 r42_7.2 _ h
      · rw [if_neg (of_decide_eq_false hb)] at h
        refine go_ops aMi293 1 _ (f1 := (59, ([(4, .int (r29_5.2 (a0 + 24) j34_6)), (3, .int (r17_3.2 (a0 + 24) j22_4)), (2, .int (r5_1.2 (a0 + 24) j10_2)), (0, .ref a0), (1, .int i1)], [.int (r29_5.2 (a0 + 24) j34_6)]))) rfl ?_
        refine gg_br (b := decide (¬ (r29_5.2 (a0 + 24) j34_6) = 0)) (tg := 66) (off := 7) aMi293 rfl rfl rfl rfl (fun hb => ?_) (fun hb => ?_)
        · rw [if_pos (of_decide_eq_true hb)] at h
          refine go_le (lv1 := []) (aLe_of (show (List.map (fun q => q.1) ([] : ALv)).Nodup from (by show ([] : List Nat).Nodup; decide)) aSubL_nil) ?_
          exact Tf293_b66 hd a0 ha0 r42_7.2 _ h
        · rw [if_neg (of_decide_eq_false hb)] at h
          refine go_ops aMi293 2 _ (f1 := (67, ([(4, .int (r29_5.2 (a0 + 24) j34_6)), (3, .int (r17_3.2 (a0 + 24) j22_4)), (2, .int (r5_1.2 (a0 + 24) j10_2)), (0, .ref a0), (1, .int i1)], [.int (1 : Int32)]))) rfl ?_
          refine go_le (lv1 := []) (aLe_of (show (List.map (fun q => q.1) ([] : ALv)).Nodup from (by show ([] : List Nat).Nodup; decide)) aSubL_nil) ?_
          exact Tf293_b67 hd a0 ha0 (1 : Int32) r42_7.2 _ h
-- KernelGymModel.isWholeNow ()Z
def f294_b98 (kad : Nat → Nat) (N : Nat) (Z : AZ) (k21 : Nat → Int32 → Int32 → Int32 → AI → Option (Int32 × AI)) (k40 : Nat → Int32 → Int32 → Int32 → Int32 → AI → Option (Int32 × AI)) (a0 : Nat) (i2 : Int32) (i3 : Int32) (i4 : Int32) (s0 : Int32) (s1 : Int32) (I : AI) : Option (Int32 × AI) :=
  k40 a0 (s1 ||| s0) i2 i3 (i4 + (1 : Int32)) I
set_option maxRecDepth 20000 in
theorem Tf294_b98 {kad : Nat → Nat} {N : Nat} {Z : AZ} {d : Nat} {t : Option Nat × (Nat × Nat)} (hd : 3 ≤ d) (k21 : Nat → Int32 → Int32 → Int32 → AI → Option (Int32 × AI))  (k40 : Nat → Int32 → Int32 → Int32 → Int32 → AI → Option (Int32 × AI))  (hk21 : ∀ (a0 : Nat) (ha0 : sh11 kad Z a0) (i1 : Int32) (i2 : Int32) (i3 : Int32) (I : AI) (r : Int32 × AI), k21 a0 i1 i2 i3 I = some r → aGo kad d 294 (21, ([(0, .ref a0), (1, .int i1), (2, .int i2), (3, .int i3)], [])) (aMem Z I, t) (qI Z t r)) (hk40 : ∀ (a0 : Nat) (ha0 : sh11 kad Z a0) (i1 : Int32) (i2 : Int32) (i3 : Int32) (i4 : Int32) (I : AI) (r : Int32 × AI), k40 a0 i1 i2 i3 i4 I = some r → aGo kad d 294 (40, ([(0, .ref a0), (1, .int i1), (2, .int i2), (3, .int i3), (4, .int i4)], [])) (aMem Z I, t) (qI Z t r)) : ∀ (a0 : Nat) (ha0 : sh11 kad Z a0) (i2 : Int32) (i3 : Int32) (i4 : Int32) (s0 : Int32) (s1 : Int32) (I : AI) (r : Int32 × AI), f294_b98 kad N Z k21 k40 a0 i2 i3 i4 s0 s1 I = some r → aGo kad d 294 (98, ([(0, .ref a0), (2, .int i2), (3, .int i3), (4, .int i4)], [.int s0, .int s1])) (aMem Z I, t) (qI Z t r) := by
  intro a0 ha0 i2 i3 i4 s0 s1 I r h
  unfold f294_b98 at h
  refine go_ops aMi294 4 _ (f1 := (40, ([(4, .int (i4 + (1 : Int32))), (1, .int (s1 ||| s0)), (0, .ref a0), (2, .int i2), (3, .int i3)], []))) rfl ?_
  refine go_le (lv1 := [(0, .ref a0), (1, .int (s1 ||| s0)), (2, .int i2), (3, .int i3), (4, .int (i4 + (1 : Int32)))]) (aLe_of (show (List.map (fun q => q.1) ([(0, .ref a0), (1, .int (s1 ||| s0)), (2, .int i2), (3, .int i3), (4, .int (i4 + (1 : Int32)))] : ALv)).Nodup from (by show ([0, 1, 2, 3, 4] : List Nat).Nodup; decide)) (aSubL_cons rfl (aSubL_cons rfl (aSubL_cons rfl (aSubL_cons rfl (aSubL_cons rfl aSubL_nil)))))) ?_
  exact hk40 a0 ha0 (s1 ||| s0) i2 i3 (i4 + (1 : Int32)) I _ h
def f294_b83 (kad : Nat → Nat) (N : Nat) (Z : AZ) (k21 : Nat → Int32 → Int32 → Int32 → AI → Option (Int32 × AI)) (k40 : Nat → Int32 → Int32 → Int32 → Int32 → AI → Option (Int32 × AI)) (a0 : Nat) (i1 : Int32) (i3 : Int32) (i4 : Int32) (i5 : Int32) (s0 : Int32) (I : AI) : Option (Int32 × AI) :=
  if ¬ i5 = 0 then
    f294_b98 kad N Z k21 k40 a0 s0 i3 i4 ((1 : Int32) <<< (i5 &&& 31)) i1 I
  else
    f294_b98 kad N Z k21 k40 a0 s0 i3 i4 (0 : Int32) i1 I
set_option maxRecDepth 20000 in
theorem Tf294_b83 {kad : Nat → Nat} {N : Nat} {Z : AZ} {d : Nat} {t : Option Nat × (Nat × Nat)} (hd : 3 ≤ d) (k21 : Nat → Int32 → Int32 → Int32 → AI → Option (Int32 × AI))  (k40 : Nat → Int32 → Int32 → Int32 → Int32 → AI → Option (Int32 × AI))  (hk21 : ∀ (a0 : Nat) (ha0 : sh11 kad Z a0) (i1 : Int32) (i2 : Int32) (i3 : Int32) (I : AI) (r : Int32 × AI), k21 a0 i1 i2 i3 I = some r → aGo kad d 294 (21, ([(0, .ref a0), (1, .int i1), (2, .int i2), (3, .int i3)], [])) (aMem Z I, t) (qI Z t r)) (hk40 : ∀ (a0 : Nat) (ha0 : sh11 kad Z a0) (i1 : Int32) (i2 : Int32) (i3 : Int32) (i4 : Int32) (I : AI) (r : Int32 × AI), k40 a0 i1 i2 i3 i4 I = some r → aGo kad d 294 (40, ([(0, .ref a0), (1, .int i1), (2, .int i2), (3, .int i3), (4, .int i4)], [])) (aMem Z I, t) (qI Z t r)) : ∀ (a0 : Nat) (ha0 : sh11 kad Z a0) (i1 : Int32) (i3 : Int32) (i4 : Int32) (i5 : Int32) (s0 : Int32) (I : AI) (r : Int32 × AI), f294_b83 kad N Z k21 k40 a0 i1 i3 i4 i5 s0 I = some r → aGo kad d 294 (83, ([(0, .ref a0), (1, .int i1), (3, .int i3), (4, .int i4), (5, .int i5)], [.int s0])) (aMem Z I, t) (qI Z t r) := by
  intro a0 ha0 i1 i3 i4 i5 s0 I r h
  unfold f294_b83 at h
  refine go_ops aMi294 3 _ (f1 := (87, ([(2, .int s0), (0, .ref a0), (1, .int i1), (3, .int i3), (4, .int i4), (5, .int i5)], [.int i5, .int i1]))) rfl ?_
  refine gg_br (b := decide (¬ i5 = 0)) (tg := 94) (off := 7) aMi294 rfl rfl rfl rfl (fun hb => ?_) (fun hb => ?_)
  · rw [if_pos (of_decide_eq_true hb)] at h
    refine go_ops aMi294 3 _ (f1 := (98, ([(2, .int s0), (0, .ref a0), (1, .int i1), (3, .int i3), (4, .int i4), (5, .int i5)], [.int ((1 : Int32) <<< (i5 &&& 31)), .int i1]))) rfl ?_
    refine go_le (lv1 := [(0, .ref a0), (2, .int s0), (3, .int i3), (4, .int i4)]) (aLe_of (show (List.map (fun q => q.1) ([(0, .ref a0), (2, .int s0), (3, .int i3), (4, .int i4)] : ALv)).Nodup from (by show ([0, 2, 3, 4] : List Nat).Nodup; decide)) (aSubL_cons rfl (aSubL_cons rfl (aSubL_cons rfl (aSubL_cons rfl aSubL_nil))))) ?_
    exact Tf294_b98 hd k21 k40 hk21 hk40 a0 ha0 s0 i3 i4 ((1 : Int32) <<< (i5 &&& 31)) i1 I _ h
  · rw [if_neg (of_decide_eq_false hb)] at h
    refine go_ops aMi294 2 _ (f1 := (98, ([(2, .int s0), (0, .ref a0), (1, .int i1), (3, .int i3), (4, .int i4), (5, .int i5)], [.int (0 : Int32), .int i1]))) rfl ?_
    refine go_le (lv1 := [(0, .ref a0), (2, .int s0), (3, .int i3), (4, .int i4)]) (aLe_of (show (List.map (fun q => q.1) ([(0, .ref a0), (2, .int s0), (3, .int i3), (4, .int i4)] : ALv)).Nodup from (by show ([0, 2, 3, 4] : List Nat).Nodup; decide)) (aSubL_cons rfl (aSubL_cons rfl (aSubL_cons rfl (aSubL_cons rfl aSubL_nil))))) ?_
    exact Tf294_b98 hd k21 k40 hk21 hk40 a0 ha0 s0 i3 i4 (0 : Int32) i1 I _ h
def f294_b78 (kad : Nat → Nat) (N : Nat) (Z : AZ) (k21 : Nat → Int32 → Int32 → Int32 → AI → Option (Int32 × AI)) (k40 : Nat → Int32 → Int32 → Int32 → Int32 → AI → Option (Int32 × AI)) (a0 : Nat) (i1 : Int32) (i3 : Int32) (i4 : Int32) (i5 : Int32) (I : AI) : Option (Int32 × AI) :=
  f294_b83 kad N Z k21 k40 a0 i1 i3 i4 i5 (1 : Int32) I
set_option maxRecDepth 20000 in
theorem Tf294_b78 {kad : Nat → Nat} {N : Nat} {Z : AZ} {d : Nat} {t : Option Nat × (Nat × Nat)} (hd : 3 ≤ d) (k21 : Nat → Int32 → Int32 → Int32 → AI → Option (Int32 × AI))  (k40 : Nat → Int32 → Int32 → Int32 → Int32 → AI → Option (Int32 × AI))  (hk21 : ∀ (a0 : Nat) (ha0 : sh11 kad Z a0) (i1 : Int32) (i2 : Int32) (i3 : Int32) (I : AI) (r : Int32 × AI), k21 a0 i1 i2 i3 I = some r → aGo kad d 294 (21, ([(0, .ref a0), (1, .int i1), (2, .int i2), (3, .int i3)], [])) (aMem Z I, t) (qI Z t r)) (hk40 : ∀ (a0 : Nat) (ha0 : sh11 kad Z a0) (i1 : Int32) (i2 : Int32) (i3 : Int32) (i4 : Int32) (I : AI) (r : Int32 × AI), k40 a0 i1 i2 i3 i4 I = some r → aGo kad d 294 (40, ([(0, .ref a0), (1, .int i1), (2, .int i2), (3, .int i3), (4, .int i4)], [])) (aMem Z I, t) (qI Z t r)) : ∀ (a0 : Nat) (ha0 : sh11 kad Z a0) (i1 : Int32) (i3 : Int32) (i4 : Int32) (i5 : Int32) (I : AI) (r : Int32 × AI), f294_b78 kad N Z k21 k40 a0 i1 i3 i4 i5 I = some r → aGo kad d 294 (78, ([(0, .ref a0), (1, .int i1), (3, .int i3), (4, .int i4), (5, .int i5)], [])) (aMem Z I, t) (qI Z t r) := by
  intro a0 ha0 i1 i3 i4 i5 I r h
  unfold f294_b78 at h
  refine go_ops aMi294 2 _ (f1 := (83, ([(0, .ref a0), (1, .int i1), (3, .int i3), (4, .int i4), (5, .int i5)], [.int (1 : Int32)]))) rfl ?_
  exact Tf294_b83 hd k21 k40 hk21 hk40 a0 ha0 i1 i3 i4 i5 (1 : Int32) I _ h
def f294_b106 (kad : Nat → Nat) (N : Nat) (Z : AZ) (k21 : Nat → Int32 → Int32 → Int32 → AI → Option (Int32 × AI)) (a0 : Nat) (i1 : Int32) (i2 : Int32) (i3 : Int32) (I : AI) : Option (Int32 × AI) :=
  k21 a0 i1 i2 (i3 + (1 : Int32)) I
set_option maxRecDepth 20000 in
theorem Tf294_b106 {kad : Nat → Nat} {N : Nat} {Z : AZ} {d : Nat} {t : Option Nat × (Nat × Nat)} (hd : 3 ≤ d) (k21 : Nat → Int32 → Int32 → Int32 → AI → Option (Int32 × AI))  (hk21 : ∀ (a0 : Nat) (ha0 : sh11 kad Z a0) (i1 : Int32) (i2 : Int32) (i3 : Int32) (I : AI) (r : Int32 × AI), k21 a0 i1 i2 i3 I = some r → aGo kad d 294 (21, ([(0, .ref a0), (1, .int i1), (2, .int i2), (3, .int i3)], [])) (aMem Z I, t) (qI Z t r)) : ∀ (a0 : Nat) (ha0 : sh11 kad Z a0) (i1 : Int32) (i2 : Int32) (i3 : Int32) (I : AI) (r : Int32 × AI), f294_b106 kad N Z k21 a0 i1 i2 i3 I = some r → aGo kad d 294 (106, ([(0, .ref a0), (1, .int i1), (2, .int i2), (3, .int i3)], [])) (aMem Z I, t) (qI Z t r) := by
  intro a0 ha0 i1 i2 i3 I r h
  unfold f294_b106 at h
  refine go_ops aMi294 2 _ (f1 := (21, ([(3, .int (i3 + (1 : Int32))), (0, .ref a0), (1, .int i1), (2, .int i2)], []))) rfl ?_
  refine go_le (lv1 := [(0, .ref a0), (1, .int i1), (2, .int i2), (3, .int (i3 + (1 : Int32)))]) (aLe_of (show (List.map (fun q => q.1) ([(0, .ref a0), (1, .int i1), (2, .int i2), (3, .int (i3 + (1 : Int32)))] : ALv)).Nodup from (by show ([0, 1, 2, 3] : List Nat).Nodup; decide)) (aSubL_cons rfl (aSubL_cons rfl (aSubL_cons rfl (aSubL_cons rfl aSubL_nil))))) ?_
  exact hk21 a0 ha0 i1 i2 (i3 + (1 : Int32)) I _ h
def f294_b40 (kad : Nat → Nat) (N : Nat) (Z : AZ) (k21 : Nat → Int32 → Int32 → Int32 → AI → Option (Int32 × AI)) : Nat → Nat → Int32 → Int32 → Int32 → Int32 → AI → Option (Int32 × AI)
  | 0, _, _, _, _, _, _ => none
  | F + 1, a0, i1, i2, i3, i4, I =>
    if (4 : Int32) ≤ i4 then
      f294_b106 kad N Z k21 a0 i1 i2 i3 I
    else
      if i2 = 0 then
        f294_b106 kad N Z k21 a0 i1 i2 i3 I
      else
        (f235 kad N Z i3 I).bind fun r55_1 =>
        (ixA 256 (r55_1.1 + i4)).bind fun j61_2 =>
        if (r55_1.2 (a0 + 24) j61_2) = 0 then
          f294_b78 kad N Z k21 (fun p0 p1 p2 p3 p4 I => f294_b40 kad N Z k21 F p0 p1 p2 p3 p4 I) a0 i1 i3 i4 (r55_1.2 (a0 + 24) j61_2) r55_1.2
        else
          if ¬ ((i1 >>> ((r55_1.2 (a0 + 24) j61_2) &&& 31)) &&& (1 : Int32)) = 0 then
            f294_b83 kad N Z k21 (fun p0 p1 p2 p3 p4 I => f294_b40 kad N Z k21 F p0 p1 p2 p3 p4 I) a0 i1 i3 i4 (r55_1.2 (a0 + 24) j61_2) (0 : Int32) r55_1.2
          else
            f294_b78 kad N Z k21 (fun p0 p1 p2 p3 p4 I => f294_b40 kad N Z k21 F p0 p1 p2 p3 p4 I) a0 i1 i3 i4 (r55_1.2 (a0 + 24) j61_2) r55_1.2
set_option maxRecDepth 20000 in
theorem Tf294_b40 {kad : Nat → Nat} {N : Nat} {Z : AZ} {d : Nat} {t : Option Nat × (Nat × Nat)} (hd : 3 ≤ d) (k21 : Nat → Int32 → Int32 → Int32 → AI → Option (Int32 × AI))  (hk21 : ∀ (a0 : Nat) (ha0 : sh11 kad Z a0) (i1 : Int32) (i2 : Int32) (i3 : Int32) (I : AI) (r : Int32 × AI), k21 a0 i1 i2 i3 I = some r → aGo kad d 294 (21, ([(0, .ref a0), (1, .int i1), (2, .int i2), (3, .int i3)], [])) (aMem Z I, t) (qI Z t r)) : ∀ (F : Nat) (a0 : Nat) (ha0 : sh11 kad Z a0) (i1 : Int32) (i2 : Int32) (i3 : Int32) (i4 : Int32) (I : AI) (r : Int32 × AI), f294_b40 kad N Z k21 F a0 i1 i2 i3 i4 I = some r → aGo kad d 294 (40, ([(0, .ref a0), (1, .int i1), (2, .int i2), (3, .int i3), (4, .int i4)], [])) (aMem Z I, t) (qI Z t r) := by
  intro F
  induction F with
  | zero => intro a0 ha0 i1 i2 i3 i4 I r h; cases h
  | succ F ih =>
    intro a0 ha0 i1 i2 i3 i4 I r h
    unfold f294_b40 at h
    refine go_ops aMi294 2 _ (f1 := (43, ([(0, .ref a0), (1, .int i1), (2, .int i2), (3, .int i3), (4, .int i4)], [.int (4 : Int32), .int i4]))) rfl ?_
    refine gg_br (b := decide ((4 : Int32) ≤ i4)) (tg := 106) (off := 63) aMi294 rfl rfl rfl rfl (fun hb => ?_) (fun hb => ?_)
    · rw [if_pos (of_decide_eq_true hb)] at h
      refine go_le (lv1 := [(0, .ref a0), (1, .int i1), (2, .int i2), (3, .int i3)]) (aLe_of (show (List.map (fun q => q.1) ([(0, .ref a0), (1, .int i1), (2, .int i2), (3, .int i3)] : ALv)).Nodup from (by show ([0, 1, 2, 3] : List Nat).Nodup; decide)) (aSubL_cons rfl (aSubL_cons rfl (aSubL_cons rfl (aSubL_cons rfl aSubL_nil))))) ?_
      exact Tf294_b106 hd k21 hk21 a0 ha0 i1 i2 i3 I _ h
    · rw [if_neg (of_decide_eq_false hb)] at h
      refine go_ops aMi294 1 _ (f1 := (47, ([(0, .ref a0), (1, .int i1), (2, .int i2), (3, .int i3), (4, .int i4)], [.int i2]))) rfl ?_
      refine gg_br (b := decide (i2 = 0)) (tg := 106) (off := 59) aMi294 rfl rfl rfl rfl (fun hb => ?_) (fun hb => ?_)
      · rw [if_pos (of_decide_eq_true hb)] at h
        refine go_le (lv1 := [(0, .ref a0), (1, .int i1), (2, .int i2), (3, .int i3)]) (aLe_of (show (List.map (fun q => q.1) ([(0, .ref a0), (1, .int i1), (2, .int i2), (3, .int i3)] : ALv)).Nodup from (by show ([0, 1, 2, 3] : List Nat).Nodup; decide)) (aSubL_cons rfl (aSubL_cons rfl (aSubL_cons rfl (aSubL_cons rfl aSubL_nil))))) ?_
        exact Tf294_b106 hd k21 hk21 a0 ha0 i1 i2 i3 I _ h
      · rw [if_neg (of_decide_eq_false hb)] at h
        refine go_ops aMi294 1 _ (f1 := (51, ([(0, .ref a0), (1, .int i1), (2, .int i2), (3, .int i3), (4, .int i4)], [.ref a0]))) rfl ?_
        refine gg_gR (b := (a0 + 24)) aMi294 rfl rfl rfl (gR_of (sh11_z ha0) (sh11_r50 ha0)) ?_
        refine go_ops aMi294 1 _ (f1 := (55, ([(0, .ref a0), (1, .int i1), (2, .int i2), (3, .int i3), (4, .int i4)], [.int i3, .ref (a0 + 24)]))) rfl ?_
        obtain ⟨r55_1, hxr55_1, h⟩ := Option.bind_eq_some_iff.mp h
        refine gg_cs (as := [.int i3]) (r := [.ref (a0 + 24)]) aMi294 rfl rfl rfl aMi235 rfl (Nat.le_of_ble_eq_true rfl) (Nat.le_of_ble_eq_true rfl) (by omega) (Tf235 (by omega) i3 I _ hxr55_1) ?_
        show aGo kad d 294 (58, ([(0, .ref a0), (1, .int i1), (2, .int i2), (3, .int i3), (4, .int i4)], [.int r55_1.1, .ref (a0 + 24)])) (aMem Z r55_1.2, t) _
        refine go_ops aMi294 2 _ (f1 := (61, ([(0, .ref a0), (1, .int i1), (2, .int i2), (3, .int i3), (4, .int i4)], [.int (r55_1.1 + i4), .ref (a0 + 24)]))) rfl ?_
        obtain ⟨j61_2, hxj61_2, h⟩ := Option.bind_eq_some_iff.mp h
        refine gg_lI (Or.inl ⟨rfl, rfl⟩) aMi294 rfl (lI_of (sh11_a50 ha0) hxj61_2) ?_
        refine go_ops aMi294 2 _ (f1 := (66, ([(5, .int (r55_1.2 (a0 + 24) j61_2)), (0, .ref a0), (1, .int i1), (2, .int i2), (3, .int i3), (4, .int i4)], [.int (r55_1.2 (a0 + 24) j61_2)]))) rfl ?_
        refine gg_br (b := decide ((r55_1.2 (a0 + 24) j61_2) = 0)) (tg := 78) (off := 12) aMi294 rfl rfl rfl rfl (fun hb => ?_) (fun hb => ?_)
        · rw [if_pos (of_decide_eq_true hb)] at h
          refine go_le (lv1 := [(0, .ref a0), (1, .int i1), (3, .int i3), (4, .int i4), (5, .int (r55_1.2 (a0 + 24) j61_2))]) (aLe_of (show (List.map (fun q => q.1) ([(0, .ref a0), (1, .int i1), (3, .int i3), (4, .int i4), (5, .int (r55_1.2 (a0 + 24) j61_2))] : ALv)).Nodup from (by show ([0, 1, 3, 4, 5] : List Nat).Nodup; decide)) (aSubL_cons rfl (aSubL_cons rfl (aSubL_cons rfl (aSubL_cons rfl (aSubL_cons rfl aSubL_nil)))))) ?_
          exact Tf294_b78 hd k21 (fun p0 p1 p2 p3 p4 I => f294_b40 kad N Z k21 F p0 p1 p2 p3 p4 I) hk21 (fun p0 q0 p1 p2 p3 p4 I r hh => ih p0 q0 p1 p2 p3 p4 I r hh) a0 ha0 i1 i3 i4 (r55_1.2 (a0 + 24) j61_2) r55_1.2 _ h
        · rw [if_neg (of_decide_eq_false hb)] at h
          refine go_ops aMi294 5 _ (f1 := (75, ([(5, .int (r55_1.2 (a0 + 24) j61_2)), (0, .ref a0), (1, .int i1), (2, .int i2), (3, .int i3), (4, .int i4)], [.int ((i1 >>> ((r55_1.2 (a0 + 24) j61_2) &&& 31)) &&& (1 : Int32))]))) rfl ?_
          refine gg_br (b := decide (¬ ((i1 >>> ((r55_1.2 (a0 + 24) j61_2) &&& 31)) &&& (1 : Int32)) = 0)) (tg := 82) (off := 7) aMi294 rfl rfl rfl rfl (fun hb => ?_) (fun hb => ?_)
          · rw [if_pos (of_decide_eq_true hb)] at h
            refine go_ops aMi294 1 _ (f1 := (83, ([(5, .int (r55_1.2 (a0 + 24) j61_2)), (0, .ref a0), (1, .int i1), (2, .int i2), (3, .int i3), (4, .int i4)], [.int (0 : Int32)]))) rfl ?_
            refine go_le (lv1 := [(0, .ref a0), (1, .int i1), (3, .int i3), (4, .int i4), (5, .int (r55_1.2 (a0 + 24) j61_2))]) (aLe_of (show (List.map (fun q => q.1) ([(0, .ref a0), (1, .int i1), (3, .int i3), (4, .int i4), (5, .int (r55_1.2 (a0 + 24) j61_2))] : ALv)).Nodup from (by show ([0, 1, 3, 4, 5] : List Nat).Nodup; decide)) (aSubL_cons rfl (aSubL_cons rfl (aSubL_cons rfl (aSubL_cons rfl (aSubL_cons rfl aSubL_nil)))))) ?_
            exact Tf294_b83 hd k21 (fun p0 p1 p2 p3 p4 I => f294_b40 kad N Z k21 F p0 p1 p2 p3 p4 I) hk21 (fun p0 q0 p1 p2 p3 p4 I r hh => ih p0 q0 p1 p2 p3 p4 I r hh) a0 ha0 i1 i3 i4 (r55_1.2 (a0 + 24) j61_2) (0 : Int32) r55_1.2 _ h
          · rw [if_neg (of_decide_eq_false hb)] at h
            refine go_le (lv1 := [(0, .ref a0), (1, .int i1), (3, .int i3), (4, .int i4), (5, .int (r55_1.2 (a0 + 24) j61_2))]) (aLe_of (show (List.map (fun q => q.1) ([(0, .ref a0), (1, .int i1), (3, .int i3), (4, .int i4), (5, .int (r55_1.2 (a0 + 24) j61_2))] : ALv)).Nodup from (by show ([0, 1, 3, 4, 5] : List Nat).Nodup; decide)) (aSubL_cons rfl (aSubL_cons rfl (aSubL_cons rfl (aSubL_cons rfl (aSubL_cons rfl aSubL_nil)))))) ?_
            exact Tf294_b78 hd k21 (fun p0 p1 p2 p3 p4 I => f294_b40 kad N Z k21 F p0 p1 p2 p3 p4 I) hk21 (fun p0 q0 p1 p2 p3 p4 I r hh => ih p0 q0 p1 p2 p3 p4 I r hh) a0 ha0 i1 i3 i4 (r55_1.2 (a0 + 24) j61_2) r55_1.2 _ h
def f294_b149 (kad : Nat → Nat) (N : Nat) (Z : AZ) (a0 : Nat) (s0 : Int32) (I : AI) : Option (Int32 × AI) :=
  if s0 = 0 ∨ s0 = 1 then some (s0, I) else none
set_option maxRecDepth 20000 in
theorem Tf294_b149 {kad : Nat → Nat} {N : Nat} {Z : AZ} {d : Nat} {t : Option Nat × (Nat × Nat)} (hd : 3 ≤ d) : ∀ (a0 : Nat) (ha0 : sh11 kad Z a0) (s0 : Int32) (I : AI) (r : Int32 × AI), f294_b149 kad N Z a0 s0 I = some r → aGo kad d 294 (149, ([], [.int s0])) (aMem Z I, t) (qI Z t r) := by
  intro a0 ha0 s0 I r h
  unfold f294_b149 at h
  split at h
  · rename_i hz
    cases h
    exact go_ret aMi294 rfl (aRetZ hz) ⟨rfl, rfl⟩
  · cases h
def f294_b148 (kad : Nat → Nat) (N : Nat) (Z : AZ) (a0 : Nat) (I : AI) : Option (Int32 × AI) :=
  f294_b149 kad N Z a0 (0 : Int32) I
set_option maxRecDepth 20000 in
theorem Tf294_b148 {kad : Nat → Nat} {N : Nat} {Z : AZ} {d : Nat} {t : Option Nat × (Nat × Nat)} (hd : 3 ≤ d) : ∀ (a0 : Nat) (ha0 : sh11 kad Z a0) (I : AI) (r : Int32 × AI), f294_b148 kad N Z a0 I = some r → aGo kad d 294 (148, ([], [])) (aMem Z I, t) (qI Z t r) := by
  intro a0 ha0 I r h
  unfold f294_b148 at h
  refine go_ops aMi294 1 _ (f1 := (149, ([], [.int (0 : Int32)]))) rfl ?_
  exact Tf294_b149 hd a0 ha0 (0 : Int32) I _ h
def f294_b112 (kad : Nat → Nat) (N : Nat) (Z : AZ) (a0 : Nat) (i1 : Int32) (i2 : Int32) (I : AI) : Option (Int32 × AI) :=
  if i2 = 0 then
    f294_b148 kad N Z a0 I
  else
    (ixA 256 (32 : Int32)).bind fun j122_1 =>
    if ¬ (I (a0 + 24) j122_1) = (i1 &&& (65535 : Int32)) then
      f294_b148 kad N Z a0 I
    else
      (ixA 256 (33 : Int32)).bind fun j136_2 =>
      if ¬ (I (a0 + 24) j136_2) = ((i1.toUInt32 >>> ((16 : Int32).toUInt32 &&& Int32.toUInt32 31)).toInt32) then
        f294_b148 kad N Z a0 I
      else
        f294_b149 kad N Z a0 (1 : Int32) I
set_option maxRecDepth 20000 in
theorem Tf294_b112 {kad : Nat → Nat} {N : Nat} {Z : AZ} {d : Nat} {t : Option Nat × (Nat × Nat)} (hd : 3 ≤ d) : ∀ (a0 : Nat) (ha0 : sh11 kad Z a0) (i1 : Int32) (i2 : Int32) (I : AI) (r : Int32 × AI), f294_b112 kad N Z a0 i1 i2 I = some r → aGo kad d 294 (112, ([(0, .ref a0), (1, .int i1), (2, .int i2)], [])) (aMem Z I, t) (qI Z t r) := by
  intro a0 ha0 i1 i2 I r h
  unfold f294_b112 at h
  refine go_ops aMi294 1 _ (f1 := (113, ([(0, .ref a0), (1, .int i1), (2, .int i2)], [.int i2]))) rfl ?_
  refine gg_br (b := decide (i2 = 0)) (tg := 148) (off := 35) aMi294 rfl rfl rfl rfl (fun hb => ?_) (fun hb => ?_)
  · rw [if_pos (of_decide_eq_true hb)] at h
    refine go_le (lv1 := []) (aLe_of (show (List.map (fun q => q.1) ([] : ALv)).Nodup from (by show ([] : List Nat).Nodup; decide)) aSubL_nil) ?_
    exact Tf294_b148 hd a0 ha0 I _ h
  · rw [if_neg (of_decide_eq_false hb)] at h
    refine go_ops aMi294 1 _ (f1 := (117, ([(0, .ref a0), (1, .int i1), (2, .int i2)], [.ref a0]))) rfl ?_
    refine gg_gR (b := (a0 + 24)) aMi294 rfl rfl rfl (gR_of (sh11_z ha0) (sh11_r50 ha0)) ?_
    refine go_ops aMi294 1 _ (f1 := (122, ([(0, .ref a0), (1, .int i1), (2, .int i2)], [.int (32 : Int32), .ref (a0 + 24)]))) rfl ?_
    obtain ⟨j122_1, hxj122_1, h⟩ := Option.bind_eq_some_iff.mp h
    refine gg_lI (Or.inl ⟨rfl, rfl⟩) aMi294 rfl (lI_of (sh11_a50 ha0) hxj122_1) ?_
    refine go_ops aMi294 1 _ (f1 := (124, ([(0, .ref a0), (1, .int i1), (2, .int i2)], [.int i1, .int (I (a0 + 24) j122_1)]))) rfl ?_
    refine gg_kI (Or.inl ⟨rfl, rfl⟩) aMi294 rfl rfl ?_
    refine go_ops aMi294 1 _ (f1 := (127, ([(0, .ref a0), (1, .int i1), (2, .int i2)], [.int (i1 &&& (65535 : Int32)), .int (I (a0 + 24) j122_1)]))) rfl ?_
    refine gg_br (b := decide (¬ (I (a0 + 24) j122_1) = (i1 &&& (65535 : Int32)))) (tg := 148) (off := 21) aMi294 rfl rfl rfl rfl (fun hb => ?_) (fun hb => ?_)
    · rw [if_pos (of_decide_eq_true hb)] at h
      refine go_le (lv1 := []) (aLe_of (show (List.map (fun q => q.1) ([] : ALv)).Nodup from (by show ([] : List Nat).Nodup; decide)) aSubL_nil) ?_
      exact Tf294_b148 hd a0 ha0 I _ h
    · rw [if_neg (of_decide_eq_false hb)] at h
      refine go_ops aMi294 1 _ (f1 := (131, ([(0, .ref a0), (1, .int i1), (2, .int i2)], [.ref a0]))) rfl ?_
      refine gg_gR (b := (a0 + 24)) aMi294 rfl rfl rfl (gR_of (sh11_z ha0) (sh11_r50 ha0)) ?_
      refine go_ops aMi294 1 _ (f1 := (136, ([(0, .ref a0), (1, .int i1), (2, .int i2)], [.int (33 : Int32), .ref (a0 + 24)]))) rfl ?_
      obtain ⟨j136_2, hxj136_2, h⟩ := Option.bind_eq_some_iff.mp h
      refine gg_lI (Or.inl ⟨rfl, rfl⟩) aMi294 rfl (lI_of (sh11_a50 ha0) hxj136_2) ?_
      refine go_ops aMi294 3 _ (f1 := (141, ([(0, .ref a0), (1, .int i1), (2, .int i2)], [.int ((i1.toUInt32 >>> ((16 : Int32).toUInt32 &&& Int32.toUInt32 31)).toInt32), .int (I (a0 + 24) j136_2)]))) rfl ?_
      refine gg_br (b := decide (¬ (I (a0 + 24) j136_2) = ((i1.toUInt32 >>> ((16 : Int32).toUInt32 &&& Int32.toUInt32 31)).toInt32))) (tg := 148) (off := 7) aMi294 rfl rfl rfl rfl (fun hb => ?_) (fun hb => ?_)
      · rw [if_pos (of_decide_eq_true hb)] at h
        refine go_le (lv1 := []) (aLe_of (show (List.map (fun q => q.1) ([] : ALv)).Nodup from (by show ([] : List Nat).Nodup; decide)) aSubL_nil) ?_
        exact Tf294_b148 hd a0 ha0 I _ h
      · rw [if_neg (of_decide_eq_false hb)] at h
        refine go_ops aMi294 2 _ (f1 := (149, ([(0, .ref a0), (1, .int i1), (2, .int i2)], [.int (1 : Int32)]))) rfl ?_
        refine go_le (lv1 := []) (aLe_of (show (List.map (fun q => q.1) ([] : ALv)).Nodup from (by show ([] : List Nat).Nodup; decide)) aSubL_nil) ?_
        exact Tf294_b149 hd a0 ha0 (1 : Int32) I _ h
def f294_b21 (kad : Nat → Nat) (N : Nat) (Z : AZ) : Nat → Nat → Int32 → Int32 → Int32 → AI → Option (Int32 × AI)
  | 0, _, _, _, _, _ => none
  | F + 1, a0, i1, i2, i3, I =>
    if (6 : Int32) ≤ i3 then
      f294_b112 kad N Z a0 i1 i2 I
    else
      if i2 = 0 then
        f294_b112 kad N Z a0 i1 i2 I
      else
        (f293 kad N Z a0 i3 I).bind fun r33_1 =>
        f294_b40 kad N Z (fun p0 p1 p2 p3 I => f294_b21 kad N Z F p0 p1 p2 p3 I) N a0 i1 r33_1.1 i3 (2 : Int32) r33_1.2
set_option maxRecDepth 20000 in
theorem Tf294_b21 {kad : Nat → Nat} {N : Nat} {Z : AZ} {d : Nat} {t : Option Nat × (Nat × Nat)} (hd : 3 ≤ d) : ∀ (F : Nat) (a0 : Nat) (ha0 : sh11 kad Z a0) (i1 : Int32) (i2 : Int32) (i3 : Int32) (I : AI) (r : Int32 × AI), f294_b21 kad N Z F a0 i1 i2 i3 I = some r → aGo kad d 294 (21, ([(0, .ref a0), (1, .int i1), (2, .int i2), (3, .int i3)], [])) (aMem Z I, t) (qI Z t r) := by
  intro F
  induction F with
  | zero => intro a0 ha0 i1 i2 i3 I r h; cases h
  | succ F ih =>
    intro a0 ha0 i1 i2 i3 I r h
    unfold f294_b21 at h
    refine go_ops aMi294 2 _ (f1 := (24, ([(0, .ref a0), (1, .int i1), (2, .int i2), (3, .int i3)], [.int (6 : Int32), .int i3]))) rfl ?_
    refine gg_br (b := decide ((6 : Int32) ≤ i3)) (tg := 112) (off := 88) aMi294 rfl rfl rfl rfl (fun hb => ?_) (fun hb => ?_)
    · rw [if_pos (of_decide_eq_true hb)] at h
      refine go_le (lv1 := [(0, .ref a0), (1, .int i1), (2, .int i2)]) (aLe_of (show (List.map (fun q => q.1) ([(0, .ref a0), (1, .int i1), (2, .int i2)] : ALv)).Nodup from (by show ([0, 1, 2] : List Nat).Nodup; decide)) (aSubL_cons rfl (aSubL_cons rfl (aSubL_cons rfl aSubL_nil)))) ?_
      exact Tf294_b112 hd a0 ha0 i1 i2 I _ h
    · rw [if_neg (of_decide_eq_false hb)] at h
      refine go_ops aMi294 1 _ (f1 := (28, ([(0, .ref a0), (1, .int i1), (2, .int i2), (3, .int i3)], [.int i2]))) rfl ?_
      refine gg_br (b := decide (i2 = 0)) (tg := 112) (off := 84) aMi294 rfl rfl rfl rfl (fun hb => ?_) (fun hb => ?_)
      · rw [if_pos (of_decide_eq_true hb)] at h
        refine go_le (lv1 := [(0, .ref a0), (1, .int i1), (2, .int i2)]) (aLe_of (show (List.map (fun q => q.1) ([(0, .ref a0), (1, .int i1), (2, .int i2)] : ALv)).Nodup from (by show ([0, 1, 2] : List Nat).Nodup; decide)) (aSubL_cons rfl (aSubL_cons rfl (aSubL_cons rfl aSubL_nil)))) ?_
        exact Tf294_b112 hd a0 ha0 i1 i2 I _ h
      · rw [if_neg (of_decide_eq_false hb)] at h
        refine go_ops aMi294 2 _ (f1 := (33, ([(0, .ref a0), (1, .int i1), (2, .int i2), (3, .int i3)], [.int i3, .ref a0]))) rfl ?_
        obtain ⟨r33_1, hxr33_1, h⟩ := Option.bind_eq_some_iff.mp h
        refine gg_cv (as := [.int i3]) (r := []) aMi294 rfl rfl rfl aMi293 (Nat.le_of_ble_eq_true rfl) rfl (Nat.le_of_ble_eq_true rfl) (Nat.le_of_ble_eq_true rfl) (by omega) (isK_of (sh11_z ha0)) (Tf293 (by omega) a0 ha0 i3 I _ hxr33_1) ?_
        show aGo kad d 294 (36, ([(0, .ref a0), (1, .int i1), (2, .int i2), (3, .int i3)], [.int r33_1.1])) (aMem Z r33_1.2, t) _
        refine go_ops aMi294 3 _ (f1 := (40, ([(4, .int (2 : Int32)), (2, .int r33_1.1), (0, .ref a0), (1, .int i1), (3, .int i3)], []))) rfl ?_
        refine go_le (lv1 := [(0, .ref a0), (1, .int i1), (2, .int r33_1.1), (3, .int i3), (4, .int (2 : Int32))]) (aLe_of (show (List.map (fun q => q.1) ([(0, .ref a0), (1, .int i1), (2, .int r33_1.1), (3, .int i3), (4, .int (2 : Int32))] : ALv)).Nodup from (by show ([0, 1, 2, 3, 4] : List Nat).Nodup; decide)) (aSubL_cons rfl (aSubL_cons rfl (aSubL_cons rfl (aSubL_cons rfl (aSubL_cons rfl aSubL_nil)))))) ?_
        exact Tf294_b40 hd (fun p0 p1 p2 p3 I => f294_b21 kad N Z F p0 p1 p2 p3 I) (fun p0 q0 p1 p2 p3 I r hh => ih p0 q0 p1 p2 p3 I r hh) N a0 ha0 i1 r33_1.1 i3 (2 : Int32) r33_1.2 _ h
def f294_b18 (kad : Nat → Nat) (N : Nat) (Z : AZ) (a0 : Nat) (i1 : Int32) (s0 : Int32) (I : AI) : Option (Int32 × AI) :=
  f294_b21 kad N Z N a0 i1 s0 (0 : Int32) I
set_option maxRecDepth 20000 in
theorem Tf294_b18 {kad : Nat → Nat} {N : Nat} {Z : AZ} {d : Nat} {t : Option Nat × (Nat × Nat)} (hd : 3 ≤ d) : ∀ (a0 : Nat) (ha0 : sh11 kad Z a0) (i1 : Int32) (s0 : Int32) (I : AI) (r : Int32 × AI), f294_b18 kad N Z a0 i1 s0 I = some r → aGo kad d 294 (18, ([(0, .ref a0), (1, .int i1)], [.int s0])) (aMem Z I, t) (qI Z t r) := by
  intro a0 ha0 i1 s0 I r h
  unfold f294_b18 at h
  refine go_ops aMi294 3 _ (f1 := (21, ([(3, .int (0 : Int32)), (2, .int s0), (0, .ref a0), (1, .int i1)], []))) rfl ?_
  refine go_le (lv1 := [(0, .ref a0), (1, .int i1), (2, .int s0), (3, .int (0 : Int32))]) (aLe_of (show (List.map (fun q => q.1) ([(0, .ref a0), (1, .int i1), (2, .int s0), (3, .int (0 : Int32))] : ALv)).Nodup from (by show ([0, 1, 2, 3] : List Nat).Nodup; decide)) (aSubL_cons rfl (aSubL_cons rfl (aSubL_cons rfl (aSubL_cons rfl aSubL_nil))))) ?_
  exact Tf294_b21 hd N a0 ha0 i1 s0 (0 : Int32) I _ h
def f294 (kad : Nat → Nat) (N : Nat) (Z : AZ) (a0 : Nat) (I : AI) : Option (Int32 × AI) :=
  (ixA 256 (0 : Int32)).bind fun j9_1 =>
  if ¬ (I (a0 + 24) j9_1) = 0 then
    f294_b18 kad N Z a0 (255 : Int32) (0 : Int32) I
  else
    f294_b18 kad N Z a0 (255 : Int32) (1 : Int32) I
set_option maxRecDepth 20000 in
theorem Tf294 {kad : Nat → Nat} {N : Nat} {Z : AZ} {d : Nat} {t : Option Nat × (Nat × Nat)} (hd : 3 ≤ d) : ∀ (a0 : Nat) (ha0 : sh11 kad Z a0) (I : AI) (r : Int32 × AI), f294 kad N Z a0 I = some r → aGo kad d 294 (0, ([(0, .ref a0)], [])) (aMem Z I, t) (qI Z t r) := by
  intro a0 ha0 I r h
  unfold f294 at h
  refine go_ops aMi294 3 _ (f1 := (5, ([(1, .int (255 : Int32)), (0, .ref a0)], [.ref a0]))) rfl ?_
  refine gg_gR (b := (a0 + 24)) aMi294 rfl rfl rfl (gR_of (sh11_z ha0) (sh11_r50 ha0)) ?_
  refine go_ops aMi294 1 _ (f1 := (9, ([(1, .int (255 : Int32)), (0, .ref a0)], [.int (0 : Int32), .ref (a0 + 24)]))) rfl ?_
  obtain ⟨j9_1, hxj9_1, h⟩ := Option.bind_eq_some_iff.mp h
  refine gg_lI (Or.inl ⟨rfl, rfl⟩) aMi294 rfl (lI_of (sh11_a50 ha0) hxj9_1) ?_
  refine gg_br (b := decide (¬ (I (a0 + 24) j9_1) = 0)) (tg := 17) (off := 7) aMi294 rfl rfl rfl rfl (fun hb => ?_) (fun hb => ?_)
  · rw [if_pos (of_decide_eq_true hb)] at h
    refine go_ops aMi294 1 _ (f1 := (18, ([(1, .int (255 : Int32)), (0, .ref a0)], [.int (0 : Int32)]))) rfl ?_
    refine go_le (lv1 := [(0, .ref a0), (1, .int (255 : Int32))]) (aLe_of (show (List.map (fun q => q.1) ([(0, .ref a0), (1, .int (255 : Int32))] : ALv)).Nodup from (by show ([0, 1] : List Nat).Nodup; decide)) (aSubL_cons rfl (aSubL_cons rfl aSubL_nil))) ?_
    exact Tf294_b18 hd a0 ha0 (255 : Int32) (0 : Int32) I _ h
  · rw [if_neg (of_decide_eq_false hb)] at h
    refine go_ops aMi294 2 _ (f1 := (18, ([(1, .int (255 : Int32)), (0, .ref a0)], [.int (1 : Int32)]))) rfl ?_
    refine go_le (lv1 := [(0, .ref a0), (1, .int (255 : Int32))]) (aLe_of (show (List.map (fun q => q.1) ([(0, .ref a0), (1, .int (255 : Int32))] : ALv)).Nodup from (by show ([0, 1] : List Nat).Nodup; decide)) (aSubL_cons rfl (aSubL_cons rfl aSubL_nil))) ?_
    exact Tf294_b18 hd a0 ha0 (255 : Int32) (1 : Int32) I _ h
-- KernelGymModel.isWhole ()Z
def f295 (kad : Nat → Nat) (N : Nat) (Z : AZ) (a0 : Nat) (I : AI) : Option (Int32 × AI) :=
  (wI I a0 0 (0 : Int32)).bind fun I2_1 =>
  (f294 kad N Z a0 I2_1).bind fun r6_2 =>
  if r6_2.1 = 0 ∨ r6_2.1 = 1 then some (r6_2.1, r6_2.2) else none
set_option maxRecDepth 20000 in
theorem Tf295 {kad : Nat → Nat} {N : Nat} {Z : AZ} {d : Nat} {t : Option Nat × (Nat × Nat)} (hd : 4 ≤ d) : ∀ (a0 : Nat) (ha0 : sh11 kad Z a0) (I : AI) (r : Int32 × AI), f295 kad N Z a0 I = some r → aGo kad d 295 (0, ([(0, .ref a0)], [])) (aMem Z I, t) (qI Z t r) := by
  intro a0 ha0 I r h
  unfold f295 at h
  refine go_ops aMi295 2 _ (f1 := (2, ([(0, .ref a0)], [.int (0 : Int32), .ref a0]))) rfl ?_
  obtain ⟨I2_1, hxI2_1, h⟩ := Option.bind_eq_some_iff.mp h
  refine gg_pI aMi295 rfl rfl rfl rfl (by decide) (pI_of (sh11_z ha0) hxI2_1) ?_
  refine go_ops aMi295 1 _ (f1 := (6, ([(0, .ref a0)], [.ref a0]))) rfl ?_
  obtain ⟨r6_2, hxr6_2, h⟩ := Option.bind_eq_some_iff.mp h
  refine gg_cv (as := []) (r := []) aMi295 rfl rfl rfl aMi294 (Nat.le_of_ble_eq_true rfl) rfl (Nat.le_of_ble_eq_true rfl) (Nat.le_of_ble_eq_true rfl) (by omega) (isK_of (sh11_z ha0)) (Tf294 (by omega) a0 ha0 I2_1 _ hxr6_2) ?_
  show aGo kad d 295 (9, ([(0, .ref a0)], [.int r6_2.1])) (aMem Z r6_2.2, t) _
  split at h
  · rename_i hz
    cases h
    exact go_ret aMi295 rfl (aRetZ hz) ⟨rfl, rfl⟩
  · cases h
-- KernelGymModel.testKey (I)I
def f296_b29 (kad : Nat → Nat) (N : Nat) (Z : AZ) (a0 : Nat) (i1 : Int32) (s0 : Int32) (I : AI) : Option (Int32 × AI) :=
  (f185 kad N Z a0 s0 I).bind fun r29_1 =>
  if ¬ r29_1.1 = 0 then
    (ixA 6 ((r29_1.2) a0 58)).bind fun j46_3 =>
    (wI r29_1.2 (a0 + 28) j46_3 i1).bind fun I46_2 =>
    (wI I46_2 a0 58 ((I46_2 a0 58) + (1 : Int32))).bind fun I54_4 =>
    some ((I54_4 a0 58), I54_4)
  else
    some ((0 : Int32), r29_1.2)
set_option maxRecDepth 20000 in
theorem Tf296_b29 {kad : Nat → Nat} {N : Nat} {Z : AZ} {d : Nat} {t : Option Nat × (Nat × Nat)} (hd : 1 ≤ d) : ∀ (a0 : Nat) (ha0 : sh11 kad Z a0) (i1 : Int32) (s0 : Int32) (I : AI) (r : Int32 × AI), f296_b29 kad N Z a0 i1 s0 I = some r → aGo kad d 296 (29, ([(0, .ref a0), (1, .int i1)], [.int s0, .ref a0])) (aMem Z I, t) (qI Z t r) := by
  intro a0 ha0 i1 s0 I r h
  unfold f296_b29 at h
  obtain ⟨r29_1, hxr29_1, h⟩ := Option.bind_eq_some_iff.mp h
  refine gg_cv (as := [.int s0]) (r := []) aMi296 rfl rfl rfl aMi185 (Nat.le_of_ble_eq_true rfl) rfl (Nat.le_of_ble_eq_true rfl) (Nat.le_of_ble_eq_true rfl) (by omega) (isK_of (sh11_z ha0)) (Tf185 (by omega) a0 ha0 s0 I _ hxr29_1) ?_
  show aGo kad d 296 (32, ([(0, .ref a0), (1, .int i1)], [.int r29_1.1])) (aMem Z r29_1.2, t) _
  refine gg_br (b := decide (¬ r29_1.1 = 0)) (tg := 37) (off := 5) aMi296 rfl rfl rfl rfl (fun hb => ?_) (fun hb => ?_)
  · rw [if_pos (of_decide_eq_true hb)] at h
    refine go_ops aMi296 1 _ (f1 := (38, ([(0, .ref a0), (1, .int i1)], [.ref a0]))) rfl ?_
    refine gg_gR (b := (a0 + 28)) aMi296 rfl rfl rfl (gR_of (sh11_z ha0) (sh11_r56 ha0)) ?_
    refine go_ops aMi296 1 _ (f1 := (42, ([(0, .ref a0), (1, .int i1)], [.ref a0, .ref (a0 + 28)]))) rfl ?_
    refine gg_gI aMi296 rfl rfl rfl (gI_of (sh11_z ha0)) ?_
    refine go_ops aMi296 1 _ (f1 := (46, ([(0, .ref a0), (1, .int i1)], [.int i1, .int ((r29_1.2) a0 58), .ref (a0 + 28)]))) rfl ?_
    obtain ⟨j46_3, hxj46_3, h⟩ := Option.bind_eq_some_iff.mp h
    obtain ⟨I46_2, hxI46_2, h⟩ := Option.bind_eq_some_iff.mp h
    refine gg_sI (Or.inl ⟨rfl, rfl⟩) aMi296 rfl (sI_of (sh11_a56 ha0) hxj46_3 hxI46_2) ?_
    refine go_ops aMi296 2 _ (f1 := (49, ([(0, .ref a0), (1, .int i1)], [.ref a0, .ref a0]))) rfl ?_
    refine gg_gI aMi296 rfl rfl rfl (gI_of (sh11_z ha0)) ?_
    refine go_ops aMi296 2 _ (f1 := (54, ([(0, .ref a0), (1, .int i1)], [.int ((I46_2 a0 58) + (1 : Int32)), .ref a0]))) rfl ?_
    obtain ⟨I54_4, hxI54_4, h⟩ := Option.bind_eq_some_iff.mp h
    refine gg_pI aMi296 rfl rfl rfl rfl (by decide) (pI_of (sh11_z ha0) hxI54_4) ?_
    refine go_ops aMi296 1 _ (f1 := (58, ([(0, .ref a0), (1, .int i1)], [.ref a0]))) rfl ?_
    refine gg_gI aMi296 rfl rfl rfl (gI_of (sh11_z ha0)) ?_
    cases h
    exact go_ret aMi296 rfl aRetI ⟨rfl, rfl⟩
  · rw [if_neg (of_decide_eq_false hb)] at h
    refine go_ops aMi296 1 _ (f1 := (36, ([(0, .ref a0), (1, .int i1)], [.int (0 : Int32)]))) rfl ?_
    cases h
    exact go_ret aMi296 rfl aRetI ⟨rfl, rfl⟩
def f296 (kad : Nat → Nat) (N : Nat) (Z : AZ) (a0 : Nat) (i1 : Int32) (I : AI) : Option (Int32 × AI) :=
  (f186 kad N Z i1 (0 : Int32) (65535 : Int32) I).bind fun r5_1 =>
  if ¬ r5_1.1 = 0 then
    if ¬ ((r5_1.2) a0 58) = (6 : Int32) then
      f296_b29 kad N Z a0 i1 (0 : Int32) r5_1.2
    else
      f296_b29 kad N Z a0 i1 (2 : Int32) r5_1.2
  else
    f296_b29 kad N Z a0 i1 (1 : Int32) r5_1.2
set_option maxRecDepth 20000 in
theorem Tf296 {kad : Nat → Nat} {N : Nat} {Z : AZ} {d : Nat} {t : Option Nat × (Nat × Nat)} (hd : 1 ≤ d) : ∀ (a0 : Nat) (ha0 : sh11 kad Z a0) (i1 : Int32) (I : AI) (r : Int32 × AI), f296 kad N Z a0 i1 I = some r → aGo kad d 296 (0, ([(0, .ref a0), (1, .int i1)], [])) (aMem Z I, t) (qI Z t r) := by
  intro a0 ha0 i1 I r h
  unfold f296 at h
  refine go_ops aMi296 3 _ (f1 := (3, ([(0, .ref a0), (1, .int i1)], [.int (0 : Int32), .int i1, .ref a0]))) rfl ?_
  refine gg_kI (Or.inl ⟨rfl, rfl⟩) aMi296 rfl rfl ?_
  obtain ⟨r5_1, hxr5_1, h⟩ := Option.bind_eq_some_iff.mp h
  refine gg_cs (as := [.int i1, .int (0 : Int32), .int (65535 : Int32)]) (r := [.ref a0]) aMi296 rfl rfl rfl aMi186 rfl (Nat.le_of_ble_eq_true rfl) (Nat.le_of_ble_eq_true rfl) (by omega) (Tf186 (by omega) i1 (0 : Int32) (65535 : Int32) I _ hxr5_1) ?_
  show aGo kad d 296 (8, ([(0, .ref a0), (1, .int i1)], [.int r5_1.1, .ref a0])) (aMem Z r5_1.2, t) _
  refine gg_br (b := decide (¬ r5_1.1 = 0)) (tg := 15) (off := 7) aMi296 rfl rfl rfl rfl (fun hb => ?_) (fun hb => ?_)
  · rw [if_pos (of_decide_eq_true hb)] at h
    refine go_ops aMi296 1 _ (f1 := (16, ([(0, .ref a0), (1, .int i1)], [.ref a0, .ref a0]))) rfl ?_
    refine gg_gI aMi296 rfl rfl rfl (gI_of (sh11_z ha0)) ?_
    refine go_ops aMi296 1 _ (f1 := (21, ([(0, .ref a0), (1, .int i1)], [.int (6 : Int32), .int ((r5_1.2) a0 58), .ref a0]))) rfl ?_
    refine gg_br (b := decide (¬ ((r5_1.2) a0 58) = (6 : Int32))) (tg := 28) (off := 7) aMi296 rfl rfl rfl rfl (fun hb => ?_) (fun hb => ?_)
    · rw [if_pos (of_decide_eq_true hb)] at h
      refine go_ops aMi296 1 _ (f1 := (29, ([(0, .ref a0), (1, .int i1)], [.int (0 : Int32), .ref a0]))) rfl ?_
      exact Tf296_b29 hd a0 ha0 i1 (0 : Int32) r5_1.2 _ h
    · rw [if_neg (of_decide_eq_false hb)] at h
      refine go_ops aMi296 2 _ (f1 := (29, ([(0, .ref a0), (1, .int i1)], [.int (2 : Int32), .ref a0]))) rfl ?_
      exact Tf296_b29 hd a0 ha0 i1 (2 : Int32) r5_1.2 _ h
  · rw [if_neg (of_decide_eq_false hb)] at h
    refine go_ops aMi296 2 _ (f1 := (29, ([(0, .ref a0), (1, .int i1)], [.int (1 : Int32), .ref a0]))) rfl ?_
    exact Tf296_b29 hd a0 ha0 i1 (1 : Int32) r5_1.2 _ h
-- KernelGymModel.testWord (I)I
def f297_b29 (kad : Nat → Nat) (N : Nat) (Z : AZ) (a0 : Nat) (i1 : Int32) (s0 : Int32) (I : AI) : Option (Int32 × AI) :=
  (f185 kad N Z a0 s0 I).bind fun r29_1 =>
  if ¬ r29_1.1 = 0 then
    (ixA 6 ((r29_1.2) a0 59)).bind fun j46_3 =>
    (wI r29_1.2 (a0 + 29) j46_3 i1).bind fun I46_2 =>
    (wI I46_2 a0 59 ((I46_2 a0 59) + (1 : Int32))).bind fun I54_4 =>
    some ((I54_4 a0 59), I54_4)
  else
    some ((0 : Int32), r29_1.2)
set_option maxRecDepth 20000 in
theorem Tf297_b29 {kad : Nat → Nat} {N : Nat} {Z : AZ} {d : Nat} {t : Option Nat × (Nat × Nat)} (hd : 1 ≤ d) : ∀ (a0 : Nat) (ha0 : sh11 kad Z a0) (i1 : Int32) (s0 : Int32) (I : AI) (r : Int32 × AI), f297_b29 kad N Z a0 i1 s0 I = some r → aGo kad d 297 (29, ([(0, .ref a0), (1, .int i1)], [.int s0, .ref a0])) (aMem Z I, t) (qI Z t r) := by
  intro a0 ha0 i1 s0 I r h
  unfold f297_b29 at h
  obtain ⟨r29_1, hxr29_1, h⟩ := Option.bind_eq_some_iff.mp h
  refine gg_cv (as := [.int s0]) (r := []) aMi297 rfl rfl rfl aMi185 (Nat.le_of_ble_eq_true rfl) rfl (Nat.le_of_ble_eq_true rfl) (Nat.le_of_ble_eq_true rfl) (by omega) (isK_of (sh11_z ha0)) (Tf185 (by omega) a0 ha0 s0 I _ hxr29_1) ?_
  show aGo kad d 297 (32, ([(0, .ref a0), (1, .int i1)], [.int r29_1.1])) (aMem Z r29_1.2, t) _
  refine gg_br (b := decide (¬ r29_1.1 = 0)) (tg := 37) (off := 5) aMi297 rfl rfl rfl rfl (fun hb => ?_) (fun hb => ?_)
  · rw [if_pos (of_decide_eq_true hb)] at h
    refine go_ops aMi297 1 _ (f1 := (38, ([(0, .ref a0), (1, .int i1)], [.ref a0]))) rfl ?_
    refine gg_gR (b := (a0 + 29)) aMi297 rfl rfl rfl (gR_of (sh11_z ha0) (sh11_r57 ha0)) ?_
    refine go_ops aMi297 1 _ (f1 := (42, ([(0, .ref a0), (1, .int i1)], [.ref a0, .ref (a0 + 29)]))) rfl ?_
    refine gg_gI aMi297 rfl rfl rfl (gI_of (sh11_z ha0)) ?_
    refine go_ops aMi297 1 _ (f1 := (46, ([(0, .ref a0), (1, .int i1)], [.int i1, .int ((r29_1.2) a0 59), .ref (a0 + 29)]))) rfl ?_
    obtain ⟨j46_3, hxj46_3, h⟩ := Option.bind_eq_some_iff.mp h
    obtain ⟨I46_2, hxI46_2, h⟩ := Option.bind_eq_some_iff.mp h
    refine gg_sI (Or.inl ⟨rfl, rfl⟩) aMi297 rfl (sI_of (sh11_a57 ha0) hxj46_3 hxI46_2) ?_
    refine go_ops aMi297 2 _ (f1 := (49, ([(0, .ref a0), (1, .int i1)], [.ref a0, .ref a0]))) rfl ?_
    refine gg_gI aMi297 rfl rfl rfl (gI_of (sh11_z ha0)) ?_
    refine go_ops aMi297 2 _ (f1 := (54, ([(0, .ref a0), (1, .int i1)], [.int ((I46_2 a0 59) + (1 : Int32)), .ref a0]))) rfl ?_
    obtain ⟨I54_4, hxI54_4, h⟩ := Option.bind_eq_some_iff.mp h
    refine gg_pI aMi297 rfl rfl rfl rfl (by decide) (pI_of (sh11_z ha0) hxI54_4) ?_
    refine go_ops aMi297 1 _ (f1 := (58, ([(0, .ref a0), (1, .int i1)], [.ref a0]))) rfl ?_
    refine gg_gI aMi297 rfl rfl rfl (gI_of (sh11_z ha0)) ?_
    cases h
    exact go_ret aMi297 rfl aRetI ⟨rfl, rfl⟩
  · rw [if_neg (of_decide_eq_false hb)] at h
    refine go_ops aMi297 1 _ (f1 := (36, ([(0, .ref a0), (1, .int i1)], [.int (0 : Int32)]))) rfl ?_
    cases h
    exact go_ret aMi297 rfl aRetI ⟨rfl, rfl⟩
def f297 (kad : Nat → Nat) (N : Nat) (Z : AZ) (a0 : Nat) (i1 : Int32) (I : AI) : Option (Int32 × AI) :=
  (f186 kad N Z i1 (0 : Int32) (65535 : Int32) I).bind fun r5_1 =>
  if ¬ r5_1.1 = 0 then
    if ¬ ((r5_1.2) a0 59) = (6 : Int32) then
      f297_b29 kad N Z a0 i1 (0 : Int32) r5_1.2
    else
      f297_b29 kad N Z a0 i1 (2 : Int32) r5_1.2
  else
    f297_b29 kad N Z a0 i1 (1 : Int32) r5_1.2
set_option maxRecDepth 20000 in
theorem Tf297 {kad : Nat → Nat} {N : Nat} {Z : AZ} {d : Nat} {t : Option Nat × (Nat × Nat)} (hd : 1 ≤ d) : ∀ (a0 : Nat) (ha0 : sh11 kad Z a0) (i1 : Int32) (I : AI) (r : Int32 × AI), f297 kad N Z a0 i1 I = some r → aGo kad d 297 (0, ([(0, .ref a0), (1, .int i1)], [])) (aMem Z I, t) (qI Z t r) := by
  intro a0 ha0 i1 I r h
  unfold f297 at h
  refine go_ops aMi297 3 _ (f1 := (3, ([(0, .ref a0), (1, .int i1)], [.int (0 : Int32), .int i1, .ref a0]))) rfl ?_
  refine gg_kI (Or.inl ⟨rfl, rfl⟩) aMi297 rfl rfl ?_
  obtain ⟨r5_1, hxr5_1, h⟩ := Option.bind_eq_some_iff.mp h
  refine gg_cs (as := [.int i1, .int (0 : Int32), .int (65535 : Int32)]) (r := [.ref a0]) aMi297 rfl rfl rfl aMi186 rfl (Nat.le_of_ble_eq_true rfl) (Nat.le_of_ble_eq_true rfl) (by omega) (Tf186 (by omega) i1 (0 : Int32) (65535 : Int32) I _ hxr5_1) ?_
  show aGo kad d 297 (8, ([(0, .ref a0), (1, .int i1)], [.int r5_1.1, .ref a0])) (aMem Z r5_1.2, t) _
  refine gg_br (b := decide (¬ r5_1.1 = 0)) (tg := 15) (off := 7) aMi297 rfl rfl rfl rfl (fun hb => ?_) (fun hb => ?_)
  · rw [if_pos (of_decide_eq_true hb)] at h
    refine go_ops aMi297 1 _ (f1 := (16, ([(0, .ref a0), (1, .int i1)], [.ref a0, .ref a0]))) rfl ?_
    refine gg_gI aMi297 rfl rfl rfl (gI_of (sh11_z ha0)) ?_
    refine go_ops aMi297 1 _ (f1 := (21, ([(0, .ref a0), (1, .int i1)], [.int (6 : Int32), .int ((r5_1.2) a0 59), .ref a0]))) rfl ?_
    refine gg_br (b := decide (¬ ((r5_1.2) a0 59) = (6 : Int32))) (tg := 28) (off := 7) aMi297 rfl rfl rfl rfl (fun hb => ?_) (fun hb => ?_)
    · rw [if_pos (of_decide_eq_true hb)] at h
      refine go_ops aMi297 1 _ (f1 := (29, ([(0, .ref a0), (1, .int i1)], [.int (0 : Int32), .ref a0]))) rfl ?_
      exact Tf297_b29 hd a0 ha0 i1 (0 : Int32) r5_1.2 _ h
    · rw [if_neg (of_decide_eq_false hb)] at h
      refine go_ops aMi297 2 _ (f1 := (29, ([(0, .ref a0), (1, .int i1)], [.int (2 : Int32), .ref a0]))) rfl ?_
      exact Tf297_b29 hd a0 ha0 i1 (2 : Int32) r5_1.2 _ h
  · rw [if_neg (of_decide_eq_false hb)] at h
    refine go_ops aMi297 2 _ (f1 := (29, ([(0, .ref a0), (1, .int i1)], [.int (1 : Int32), .ref a0]))) rfl ?_
    exact Tf297_b29 hd a0 ha0 i1 (1 : Int32) r5_1.2 _ h
-- KernelGymModel.addTest (IIII)I
def f298_b161 (kad : Nat → Nat) (N : Nat) (Z : AZ) : Nat → Nat → Int32 → AI → Option (Int32 × AI)
  | 0, _, _, _ => none
  | F + 1, a0, i6, I =>
    if (6 : Int32) ≤ i6 then
      (wI I a0 58 (0 : Int32)).bind fun I220_1 =>
      (wI I220_1 a0 59 (0 : Int32)).bind fun I225_2 =>
      (wI I225_2 a0 60 ((I225_2 a0 60) + (1 : Int32))).bind fun I235_3 =>
      some (((I235_3 a0 60) - (1 : Int32)), I235_3)
    else
      (ixA 6 i6).bind fun j188_4 =>
      (ixA 30 (((6 : Int32) * (I a0 60)) + i6)).bind fun j189_6 =>
      (wI I (a0 + 30) j189_6 (I (a0 + 28) j188_4)).bind fun I189_5 =>
      (ixA 6 i6).bind fun j210_7 =>
      (ixA 30 (((6 : Int32) * (I189_5 a0 60)) + i6)).bind fun j211_9 =>
      (wI I189_5 (a0 + 32) j211_9 (I189_5 (a0 + 29) j210_7)).bind fun I211_8 =>
      f298_b161 kad N Z F a0 (i6 + (1 : Int32)) I211_8
set_option maxRecDepth 20000 in
theorem Tf298_b161 {kad : Nat → Nat} {N : Nat} {Z : AZ} {d : Nat} {t : Option Nat × (Nat × Nat)} (hd : 1 ≤ d) : ∀ (F : Nat) (a0 : Nat) (ha0 : sh11 kad Z a0) (i6 : Int32) (I : AI) (r : Int32 × AI), f298_b161 kad N Z F a0 i6 I = some r → aGo kad d 298 (161, ([(0, .ref a0), (6, .int i6)], [])) (aMem Z I, t) (qI Z t r) := by
  intro F
  induction F with
  | zero => intro a0 ha0 i6 I r h; cases h
  | succ F ih =>
    intro a0 ha0 i6 I r h
    unfold f298_b161 at h
    refine go_ops aMi298 2 _ (f1 := (165, ([(0, .ref a0), (6, .int i6)], [.int (6 : Int32), .int i6]))) rfl ?_
    refine gg_br (b := decide ((6 : Int32) ≤ i6)) (tg := 218) (off := 53) aMi298 rfl rfl rfl rfl (fun hb => ?_) (fun hb => ?_)
    · rw [if_pos (of_decide_eq_true hb)] at h
      refine go_ops aMi298 2 _ (f1 := (220, ([(0, .ref a0), (6, .int i6)], [.int (0 : Int32), .ref a0]))) rfl ?_
      obtain ⟨I220_1, hxI220_1, h⟩ := Option.bind_eq_some_iff.mp h
      refine gg_pI aMi298 rfl rfl rfl rfl (by decide) (pI_of (sh11_z ha0) hxI220_1) ?_
      refine go_ops aMi298 2 _ (f1 := (225, ([(0, .ref a0), (6, .int i6)], [.int (0 : Int32), .ref a0]))) rfl ?_
      obtain ⟨I225_2, hxI225_2, h⟩ := Option.bind_eq_some_iff.mp h
      refine gg_pI aMi298 rfl rfl rfl rfl (by decide) (pI_of (sh11_z ha0) hxI225_2) ?_
      refine go_ops aMi298 2 _ (f1 := (230, ([(0, .ref a0), (6, .int i6)], [.ref a0, .ref a0]))) rfl ?_
      refine gg_gI aMi298 rfl rfl rfl (gI_of (sh11_z ha0)) ?_
      refine go_ops aMi298 2 _ (f1 := (235, ([(0, .ref a0), (6, .int i6)], [.int ((I225_2 a0 60) + (1 : Int32)), .ref a0]))) rfl ?_
      obtain ⟨I235_3, hxI235_3, h⟩ := Option.bind_eq_some_iff.mp h
      refine gg_pI aMi298 rfl rfl rfl rfl (by decide) (pI_of (sh11_z ha0) hxI235_3) ?_
      refine go_ops aMi298 1 _ (f1 := (239, ([(0, .ref a0), (6, .int i6)], [.ref a0]))) rfl ?_
      refine gg_gI aMi298 rfl rfl rfl (gI_of (sh11_z ha0)) ?_
      refine go_ops aMi298 2 _ (f1 := (244, ([(0, .ref a0), (6, .int i6)], [.int ((I235_3 a0 60) - (1 : Int32))]))) rfl ?_
      cases h
      exact go_ret aMi298 rfl aRetI ⟨rfl, rfl⟩
    · rw [if_neg (of_decide_eq_false hb)] at h
      refine go_ops aMi298 1 _ (f1 := (169, ([(0, .ref a0), (6, .int i6)], [.ref a0]))) rfl ?_
      refine gg_gR (b := (a0 + 30)) aMi298 rfl rfl rfl (gR_of (sh11_z ha0) (sh11_r61 ha0)) ?_
      refine go_ops aMi298 2 _ (f1 := (175, ([(0, .ref a0), (6, .int i6)], [.ref a0, .int (6 : Int32), .ref (a0 + 30)]))) rfl ?_
      refine gg_gI aMi298 rfl rfl rfl (gI_of (sh11_z ha0)) ?_
      refine go_ops aMi298 4 _ (f1 := (183, ([(0, .ref a0), (6, .int i6)], [.ref a0, .int (((6 : Int32) * (I a0 60)) + i6), .ref (a0 + 30)]))) rfl ?_
      refine gg_gR (b := (a0 + 28)) aMi298 rfl rfl rfl (gR_of (sh11_z ha0) (sh11_r56 ha0)) ?_
      refine go_ops aMi298 1 _ (f1 := (188, ([(0, .ref a0), (6, .int i6)], [.int i6, .ref (a0 + 28), .int (((6 : Int32) * (I a0 60)) + i6), .ref (a0 + 30)]))) rfl ?_
      obtain ⟨j188_4, hxj188_4, h⟩ := Option.bind_eq_some_iff.mp h
      refine gg_lI (Or.inl ⟨rfl, rfl⟩) aMi298 rfl (lI_of (sh11_a56 ha0) hxj188_4) ?_
      obtain ⟨j189_6, hxj189_6, h⟩ := Option.bind_eq_some_iff.mp h
      obtain ⟨I189_5, hxI189_5, h⟩ := Option.bind_eq_some_iff.mp h
      refine gg_sI (Or.inl ⟨rfl, rfl⟩) aMi298 rfl (sI_of (sh11_a61 ha0) hxj189_6 hxI189_5) ?_
      refine go_ops aMi298 1 _ (f1 := (191, ([(0, .ref a0), (6, .int i6)], [.ref a0]))) rfl ?_
      refine gg_gR (b := (a0 + 32)) aMi298 rfl rfl rfl (gR_of (sh11_z ha0) (sh11_r63 ha0)) ?_
      refine go_ops aMi298 2 _ (f1 := (197, ([(0, .ref a0), (6, .int i6)], [.ref a0, .int (6 : Int32), .ref (a0 + 32)]))) rfl ?_
      refine gg_gI aMi298 rfl rfl rfl (gI_of (sh11_z ha0)) ?_
      refine go_ops aMi298 4 _ (f1 := (205, ([(0, .ref a0), (6, .int i6)], [.ref a0, .int (((6 : Int32) * (I189_5 a0 60)) + i6), .ref (a0 + 32)]))) rfl ?_
      refine gg_gR (b := (a0 + 29)) aMi298 rfl rfl rfl (gR_of (sh11_z ha0) (sh11_r57 ha0)) ?_
      refine go_ops aMi298 1 _ (f1 := (210, ([(0, .ref a0), (6, .int i6)], [.int i6, .ref (a0 + 29), .int (((6 : Int32) * (I189_5 a0 60)) + i6), .ref (a0 + 32)]))) rfl ?_
      obtain ⟨j210_7, hxj210_7, h⟩ := Option.bind_eq_some_iff.mp h
      refine gg_lI (Or.inl ⟨rfl, rfl⟩) aMi298 rfl (lI_of (sh11_a57 ha0) hxj210_7) ?_
      obtain ⟨j211_9, hxj211_9, h⟩ := Option.bind_eq_some_iff.mp h
      obtain ⟨I211_8, hxI211_8, h⟩ := Option.bind_eq_some_iff.mp h
      refine gg_sI (Or.inl ⟨rfl, rfl⟩) aMi298 rfl (sI_of (sh11_a63 ha0) hxj211_9 hxI211_8) ?_
      refine go_ops aMi298 2 _ (f1 := (161, ([(6, .int (i6 + (1 : Int32))), (0, .ref a0)], []))) rfl ?_
      refine go_le (lv1 := [(0, .ref a0), (6, .int (i6 + (1 : Int32)))]) (aLe_of (show (List.map (fun q => q.1) ([(0, .ref a0), (6, .int (i6 + (1 : Int32)))] : ALv)).Nodup from (by show ([0, 6] : List Nat).Nodup; decide)) (aSubL_cons rfl (aSubL_cons rfl aSubL_nil))) ?_
      exact ih a0 ha0 (i6 + (1 : Int32)) I211_8 _ h
def f298_b73 (kad : Nat → Nat) (N : Nat) (Z : AZ) (a0 : Nat) (i1 : Int32) (i2 : Int32) (i3 : Int32) (i4 : Int32) (s0 : Int32) (I : AI) : Option (Int32 × AI) :=
  (f185 kad N Z a0 s0 I).bind fun r73_1 =>
  if ¬ r73_1.1 = 0 then
    (ixA 5 ((r73_1.2) a0 60)).bind fun j90_3 =>
    (wI r73_1.2 (a0 + 34) j90_3 i1).bind fun I90_2 =>
    (ixA 5 (I90_2 a0 60)).bind fun j100_5 =>
    (wI I90_2 (a0 + 35) j100_5 i2).bind fun I100_4 =>
    (ixA 5 (I100_4 a0 60)).bind fun j110_7 =>
    (wI I100_4 (a0 + 36) j110_7 i3).bind fun I110_6 =>
    (ixA 5 (I110_6 a0 60)).bind fun j121_9 =>
    (wI I110_6 (a0 + 37) j121_9 i4).bind fun I121_8 =>
    (ixA 5 (I121_8 a0 60)).bind fun j131_11 =>
    (wI I121_8 (a0 + 38) j131_11 (Int32.ofInt (-1))).bind fun I131_10 =>
    (ixA 5 (I131_10 a0 60)).bind fun j144_13 =>
    (wI I131_10 (a0 + 31) j144_13 (I131_10 a0 58)).bind fun I144_12 =>
    (ixA 5 (I144_12 a0 60)).bind fun j157_15 =>
    (wI I144_12 (a0 + 33) j157_15 (I144_12 a0 59)).bind fun I157_14 =>
    f298_b161 kad N Z N a0 (0 : Int32) I157_14
  else
    some ((0 : Int32), r73_1.2)
set_option maxRecDepth 20000 in
theorem Tf298_b73 {kad : Nat → Nat} {N : Nat} {Z : AZ} {d : Nat} {t : Option Nat × (Nat × Nat)} (hd : 1 ≤ d) : ∀ (a0 : Nat) (ha0 : sh11 kad Z a0) (i1 : Int32) (i2 : Int32) (i3 : Int32) (i4 : Int32) (s0 : Int32) (I : AI) (r : Int32 × AI), f298_b73 kad N Z a0 i1 i2 i3 i4 s0 I = some r → aGo kad d 298 (73, ([(0, .ref a0), (1, .int i1), (2, .int i2), (3, .int i3), (4, .int i4)], [.int s0, .ref a0])) (aMem Z I, t) (qI Z t r) := by
  intro a0 ha0 i1 i2 i3 i4 s0 I r h
  unfold f298_b73 at h
  obtain ⟨r73_1, hxr73_1, h⟩ := Option.bind_eq_some_iff.mp h
  refine gg_cv (as := [.int s0]) (r := []) aMi298 rfl rfl rfl aMi185 (Nat.le_of_ble_eq_true rfl) rfl (Nat.le_of_ble_eq_true rfl) (Nat.le_of_ble_eq_true rfl) (by omega) (isK_of (sh11_z ha0)) (Tf185 (by omega) a0 ha0 s0 I _ hxr73_1) ?_
  show aGo kad d 298 (76, ([(0, .ref a0), (1, .int i1), (2, .int i2), (3, .int i3), (4, .int i4)], [.int r73_1.1])) (aMem Z r73_1.2, t) _
  refine gg_br (b := decide (¬ r73_1.1 = 0)) (tg := 81) (off := 5) aMi298 rfl rfl rfl rfl (fun hb => ?_) (fun hb => ?_)
  · rw [if_pos (of_decide_eq_true hb)] at h
    refine go_ops aMi298 1 _ (f1 := (82, ([(0, .ref a0), (1, .int i1), (2, .int i2), (3, .int i3), (4, .int i4)], [.ref a0]))) rfl ?_
    refine gg_gR (b := (a0 + 34)) aMi298 rfl rfl rfl (gR_of (sh11_z ha0) (sh11_r65 ha0)) ?_
    refine go_ops aMi298 1 _ (f1 := (86, ([(0, .ref a0), (1, .int i1), (2, .int i2), (3, .int i3), (4, .int i4)], [.ref a0, .ref (a0 + 34)]))) rfl ?_
    refine gg_gI aMi298 rfl rfl rfl (gI_of (sh11_z ha0)) ?_
    refine go_ops aMi298 1 _ (f1 := (90, ([(0, .ref a0), (1, .int i1), (2, .int i2), (3, .int i3), (4, .int i4)], [.int i1, .int ((r73_1.2) a0 60), .ref (a0 + 34)]))) rfl ?_
    obtain ⟨j90_3, hxj90_3, h⟩ := Option.bind_eq_some_iff.mp h
    obtain ⟨I90_2, hxI90_2, h⟩ := Option.bind_eq_some_iff.mp h
    refine gg_sI (Or.inl ⟨rfl, rfl⟩) aMi298 rfl (sI_of (sh11_a65 ha0) hxj90_3 hxI90_2) ?_
    refine go_ops aMi298 1 _ (f1 := (92, ([(0, .ref a0), (1, .int i1), (2, .int i2), (3, .int i3), (4, .int i4)], [.ref a0]))) rfl ?_
    refine gg_gR (b := (a0 + 35)) aMi298 rfl rfl rfl (gR_of (sh11_z ha0) (sh11_r66 ha0)) ?_
    refine go_ops aMi298 1 _ (f1 := (96, ([(0, .ref a0), (1, .int i1), (2, .int i2), (3, .int i3), (4, .int i4)], [.ref a0, .ref (a0 + 35)]))) rfl ?_
    refine gg_gI aMi298 rfl rfl rfl (gI_of (sh11_z ha0)) ?_
    refine go_ops aMi298 1 _ (f1 := (100, ([(0, .ref a0), (1, .int i1), (2, .int i2), (3, .int i3), (4, .int i4)], [.int i2, .int (I90_2 a0 60), .ref (a0 + 35)]))) rfl ?_
    obtain ⟨j100_5, hxj100_5, h⟩ := Option.bind_eq_some_iff.mp h
    obtain ⟨I100_4, hxI100_4, h⟩ := Option.bind_eq_some_iff.mp h
    refine gg_sI (Or.inl ⟨rfl, rfl⟩) aMi298 rfl (sI_of (sh11_a66 ha0) hxj100_5 hxI100_4) ?_
    refine go_ops aMi298 1 _ (f1 := (102, ([(0, .ref a0), (1, .int i1), (2, .int i2), (3, .int i3), (4, .int i4)], [.ref a0]))) rfl ?_
    refine gg_gR (b := (a0 + 36)) aMi298 rfl rfl rfl (gR_of (sh11_z ha0) (sh11_r67 ha0)) ?_
    refine go_ops aMi298 1 _ (f1 := (106, ([(0, .ref a0), (1, .int i1), (2, .int i2), (3, .int i3), (4, .int i4)], [.ref a0, .ref (a0 + 36)]))) rfl ?_
    refine gg_gI aMi298 rfl rfl rfl (gI_of (sh11_z ha0)) ?_
    refine go_ops aMi298 1 _ (f1 := (110, ([(0, .ref a0), (1, .int i1), (2, .int i2), (3, .int i3), (4, .int i4)], [.int i3, .int (I100_4 a0 60), .ref (a0 + 36)]))) rfl ?_
    obtain ⟨j110_7, hxj110_7, h⟩ := Option.bind_eq_some_iff.mp h
    obtain ⟨I110_6, hxI110_6, h⟩ := Option.bind_eq_some_iff.mp h
    refine gg_sI (Or.inl ⟨rfl, rfl⟩) aMi298 rfl (sI_of (sh11_a67 ha0) hxj110_7 hxI110_6) ?_
    refine go_ops aMi298 1 _ (f1 := (112, ([(0, .ref a0), (1, .int i1), (2, .int i2), (3, .int i3), (4, .int i4)], [.ref a0]))) rfl ?_
    refine gg_gR (b := (a0 + 37)) aMi298 rfl rfl rfl (gR_of (sh11_z ha0) (sh11_r68 ha0)) ?_
    refine go_ops aMi298 1 _ (f1 := (116, ([(0, .ref a0), (1, .int i1), (2, .int i2), (3, .int i3), (4, .int i4)], [.ref a0, .ref (a0 + 37)]))) rfl ?_
    refine gg_gI aMi298 rfl rfl rfl (gI_of (sh11_z ha0)) ?_
    refine go_ops aMi298 1 _ (f1 := (121, ([(0, .ref a0), (1, .int i1), (2, .int i2), (3, .int i3), (4, .int i4)], [.int i4, .int (I110_6 a0 60), .ref (a0 + 37)]))) rfl ?_
    obtain ⟨j121_9, hxj121_9, h⟩ := Option.bind_eq_some_iff.mp h
    obtain ⟨I121_8, hxI121_8, h⟩ := Option.bind_eq_some_iff.mp h
    refine gg_sI (Or.inl ⟨rfl, rfl⟩) aMi298 rfl (sI_of (sh11_a68 ha0) hxj121_9 hxI121_8) ?_
    refine go_ops aMi298 1 _ (f1 := (123, ([(0, .ref a0), (1, .int i1), (2, .int i2), (3, .int i3), (4, .int i4)], [.ref a0]))) rfl ?_
    refine gg_gR (b := (a0 + 38)) aMi298 rfl rfl rfl (gR_of (sh11_z ha0) (sh11_r69 ha0)) ?_
    refine go_ops aMi298 1 _ (f1 := (127, ([(0, .ref a0), (1, .int i1), (2, .int i2), (3, .int i3), (4, .int i4)], [.ref a0, .ref (a0 + 38)]))) rfl ?_
    refine gg_gI aMi298 rfl rfl rfl (gI_of (sh11_z ha0)) ?_
    refine go_ops aMi298 1 _ (f1 := (131, ([(0, .ref a0), (1, .int i1), (2, .int i2), (3, .int i3), (4, .int i4)], [.int (Int32.ofInt (-1)), .int (I121_8 a0 60), .ref (a0 + 38)]))) rfl ?_
    obtain ⟨j131_11, hxj131_11, h⟩ := Option.bind_eq_some_iff.mp h
    obtain ⟨I131_10, hxI131_10, h⟩ := Option.bind_eq_some_iff.mp h
    refine gg_sI (Or.inl ⟨rfl, rfl⟩) aMi298 rfl (sI_of (sh11_a69 ha0) hxj131_11 hxI131_10) ?_
    refine go_ops aMi298 1 _ (f1 := (133, ([(0, .ref a0), (1, .int i1), (2, .int i2), (3, .int i3), (4, .int i4)], [.ref a0]))) rfl ?_
    refine gg_gR (b := (a0 + 31)) aMi298 rfl rfl rfl (gR_of (sh11_z ha0) (sh11_r62 ha0)) ?_
    refine go_ops aMi298 1 _ (f1 := (137, ([(0, .ref a0), (1, .int i1), (2, .int i2), (3, .int i3), (4, .int i4)], [.ref a0, .ref (a0 + 31)]))) rfl ?_
    refine gg_gI aMi298 rfl rfl rfl (gI_of (sh11_z ha0)) ?_
    refine go_ops aMi298 1 _ (f1 := (141, ([(0, .ref a0), (1, .int i1), (2, .int i2), (3, .int i3), (4, .int i4)], [.ref a0, .int (I131_10 a0 60), .ref (a0 + 31)]))) rfl ?_
    refine gg_gI aMi298 rfl rfl rfl (gI_of (sh11_z ha0)) ?_
    obtain ⟨j144_13, hxj144_13, h⟩ := Option.bind_eq_some_iff.mp h
    obtain ⟨I144_12, hxI144_12, h⟩ := Option.bind_eq_some_iff.mp h
    refine gg_sI (Or.inl ⟨rfl, rfl⟩) aMi298 rfl (sI_of (sh11_a62 ha0) hxj144_13 hxI144_12) ?_
    refine go_ops aMi298 1 _ (f1 := (146, ([(0, .ref a0), (1, .int i1), (2, .int i2), (3, .int i3), (4, .int i4)], [.ref a0]))) rfl ?_
    refine gg_gR (b := (a0 + 33)) aMi298 rfl rfl rfl (gR_of (sh11_z ha0) (sh11_r64 ha0)) ?_
    refine go_ops aMi298 1 _ (f1 := (150, ([(0, .ref a0), (1, .int i1), (2, .int i2), (3, .int i3), (4, .int i4)], [.ref a0, .ref (a0 + 33)]))) rfl ?_
    refine gg_gI aMi298 rfl rfl rfl (gI_of (sh11_z ha0)) ?_
    refine go_ops aMi298 1 _ (f1 := (154, ([(0, .ref a0), (1, .int i1), (2, .int i2), (3, .int i3), (4, .int i4)], [.ref a0, .int (I144_12 a0 60), .ref (a0 + 33)]))) rfl ?_
    refine gg_gI aMi298 rfl rfl rfl (gI_of (sh11_z ha0)) ?_
    obtain ⟨j157_15, hxj157_15, h⟩ := Option.bind_eq_some_iff.mp h
    obtain ⟨I157_14, hxI157_14, h⟩ := Option.bind_eq_some_iff.mp h
    refine gg_sI (Or.inl ⟨rfl, rfl⟩) aMi298 rfl (sI_of (sh11_a64 ha0) hxj157_15 hxI157_14) ?_
    refine go_ops aMi298 2 _ (f1 := (161, ([(6, .int (0 : Int32)), (0, .ref a0), (1, .int i1), (2, .int i2), (3, .int i3), (4, .int i4)], []))) rfl ?_
    refine go_le (lv1 := [(0, .ref a0), (6, .int (0 : Int32))]) (aLe_of (show (List.map (fun q => q.1) ([(0, .ref a0), (6, .int (0 : Int32))] : ALv)).Nodup from (by show ([0, 6] : List Nat).Nodup; decide)) (aSubL_cons rfl (aSubL_cons rfl aSubL_nil))) ?_
    exact Tf298_b161 hd N a0 ha0 (0 : Int32) I157_14 _ h
  · rw [if_neg (of_decide_eq_false hb)] at h
    refine go_ops aMi298 1 _ (f1 := (80, ([(0, .ref a0), (1, .int i1), (2, .int i2), (3, .int i3), (4, .int i4)], [.int (0 : Int32)]))) rfl ?_
    cases h
    exact go_ret aMi298 rfl aRetI ⟨rfl, rfl⟩
def f298_b48 (kad : Nat → Nat) (N : Nat) (Z : AZ) (a0 : Nat) (i1 : Int32) (i2 : Int32) (i3 : Int32) (i4 : Int32) (s0 : Int32) (I : AI) : Option (Int32 × AI) :=
  if ¬ s0 = 0 then
    if ¬ (I a0 60) = (5 : Int32) then
      f298_b73 kad N Z a0 i1 i2 i3 i4 (0 : Int32) I
    else
      f298_b73 kad N Z a0 i1 i2 i3 i4 (2 : Int32) I
  else
    f298_b73 kad N Z a0 i1 i2 i3 i4 (1 : Int32) I
set_option maxRecDepth 20000 in
theorem Tf298_b48 {kad : Nat → Nat} {N : Nat} {Z : AZ} {d : Nat} {t : Option Nat × (Nat × Nat)} (hd : 1 ≤ d) : ∀ (a0 : Nat) (ha0 : sh11 kad Z a0) (i1 : Int32) (i2 : Int32) (i3 : Int32) (i4 : Int32) (s0 : Int32) (I : AI) (r : Int32 × AI), f298_b48 kad N Z a0 i1 i2 i3 i4 s0 I = some r → aGo kad d 298 (48, ([(0, .ref a0), (1, .int i1), (2, .int i2), (3, .int i3), (4, .int i4)], [.int s0])) (aMem Z I, t) (qI Z t r) := by
  intro a0 ha0 i1 i2 i3 i4 s0 I r h
  unfold f298_b48 at h
  refine go_ops aMi298 3 _ (f1 := (53, ([(5, .int s0), (0, .ref a0), (1, .int i1), (2, .int i2), (3, .int i3), (4, .int i4)], [.int s0, .ref a0]))) rfl ?_
  refine gg_br (b := decide (¬ s0 = 0)) (tg := 60) (off := 7) aMi298 rfl rfl rfl rfl (fun hb => ?_) (fun hb => ?_)
  · rw [if_pos (of_decide_eq_true hb)] at h
    refine go_ops aMi298 1 _ (f1 := (61, ([(5, .int s0), (0, .ref a0), (1, .int i1), (2, .int i2), (3, .int i3), (4, .int i4)], [.ref a0, .ref a0]))) rfl ?_
    refine gg_gI aMi298 rfl rfl rfl (gI_of (sh11_z ha0)) ?_
    refine go_ops aMi298 1 _ (f1 := (65, ([(5, .int s0), (0, .ref a0), (1, .int i1), (2, .int i2), (3, .int i3), (4, .int i4)], [.int (5 : Int32), .int (I a0 60), .ref a0]))) rfl ?_
    refine gg_br (b := decide (¬ (I a0 60) = (5 : Int32))) (tg := 72) (off := 7) aMi298 rfl rfl rfl rfl (fun hb => ?_) (fun hb => ?_)
    · rw [if_pos (of_decide_eq_true hb)] at h
      refine go_ops aMi298 1 _ (f1 := (73, ([(5, .int s0), (0, .ref a0), (1, .int i1), (2, .int i2), (3, .int i3), (4, .int i4)], [.int (0 : Int32), .ref a0]))) rfl ?_
      refine go_le (lv1 := [(0, .ref a0), (1, .int i1), (2, .int i2), (3, .int i3), (4, .int i4)]) (aLe_of (show (List.map (fun q => q.1) ([(0, .ref a0), (1, .int i1), (2, .int i2), (3, .int i3), (4, .int i4)] : ALv)).Nodup from (by show ([0, 1, 2, 3, 4] : List Nat).Nodup; decide)) (aSubL_cons rfl (aSubL_cons rfl (aSubL_cons rfl (aSubL_cons rfl (aSubL_cons rfl aSubL_nil)))))) ?_
      exact Tf298_b73 hd a0 ha0 i1 i2 i3 i4 (0 : Int32) I _ h
    · rw [if_neg (of_decide_eq_false hb)] at h
      refine go_ops aMi298 2 _ (f1 := (73, ([(5, .int s0), (0, .ref a0), (1, .int i1), (2, .int i2), (3, .int i3), (4, .int i4)], [.int (2 : Int32), .ref a0]))) rfl ?_
      refine go_le (lv1 := [(0, .ref a0), (1, .int i1), (2, .int i2), (3, .int i3), (4, .int i4)]) (aLe_of (show (List.map (fun q => q.1) ([(0, .ref a0), (1, .int i1), (2, .int i2), (3, .int i3), (4, .int i4)] : ALv)).Nodup from (by show ([0, 1, 2, 3, 4] : List Nat).Nodup; decide)) (aSubL_cons rfl (aSubL_cons rfl (aSubL_cons rfl (aSubL_cons rfl (aSubL_cons rfl aSubL_nil)))))) ?_
      exact Tf298_b73 hd a0 ha0 i1 i2 i3 i4 (2 : Int32) I _ h
  · rw [if_neg (of_decide_eq_false hb)] at h
    refine go_ops aMi298 2 _ (f1 := (73, ([(5, .int s0), (0, .ref a0), (1, .int i1), (2, .int i2), (3, .int i3), (4, .int i4)], [.int (1 : Int32), .ref a0]))) rfl ?_
    refine go_le (lv1 := [(0, .ref a0), (1, .int i1), (2, .int i2), (3, .int i3), (4, .int i4)]) (aLe_of (show (List.map (fun q => q.1) ([(0, .ref a0), (1, .int i1), (2, .int i2), (3, .int i3), (4, .int i4)] : ALv)).Nodup from (by show ([0, 1, 2, 3, 4] : List Nat).Nodup; decide)) (aSubL_cons rfl (aSubL_cons rfl (aSubL_cons rfl (aSubL_cons rfl (aSubL_cons rfl aSubL_nil)))))) ?_
    exact Tf298_b73 hd a0 ha0 i1 i2 i3 i4 (1 : Int32) I _ h
def f298_b47 (kad : Nat → Nat) (N : Nat) (Z : AZ) (a0 : Nat) (i1 : Int32) (i2 : Int32) (i3 : Int32) (i4 : Int32) (I : AI) : Option (Int32 × AI) :=
  f298_b48 kad N Z a0 i1 i2 i3 i4 (0 : Int32) I
set_option maxRecDepth 20000 in
theorem Tf298_b47 {kad : Nat → Nat} {N : Nat} {Z : AZ} {d : Nat} {t : Option Nat × (Nat × Nat)} (hd : 1 ≤ d) : ∀ (a0 : Nat) (ha0 : sh11 kad Z a0) (i1 : Int32) (i2 : Int32) (i3 : Int32) (i4 : Int32) (I : AI) (r : Int32 × AI), f298_b47 kad N Z a0 i1 i2 i3 i4 I = some r → aGo kad d 298 (47, ([(0, .ref a0), (1, .int i1), (2, .int i2), (3, .int i3), (4, .int i4)], [])) (aMem Z I, t) (qI Z t r) := by
  intro a0 ha0 i1 i2 i3 i4 I r h
  unfold f298_b47 at h
  refine go_ops aMi298 1 _ (f1 := (48, ([(0, .ref a0), (1, .int i1), (2, .int i2), (3, .int i3), (4, .int i4)], [.int (0 : Int32)]))) rfl ?_
  exact Tf298_b48 hd a0 ha0 i1 i2 i3 i4 (0 : Int32) I _ h
def f298 (kad : Nat → Nat) (N : Nat) (Z : AZ) (a0 : Nat) (i1 : Int32) (i2 : Int32) (i3 : Int32) (i4 : Int32) (I : AI) : Option (Int32 × AI) :=
  (f186 kad N Z i1 (1 : Int32) (500 : Int32) I).bind fun r5_1 =>
  if r5_1.1 = 0 then
    f298_b47 kad N Z a0 i1 i2 i3 i4 r5_1.2
  else
    (f186 kad N Z i2 (0 : Int32) (100 : Int32) r5_1.2).bind fun r15_2 =>
    if r15_2.1 = 0 then
      f298_b47 kad N Z a0 i1 i2 i3 i4 r15_2.2
    else
      (f186 kad N Z i3 (1 : Int32) (20 : Int32) r15_2.2).bind fun r25_3 =>
      if r25_3.1 = 0 then
        f298_b47 kad N Z a0 i1 i2 i3 i4 r25_3.2
      else
        (f186 kad N Z i4 (0 : Int32) (500 : Int32) r25_3.2).bind fun r37_4 =>
        if r37_4.1 = 0 then
          f298_b47 kad N Z a0 i1 i2 i3 i4 r37_4.2
        else
          f298_b48 kad N Z a0 i1 i2 i3 i4 (1 : Int32) r37_4.2
set_option maxRecDepth 20000 in
theorem Tf298 {kad : Nat → Nat} {N : Nat} {Z : AZ} {d : Nat} {t : Option Nat × (Nat × Nat)} (hd : 1 ≤ d) : ∀ (a0 : Nat) (ha0 : sh11 kad Z a0) (i1 : Int32) (i2 : Int32) (i3 : Int32) (i4 : Int32) (I : AI) (r : Int32 × AI), f298 kad N Z a0 i1 i2 i3 i4 I = some r → aGo kad d 298 (0, ([(0, .ref a0), (1, .int i1), (2, .int i2), (3, .int i3), (4, .int i4)], [])) (aMem Z I, t) (qI Z t r) := by
  intro a0 ha0 i1 i2 i3 i4 I r h
  unfold f298 at h
  refine go_ops aMi298 3 _ (f1 := (5, ([(0, .ref a0), (1, .int i1), (2, .int i2), (3, .int i3), (4, .int i4)], [.int (500 : Int32), .int (1 : Int32), .int i1]))) rfl ?_
  obtain ⟨r5_1, hxr5_1, h⟩ := Option.bind_eq_some_iff.mp h
  refine gg_cs (as := [.int i1, .int (1 : Int32), .int (500 : Int32)]) (r := []) aMi298 rfl rfl rfl aMi186 rfl (Nat.le_of_ble_eq_true rfl) (Nat.le_of_ble_eq_true rfl) (by omega) (Tf186 (by omega) i1 (1 : Int32) (500 : Int32) I _ hxr5_1) ?_
  show aGo kad d 298 (8, ([(0, .ref a0), (1, .int i1), (2, .int i2), (3, .int i3), (4, .int i4)], [.int r5_1.1])) (aMem Z r5_1.2, t) _
  refine gg_br (b := decide (r5_1.1 = 0)) (tg := 47) (off := 39) aMi298 rfl rfl rfl rfl (fun hb => ?_) (fun hb => ?_)
  · rw [if_pos (of_decide_eq_true hb)] at h
    exact Tf298_b47 hd a0 ha0 i1 i2 i3 i4 r5_1.2 _ h
  · rw [if_neg (of_decide_eq_false hb)] at h
    refine go_ops aMi298 3 _ (f1 := (15, ([(0, .ref a0), (1, .int i1), (2, .int i2), (3, .int i3), (4, .int i4)], [.int (100 : Int32), .int (0 : Int32), .int i2]))) rfl ?_
    obtain ⟨r15_2, hxr15_2, h⟩ := Option.bind_eq_some_iff.mp h
    refine gg_cs (as := [.int i2, .int (0 : Int32), .int (100 : Int32)]) (r := []) aMi298 rfl rfl rfl aMi186 rfl (Nat.le_of_ble_eq_true rfl) (Nat.le_of_ble_eq_true rfl) (by omega) (Tf186 (by omega) i2 (0 : Int32) (100 : Int32) r5_1.2 _ hxr15_2) ?_
    show aGo kad d 298 (18, ([(0, .ref a0), (1, .int i1), (2, .int i2), (3, .int i3), (4, .int i4)], [.int r15_2.1])) (aMem Z r15_2.2, t) _
    refine gg_br (b := decide (r15_2.1 = 0)) (tg := 47) (off := 29) aMi298 rfl rfl rfl rfl (fun hb => ?_) (fun hb => ?_)
    · rw [if_pos (of_decide_eq_true hb)] at h
      exact Tf298_b47 hd a0 ha0 i1 i2 i3 i4 r15_2.2 _ h
    · rw [if_neg (of_decide_eq_false hb)] at h
      refine go_ops aMi298 3 _ (f1 := (25, ([(0, .ref a0), (1, .int i1), (2, .int i2), (3, .int i3), (4, .int i4)], [.int (20 : Int32), .int (1 : Int32), .int i3]))) rfl ?_
      obtain ⟨r25_3, hxr25_3, h⟩ := Option.bind_eq_some_iff.mp h
      refine gg_cs (as := [.int i3, .int (1 : Int32), .int (20 : Int32)]) (r := []) aMi298 rfl rfl rfl aMi186 rfl (Nat.le_of_ble_eq_true rfl) (Nat.le_of_ble_eq_true rfl) (by omega) (Tf186 (by omega) i3 (1 : Int32) (20 : Int32) r15_2.2 _ hxr25_3) ?_
      show aGo kad d 298 (28, ([(0, .ref a0), (1, .int i1), (2, .int i2), (3, .int i3), (4, .int i4)], [.int r25_3.1])) (aMem Z r25_3.2, t) _
      refine gg_br (b := decide (r25_3.1 = 0)) (tg := 47) (off := 19) aMi298 rfl rfl rfl rfl (fun hb => ?_) (fun hb => ?_)
      · rw [if_pos (of_decide_eq_true hb)] at h
        exact Tf298_b47 hd a0 ha0 i1 i2 i3 i4 r25_3.2 _ h
      · rw [if_neg (of_decide_eq_false hb)] at h
        refine go_ops aMi298 3 _ (f1 := (37, ([(0, .ref a0), (1, .int i1), (2, .int i2), (3, .int i3), (4, .int i4)], [.int (500 : Int32), .int (0 : Int32), .int i4]))) rfl ?_
        obtain ⟨r37_4, hxr37_4, h⟩ := Option.bind_eq_some_iff.mp h
        refine gg_cs (as := [.int i4, .int (0 : Int32), .int (500 : Int32)]) (r := []) aMi298 rfl rfl rfl aMi186 rfl (Nat.le_of_ble_eq_true rfl) (Nat.le_of_ble_eq_true rfl) (by omega) (Tf186 (by omega) i4 (0 : Int32) (500 : Int32) r25_3.2 _ hxr37_4) ?_
        show aGo kad d 298 (40, ([(0, .ref a0), (1, .int i1), (2, .int i2), (3, .int i3), (4, .int i4)], [.int r37_4.1])) (aMem Z r37_4.2, t) _
        refine gg_br (b := decide (r37_4.1 = 0)) (tg := 47) (off := 7) aMi298 rfl rfl rfl rfl (fun hb => ?_) (fun hb => ?_)
        · rw [if_pos (of_decide_eq_true hb)] at h
          exact Tf298_b47 hd a0 ha0 i1 i2 i3 i4 r37_4.2 _ h
        · rw [if_neg (of_decide_eq_false hb)] at h
          refine go_ops aMi298 2 _ (f1 := (48, ([(0, .ref a0), (1, .int i1), (2, .int i2), (3, .int i3), (4, .int i4)], [.int (1 : Int32)]))) rfl ?_
          exact Tf298_b48 hd a0 ha0 i1 i2 i3 i4 (1 : Int32) r37_4.2 _ h
